def w_L_law_J3472 (G : gaG)  (K27 : Nat → Nat → Nat → Nat → Int → gaH → Nat → Nat → Prop) (v0 : Nat) (v1 : Nat) (v2 : Nat) (v3 : Nat) (v4 : Int) (h : gaH) (kc ks : Nat) : Prop := K27 v0 v1 v2 v3 (v4 + 5) h kc ks
def w_L_law_J3458 (G : gaG)  (K27 : Nat → Nat → Nat → Nat → Int → gaH → Nat → Nat → Prop) (v0 : Nat) (v1 : Nat) (v2 : Nat) (v3 : Nat) (v4 : Int) (h : gaH) (kc ks : Nat) : Prop := gHas h v1 5 ∧ gCall 78 468 kc ks (fun c3 s4 => w_X5_digest G (fun _ _ => False) v1 h (fun r2 hp1 => gHas hp1 v2 7 ∧ gCall 1200 73228 c3 s4 (fun c7 s8 => w_X7_digest v2 hp1 (fun r6 hp5 => gR (gCmp r2 r6) ∧ (if (gCmp r2 r6) = 0 then w_L_law_J3472 G K27 v0 v1 v2 v3 v4 hp5 c7 s8 else False)))))
def w_L_law_J3445 (G : gaG)  (K27 : Nat → Nat → Nat → Nat → Int → gaH → Nat → Nat → Prop) (v0 : Nat) (v1 : Nat) (v2 : Nat) (v3 : Nat) (v4 : Int) (h : gaH) (kc ks : Nat) : Prop := gHas h v1 5 ∧ gCall 18 108 kc ks (fun c3 s4 => w_X5_isSound G (fun _ _ => False) v1 h (fun r2 hp1 => gHas hp1 v2 7 ∧ gCall 928 55564 c3 s4 (fun c7 s8 => w_X7_isSound v2 hp1 (fun r6 hp5 => gR r2 ∧ gR r6 ∧ (if r2 = r6 then w_L_law_J3472 G K27 v0 v1 v2 v3 v4 hp5 c7 s8 else False)))))
def w_L_law_J3432 (G : gaG)  (K27 : Nat → Nat → Nat → Nat → Int → gaH → Nat → Nat → Prop) (v0 : Nat) (v1 : Nat) (v2 : Nat) (v3 : Nat) (v4 : Int) (h : gaH) (kc ks : Nat) : Prop := gHas h v1 5 ∧ w_X5_knock v1 h (fun r2 hp1 => gHas hp1 v2 7 ∧ w_X7_knock v2 hp1 (fun r4 hp3 => r2 = r4 ∧ (w_L_law_J3472 G K27 v0 v1 v2 v3 v4 hp3 kc ks)))
def w_L_law_J3375 (G : gaG)  (K27 : Nat → Nat → Nat → Nat → Int → gaH → Nat → Nat → Prop) (v0 : Nat) (v1 : Nat) (v2 : Nat) (v3 : Nat) (v4 : Int) (h : gaH) (kc ks : Nat) : Prop := gLI h v0 102 (v4 + 1) (fun r1 => gCall 1 6 kc ks (fun c4 s5 => w_L_house v1 r1 v3 h (fun r3 hp2 => gLI hp2 v0 102 (v4 + 1) (fun r6 => gHas hp2 v2 7 ∧ w_X7_house v2 r6 hp2 (fun r8 hp7 => gHas hp7 v2 7 ∧ w_X7_thrown v2 hp7 (fun r10 hp9 => gR r10 ∧ gR r3 ∧ (if r10 = r3 then gR r3 ∧ (if r3 = 0 then gL hp9 v3 6 0 (fun r11 => gR (gCmp r11 (gI2l r8)) ∧ (if (gCmp r11 (gI2l r8)) = 0 then w_L_law_J3472 G K27 v0 v1 v2 v3 v4 hp9 c4 s5 else False)) else w_L_law_J3472 G K27 v0 v1 v2 v3 v4 hp9 c4 s5) else False)))))))
def w_L_law_J3318 (G : gaG)  (K27 : Nat → Nat → Nat → Nat → Int → gaH → Nat → Nat → Prop) (v0 : Nat) (v1 : Nat) (v2 : Nat) (v3 : Nat) (v4 : Int) (h : gaH) (kc ks : Nat) : Prop := gLI h v0 102 (v4 + 1) (fun r1 => gCall 1 6 kc ks (fun c4 s5 => w_L_alike v1 r1 v3 h (fun r3 hp2 => gLI hp2 v0 102 (v4 + 1) (fun r6 => gHas hp2 v2 7 ∧ gCall 136 8832 c4 s5 (fun c9 s10 => w_X7_alike v2 r6 hp2 (fun r8 hp7 => gHas hp7 v2 7 ∧ w_X7_thrown v2 hp7 (fun r12 hp11 => gR r12 ∧ gR r3 ∧ (if r12 = r3 then gR r3 ∧ (if r3 = 0 then gL hp11 v3 6 0 (fun r13 => gR (gCmp r13 (gI2l r8)) ∧ (if (gCmp r13 (gI2l r8)) = 0 then w_L_law_J3472 G K27 v0 v1 v2 v3 v4 hp11 c9 s10 else False)) else w_L_law_J3472 G K27 v0 v1 v2 v3 v4 hp11 c9 s10) else False))))))))
def w_L_law_J3261 (G : gaG)  (K27 : Nat → Nat → Nat → Nat → Int → gaH → Nat → Nat → Prop) (v0 : Nat) (v1 : Nat) (v2 : Nat) (v3 : Nat) (v4 : Int) (h : gaH) (kc ks : Nat) : Prop := gLI h v0 102 (v4 + 1) (fun r1 => gCall 1 6 kc ks (fun c4 s5 => w_L_cross v1 r1 v3 h (fun r3 hp2 => gLI hp2 v0 102 (v4 + 1) (fun r6 => gHas hp2 v2 7 ∧ gCall 134 8576 c4 s5 (fun c9 s10 => w_X7_cross v2 r6 hp2 (fun r8 hp7 => gHas hp7 v2 7 ∧ w_X7_thrown v2 hp7 (fun r12 hp11 => gR r12 ∧ gR r3 ∧ (if r12 = r3 then gR r3 ∧ (if r3 = 0 then gL hp11 v3 6 0 (fun r13 => gR (gCmp r13 (gI2l r8)) ∧ (if (gCmp r13 (gI2l r8)) = 0 then w_L_law_J3472 G K27 v0 v1 v2 v3 v4 hp11 c9 s10 else False)) else w_L_law_J3472 G K27 v0 v1 v2 v3 v4 hp11 c9 s10) else False))))))))
def w_L_law_J3224 (G : gaG)  (K27 : Nat → Nat → Nat → Nat → Int → gaH → Nat → Nat → Prop) (v0 : Nat) (v1 : Nat) (v2 : Nat) (v3 : Nat) (v4 : Int) (v5 : Int) (t0 : Nat) (t1 : Int) (t2 : Int) (h : gaH) (kc ks : Nat) : Prop := gHas h t0 7 ∧ gCall 67 4288 kc ks (fun c3 s4 => w_X7_ups t0 t1 t2 h (fun r2 hp1 => gHas hp1 v2 7 ∧ w_X7_thrown v2 hp1 (fun r6 hp5 => gR r6 ∧ gR v5 ∧ (if r6 = v5 then gR v5 ∧ (if v5 = 0 then gL hp5 v3 6 0 (fun r7 => gR (gCmp r7 (gI2l r2)) ∧ (if (gCmp r7 (gI2l r2)) = 0 then w_L_law_J3472 G K27 v0 v1 v2 v3 v4 hp5 c3 s4 else False)) else w_L_law_J3472 G K27 v0 v1 v2 v3 v4 hp5 c3 s4) else False))))
def w_L_law_J3197 (G : gaG)  (K27 : Nat → Nat → Nat → Nat → Int → gaH → Nat → Nat → Prop) (v0 : Nat) (v1 : Nat) (v2 : Nat) (v3 : Nat) (v4 : Int) (t0 : Nat) (t1 : Int) (t2 : Int) (h : gaH) (kc ks : Nat) : Prop := gCall 1 6 kc ks (fun c3 s4 => w_L_ups t0 t1 t2 v3 h (fun r2 hp1 => gLI hp1 v0 102 (v4 + 1) (fun r5 => gLI hp1 v0 102 (v4 + 2) (fun r6 => gR r6 ∧ (if r6 = 0 then w_L_law_J3224 G K27 v0 v1 v2 v3 v4 r2 v2 r5 0 hp1 c3 s4 else w_L_law_J3224 G K27 v0 v1 v2 v3 v4 r2 v2 r5 1 hp1 c3 s4)))))
def w_L_law_J3176 (G : gaG)  (K27 : Nat → Nat → Nat → Nat → Int → gaH → Nat → Nat → Prop) (v0 : Nat) (v1 : Nat) (v2 : Nat) (v3 : Nat) (v4 : Int) (h : gaH) (kc ks : Nat) : Prop := gLI h v0 102 (v4 + 1) (fun r1 => gLI h v0 102 (v4 + 2) (fun r2 => gR r2 ∧ (if r2 = 0 then w_L_law_J3197 G K27 v0 v1 v2 v3 v4 v1 r1 0 h kc ks else w_L_law_J3197 G K27 v0 v1 v2 v3 v4 v1 r1 1 h kc ks)))
def w_L_law_J3139 (G : gaG)  (K27 : Nat → Nat → Nat → Nat → Int → gaH → Nat → Nat → Prop) (v0 : Nat) (v1 : Nat) (v2 : Nat) (v3 : Nat) (v4 : Int) (v5 : Int) (t0 : Nat) (t1 : Int) (t2 : Int) (h : gaH) (kc ks : Nat) : Prop := gHas h t0 7 ∧ gCall 67 4288 kc ks (fun c3 s4 => w_X7_size t0 t1 t2 h (fun r2 hp1 => gHas hp1 v2 7 ∧ w_X7_thrown v2 hp1 (fun r6 hp5 => gR r6 ∧ gR v5 ∧ (if r6 = v5 then gR v5 ∧ (if v5 = 0 then gL hp5 v3 6 0 (fun r7 => gR (gCmp r7 (gI2l r2)) ∧ (if (gCmp r7 (gI2l r2)) = 0 then w_L_law_J3472 G K27 v0 v1 v2 v3 v4 hp5 c3 s4 else False)) else w_L_law_J3472 G K27 v0 v1 v2 v3 v4 hp5 c3 s4) else False))))
def w_L_law_J3112 (G : gaG)  (K27 : Nat → Nat → Nat → Nat → Int → gaH → Nat → Nat → Prop) (v0 : Nat) (v1 : Nat) (v2 : Nat) (v3 : Nat) (v4 : Int) (t0 : Nat) (t1 : Int) (t2 : Int) (h : gaH) (kc ks : Nat) : Prop := gCall 1 6 kc ks (fun c3 s4 => w_L_size t0 t1 t2 v3 h (fun r2 hp1 => gLI hp1 v0 102 (v4 + 1) (fun r5 => gLI hp1 v0 102 (v4 + 2) (fun r6 => gR r6 ∧ (if r6 = 0 then w_L_law_J3139 G K27 v0 v1 v2 v3 v4 r2 v2 r5 0 hp1 c3 s4 else w_L_law_J3139 G K27 v0 v1 v2 v3 v4 r2 v2 r5 1 hp1 c3 s4)))))
def w_L_law_J3091 (G : gaG)  (K27 : Nat → Nat → Nat → Nat → Int → gaH → Nat → Nat → Prop) (v0 : Nat) (v1 : Nat) (v2 : Nat) (v3 : Nat) (v4 : Int) (h : gaH) (kc ks : Nat) : Prop := gLI h v0 102 (v4 + 1) (fun r1 => gLI h v0 102 (v4 + 2) (fun r2 => gR r2 ∧ (if r2 = 0 then w_L_law_J3112 G K27 v0 v1 v2 v3 v4 v1 r1 0 h kc ks else w_L_law_J3112 G K27 v0 v1 v2 v3 v4 v1 r1 1 h kc ks)))
def w_L_law_J3053 (G : gaG)  (K27 : Nat → Nat → Nat → Nat → Int → gaH → Nat → Nat → Prop) (v0 : Nat) (v1 : Nat) (v2 : Nat) (v3 : Nat) (v4 : Int) (v5 : Int) (t0 : Nat) (t1 : Int) (t2 : Int) (h : gaH) (kc ks : Nat) : Prop := gHas h t0 7 ∧ gCall 202 13204 kc ks (fun c3 s4 => w_X7_grown G t0 t1 t2 h (fun r2 hp1 => gHas hp1 v2 7 ∧ w_X7_thrown v2 hp1 (fun r6 hp5 => gR r6 ∧ gR v5 ∧ (if r6 = v5 then gR v5 ∧ (if v5 = 0 then gA hp5 v3 6 1 (fun r7 => gHas hp5 r7 0 ∧ w_J0_equals_9ea2d G r7 r2 hp5 (fun r9 hp8 => gR r9 ∧ (if r9 = 0 then False else w_L_law_J3472 G K27 v0 v1 v2 v3 v4 hp8 c3 s4))) else w_L_law_J3472 G K27 v0 v1 v2 v3 v4 hp5 c3 s4) else False))))
def w_L_law_J3026 (G : gaG)  (K27 : Nat → Nat → Nat → Nat → Int → gaH → Nat → Nat → Prop) (v0 : Nat) (v1 : Nat) (v2 : Nat) (v3 : Nat) (v4 : Int) (t0 : Nat) (t1 : Int) (t2 : Int) (h : gaH) (kc ks : Nat) : Prop := gCall 136 8922 kc ks (fun c3 s4 => w_L_grown G t0 t1 t2 v3 h (fun r2 hp1 => gLI hp1 v0 102 (v4 + 1) (fun r5 => gLI hp1 v0 102 (v4 + 2) (fun r6 => gR r6 ∧ (if r6 = 0 then w_L_law_J3053 G K27 v0 v1 v2 v3 v4 r2 v2 r5 0 hp1 c3 s4 else w_L_law_J3053 G K27 v0 v1 v2 v3 v4 r2 v2 r5 1 hp1 c3 s4)))))
def w_L_law_J3005 (G : gaG)  (K27 : Nat → Nat → Nat → Nat → Int → gaH → Nat → Nat → Prop) (v0 : Nat) (v1 : Nat) (v2 : Nat) (v3 : Nat) (v4 : Int) (h : gaH) (kc ks : Nat) : Prop := gLI h v0 102 (v4 + 1) (fun r1 => gLI h v0 102 (v4 + 2) (fun r2 => gR r2 ∧ (if r2 = 0 then w_L_law_J3026 G K27 v0 v1 v2 v3 v4 v1 r1 0 h kc ks else w_L_law_J3026 G K27 v0 v1 v2 v3 v4 v1 r1 1 h kc ks)))
def w_L_law_J2947 (G : gaG)  (K27 : Nat → Nat → Nat → Nat → Int → gaH → Nat → Nat → Prop) (v0 : Nat) (v1 : Nat) (v2 : Nat) (v3 : Nat) (v4 : Int) (h : gaH) (kc ks : Nat) : Prop := gLI h v0 102 (v4 + 1) (fun r1 => gCall 136 8922 kc ks (fun c4 s5 => w_L_turns G v1 r1 v3 h (fun r3 hp2 => gLI hp2 v0 102 (v4 + 1) (fun r6 => gHas hp2 v2 7 ∧ gCall 135 8916 c4 s5 (fun c9 s10 => w_X7_turns G v2 r6 hp2 (fun r8 hp7 => gHas hp7 v2 7 ∧ w_X7_thrown v2 hp7 (fun r12 hp11 => gR r12 ∧ gR r3 ∧ (if r12 = r3 then gR r3 ∧ (if r3 = 0 then gA hp11 v3 6 1 (fun r13 => gHas hp11 r13 0 ∧ w_J0_equals_9ea2d G r13 r8 hp11 (fun r15 hp14 => gR r15 ∧ (if r15 = 0 then False else w_L_law_J3472 G K27 v0 v1 v2 v3 v4 hp14 c9 s10))) else w_L_law_J3472 G K27 v0 v1 v2 v3 v4 hp11 c9 s10) else False))))))))
def w_L_law_J2938 (G : gaG)  (K27 : Nat → Nat → Nat → Nat → Int → gaH → Nat → Nat → Prop) (v0 : Nat) (v1 : Nat) (v2 : Nat) (v3 : Nat) (v4 : Int) (t0 : Int64) (t1 : Int64) (h : gaH) (kc ks : Nat) : Prop := gR (gCmp t0 t1) ∧ (if (gCmp t0 t1) = 0 then w_L_law_J3472 G K27 v0 v1 v2 v3 v4 h kc ks else False)
def w_L_law_J2871 (G : gaG)  (K27 : Nat → Nat → Nat → Nat → Int → gaH → Nat → Nat → Prop) (v0 : Nat) (v1 : Nat) (v2 : Nat) (v3 : Nat) (v4 : Int) (h : gaH) (kc ks : Nat) : Prop := gLI h v0 102 (v4 + 1) (fun r1 => gLI h v0 102 (v4 + 2) (fun r2 => gCall 2 12 kc ks (fun c5 s6 => w_L_isApart v1 r1 r2 v3 h (fun r4 hp3 => gLI hp3 v0 102 (v4 + 1) (fun r7 => gLI hp3 v0 102 (v4 + 2) (fun r8 => gHas hp3 v2 7 ∧ gCall 4 288 c5 s6 (fun c11 s12 => w_X7_isApart v2 r7 r8 hp3 (fun r10 hp9 => gHas hp9 v2 7 ∧ w_X7_thrown v2 hp9 (fun r14 hp13 => gR r14 ∧ gR r4 ∧ (if r14 = r4 then gR r4 ∧ (if r4 = 0 then gL hp13 v3 6 0 (fun r15 => gR r10 ∧ (if r10 = 0 then w_L_law_J2938 G K27 v0 v1 v2 v3 v4 r15 (0 : Int64) hp13 c11 s12 else w_L_law_J2938 G K27 v0 v1 v2 v3 v4 r15 (1 : Int64) hp13 c11 s12)) else w_L_law_J3472 G K27 v0 v1 v2 v3 v4 hp13 c11 s12) else False))))))))))
def w_L_law_J2814 (G : gaG)  (K27 : Nat → Nat → Nat → Nat → Int → gaH → Nat → Nat → Prop) (v0 : Nat) (v1 : Nat) (v2 : Nat) (v3 : Nat) (v4 : Int) (h : gaH) (kc ks : Nat) : Prop := gLI h v0 102 (v4 + 1) (fun r1 => gCall 1 6 kc ks (fun c4 s5 => w_L_least v1 r1 v3 h (fun r3 hp2 => gLI hp2 v0 102 (v4 + 1) (fun r6 => gHas hp2 v2 7 ∧ w_X7_least v2 r6 hp2 (fun r8 hp7 => gHas hp7 v2 7 ∧ w_X7_thrown v2 hp7 (fun r10 hp9 => gR r10 ∧ gR r3 ∧ (if r10 = r3 then gR r3 ∧ (if r3 = 0 then gL hp9 v3 6 0 (fun r11 => gR (gCmp r11 (gI2l r8)) ∧ (if (gCmp r11 (gI2l r8)) = 0 then w_L_law_J3472 G K27 v0 v1 v2 v3 v4 hp9 c4 s5 else False)) else w_L_law_J3472 G K27 v0 v1 v2 v3 v4 hp9 c4 s5) else False)))))))
def w_L_law_J2757 (G : gaG)  (K27 : Nat → Nat → Nat → Nat → Int → gaH → Nat → Nat → Prop) (v0 : Nat) (v1 : Nat) (v2 : Nat) (v3 : Nat) (v4 : Int) (h : gaH) (kc ks : Nat) : Prop := gLI h v0 102 (v4 + 1) (fun r1 => gCall 1 6 kc ks (fun c4 s5 => w_L_folds v1 r1 v3 h (fun r3 hp2 => gLI hp2 v0 102 (v4 + 1) (fun r6 => gHas hp2 v2 7 ∧ w_X7_folds v2 r6 hp2 (fun r8 hp7 => gHas hp7 v2 7 ∧ w_X7_thrown v2 hp7 (fun r10 hp9 => gR r10 ∧ gR r3 ∧ (if r10 = r3 then gR r3 ∧ (if r3 = 0 then gL hp9 v3 6 0 (fun r11 => gR (gCmp r11 (gI2l r8)) ∧ (if (gCmp r11 (gI2l r8)) = 0 then w_L_law_J3472 G K27 v0 v1 v2 v3 v4 hp9 c4 s5 else False)) else w_L_law_J3472 G K27 v0 v1 v2 v3 v4 hp9 c4 s5) else False)))))))
def w_L_law_J2700 (G : gaG)  (K27 : Nat → Nat → Nat → Nat → Int → gaH → Nat → Nat → Prop) (v0 : Nat) (v1 : Nat) (v2 : Nat) (v3 : Nat) (v4 : Int) (h : gaH) (kc ks : Nat) : Prop := gLI h v0 102 (v4 + 1) (fun r1 => gCall 1 6 kc ks (fun c4 s5 => w_L_mirrors v1 r1 v3 h (fun r3 hp2 => gLI hp2 v0 102 (v4 + 1) (fun r6 => gHas hp2 v2 7 ∧ w_X7_mirrors v2 r6 hp2 (fun r8 hp7 => gHas hp7 v2 7 ∧ w_X7_thrown v2 hp7 (fun r10 hp9 => gR r10 ∧ gR r3 ∧ (if r10 = r3 then gR r3 ∧ (if r3 = 0 then gL hp9 v3 6 0 (fun r11 => gR (gCmp r11 (gI2l r8)) ∧ (if (gCmp r11 (gI2l r8)) = 0 then w_L_law_J3472 G K27 v0 v1 v2 v3 v4 hp9 c4 s5 else False)) else w_L_law_J3472 G K27 v0 v1 v2 v3 v4 hp9 c4 s5) else False)))))))
def w_L_law_J2643 (G : gaG)  (K27 : Nat → Nat → Nat → Nat → Int → gaH → Nat → Nat → Prop) (v0 : Nat) (v1 : Nat) (v2 : Nat) (v3 : Nat) (v4 : Int) (h : gaH) (kc ks : Nat) : Prop := gLI h v0 102 (v4 + 1) (fun r1 => gCall 1 6 kc ks (fun c4 s5 => w_L_overlaps v1 r1 v3 h (fun r3 hp2 => gLI hp2 v0 102 (v4 + 1) (fun r6 => gHas hp2 v2 7 ∧ w_X7_overlaps v2 r6 hp2 (fun r8 hp7 => gHas hp7 v2 7 ∧ w_X7_thrown v2 hp7 (fun r10 hp9 => gR r10 ∧ gR r3 ∧ (if r10 = r3 then gR r3 ∧ (if r3 = 0 then gL hp9 v3 6 0 (fun r11 => gR (gCmp r11 (gI2l r8)) ∧ (if (gCmp r11 (gI2l r8)) = 0 then w_L_law_J3472 G K27 v0 v1 v2 v3 v4 hp9 c4 s5 else False)) else w_L_law_J3472 G K27 v0 v1 v2 v3 v4 hp9 c4 s5) else False)))))))
def w_L_law_J2586 (G : gaG)  (K27 : Nat → Nat → Nat → Nat → Int → gaH → Nat → Nat → Prop) (v0 : Nat) (v1 : Nat) (v2 : Nat) (v3 : Nat) (v4 : Int) (h : gaH) (kc ks : Nat) : Prop := gLI h v0 102 (v4 + 1) (fun r1 => gCall 1 6 kc ks (fun c4 s5 => w_L_times v1 r1 v3 h (fun r3 hp2 => gLI hp2 v0 102 (v4 + 1) (fun r6 => gHas hp2 v2 7 ∧ w_X7_times v2 r6 hp2 (fun r8 hp7 => gHas hp7 v2 7 ∧ w_X7_thrown v2 hp7 (fun r10 hp9 => gR r10 ∧ gR r3 ∧ (if r10 = r3 then gR r3 ∧ (if r3 = 0 then gL hp9 v3 6 0 (fun r11 => gR (gCmp r11 (gI2l r8)) ∧ (if (gCmp r11 (gI2l r8)) = 0 then w_L_law_J3472 G K27 v0 v1 v2 v3 v4 hp9 c4 s5 else False)) else w_L_law_J3472 G K27 v0 v1 v2 v3 v4 hp9 c4 s5) else False)))))))
def w_L_law_J2549 (G : gaG)  (K27 : Nat → Nat → Nat → Nat → Int → gaH → Nat → Nat → Prop) (v0 : Nat) (v1 : Nat) (v2 : Nat) (v3 : Nat) (v4 : Int) (v5 : Int) (t0 : Nat) (t1 : Int) (t2 : Int) (t3 : Int) (h : gaH) (kc ks : Nat) : Prop := gHas h t0 7 ∧ w_X7_kinds t0 t1 t2 t3 h (fun r2 hp1 => gHas hp1 v2 7 ∧ w_X7_thrown v2 hp1 (fun r4 hp3 => gR r4 ∧ gR v5 ∧ (if r4 = v5 then gR v5 ∧ (if v5 = 0 then gL hp3 v3 6 0 (fun r5 => gR (gCmp r5 (gI2l r2)) ∧ (if (gCmp r5 (gI2l r2)) = 0 then w_L_law_J3472 G K27 v0 v1 v2 v3 v4 hp3 kc ks else False)) else w_L_law_J3472 G K27 v0 v1 v2 v3 v4 hp3 kc ks) else False)))
def w_L_law_J2516 (G : gaG)  (K27 : Nat → Nat → Nat → Nat → Int → gaH → Nat → Nat → Prop) (v0 : Nat) (v1 : Nat) (v2 : Nat) (v3 : Nat) (v4 : Int) (t0 : Nat) (t1 : Int) (t2 : Int) (t3 : Int) (h : gaH) (kc ks : Nat) : Prop := gCall 2 12 kc ks (fun c3 s4 => w_L_kinds t0 t1 t2 t3 v3 h (fun r2 hp1 => gLI hp1 v0 102 (v4 + 1) (fun r5 => gLI hp1 v0 102 (v4 + 2) (fun r6 => gLI hp1 v0 102 (v4 + 3) (fun r7 => gR r7 ∧ (if r7 = 0 then w_L_law_J2549 G K27 v0 v1 v2 v3 v4 r2 v2 r5 r6 0 hp1 c3 s4 else w_L_law_J2549 G K27 v0 v1 v2 v3 v4 r2 v2 r5 r6 1 hp1 c3 s4))))))
def w_L_law_J2489 (G : gaG)  (K27 : Nat → Nat → Nat → Nat → Int → gaH → Nat → Nat → Prop) (v0 : Nat) (v1 : Nat) (v2 : Nat) (v3 : Nat) (v4 : Int) (h : gaH) (kc ks : Nat) : Prop := gLI h v0 102 (v4 + 1) (fun r1 => gLI h v0 102 (v4 + 2) (fun r2 => gLI h v0 102 (v4 + 3) (fun r3 => gR r3 ∧ (if r3 = 0 then w_L_law_J2516 G K27 v0 v1 v2 v3 v4 v1 r1 r2 0 h kc ks else w_L_law_J2516 G K27 v0 v1 v2 v3 v4 v1 r1 r2 1 h kc ks))))
def w_L_law_J2452 (G : gaG)  (K27 : Nat → Nat → Nat → Nat → Int → gaH → Nat → Nat → Prop) (v0 : Nat) (v1 : Nat) (v2 : Nat) (v3 : Nat) (v4 : Int) (v5 : Int) (t0 : Nat) (t1 : Int) (t2 : Int) (t3 : Int) (h : gaH) (kc ks : Nat) : Prop := gHas h t0 7 ∧ w_X7_spread t0 t1 t2 t3 h (fun r2 hp1 => gHas hp1 v2 7 ∧ w_X7_thrown v2 hp1 (fun r4 hp3 => gR r4 ∧ gR v5 ∧ (if r4 = v5 then gR v5 ∧ (if v5 = 0 then gL hp3 v3 6 0 (fun r5 => gR (gCmp r5 (gI2l r2)) ∧ (if (gCmp r5 (gI2l r2)) = 0 then w_L_law_J3472 G K27 v0 v1 v2 v3 v4 hp3 kc ks else False)) else w_L_law_J3472 G K27 v0 v1 v2 v3 v4 hp3 kc ks) else False)))
def w_L_law_J2419 (G : gaG)  (K27 : Nat → Nat → Nat → Nat → Int → gaH → Nat → Nat → Prop) (v0 : Nat) (v1 : Nat) (v2 : Nat) (v3 : Nat) (v4 : Int) (t0 : Nat) (t1 : Int) (t2 : Int) (t3 : Int) (h : gaH) (kc ks : Nat) : Prop := gCall 2 12 kc ks (fun c3 s4 => w_L_spread t0 t1 t2 t3 v3 h (fun r2 hp1 => gLI hp1 v0 102 (v4 + 1) (fun r5 => gLI hp1 v0 102 (v4 + 2) (fun r6 => gLI hp1 v0 102 (v4 + 3) (fun r7 => gR r7 ∧ (if r7 = 0 then w_L_law_J2452 G K27 v0 v1 v2 v3 v4 r2 v2 r5 r6 0 hp1 c3 s4 else w_L_law_J2452 G K27 v0 v1 v2 v3 v4 r2 v2 r5 r6 1 hp1 c3 s4))))))
def w_L_law_J2392 (G : gaG)  (K27 : Nat → Nat → Nat → Nat → Int → gaH → Nat → Nat → Prop) (v0 : Nat) (v1 : Nat) (v2 : Nat) (v3 : Nat) (v4 : Int) (h : gaH) (kc ks : Nat) : Prop := gLI h v0 102 (v4 + 1) (fun r1 => gLI h v0 102 (v4 + 2) (fun r2 => gLI h v0 102 (v4 + 3) (fun r3 => gR r3 ∧ (if r3 = 0 then w_L_law_J2419 G K27 v0 v1 v2 v3 v4 v1 r1 r2 0 h kc ks else w_L_law_J2419 G K27 v0 v1 v2 v3 v4 v1 r1 r2 1 h kc ks))))
def w_L_law_J2383 (G : gaG)  (K27 : Nat → Nat → Nat → Nat → Int → gaH → Nat → Nat → Prop) (v0 : Nat) (v1 : Nat) (v2 : Nat) (v3 : Nat) (v4 : Int) (t0 : Int64) (t1 : Int64) (h : gaH) (kc ks : Nat) : Prop := gR (gCmp t0 t1) ∧ (if (gCmp t0 t1) = 0 then w_L_law_J3472 G K27 v0 v1 v2 v3 v4 h kc ks else False)
def w_L_law_J2328 (G : gaG)  (K27 : Nat → Nat → Nat → Nat → Int → gaH → Nat → Nat → Prop) (v0 : Nat) (v1 : Nat) (v2 : Nat) (v3 : Nat) (v4 : Int) (h : gaH) (kc ks : Nat) : Prop := gLI h v0 102 (v4 + 1) (fun r1 => gCall 1 6 kc ks (fun c4 s5 => w_L_isMirrored v1 r1 v3 h (fun r3 hp2 => gLI hp2 v0 102 (v4 + 1) (fun r6 => gHas hp2 v2 7 ∧ w_X7_isMirrored_ v2 r6 hp2 (fun r8 hp7 => gHas hp7 v2 7 ∧ w_X7_thrown v2 hp7 (fun r10 hp9 => gR r10 ∧ gR r3 ∧ (if r10 = r3 then gR r3 ∧ (if r3 = 0 then gL hp9 v3 6 0 (fun r11 => gR r8 ∧ (if r8 = 0 then w_L_law_J2383 G K27 v0 v1 v2 v3 v4 r11 (0 : Int64) hp9 c4 s5 else w_L_law_J2383 G K27 v0 v1 v2 v3 v4 r11 (1 : Int64) hp9 c4 s5)) else w_L_law_J3472 G K27 v0 v1 v2 v3 v4 hp9 c4 s5) else False)))))))
def w_L_law_J2259 (G : gaG)  (K27 : Nat → Nat → Nat → Nat → Int → gaH → Nat → Nat → Prop) (v0 : Nat) (v1 : Nat) (v2 : Nat) (v3 : Nat) (v4 : Int) (h : gaH) (kc ks : Nat) : Prop := gLI h v0 102 (v4 + 1) (fun r1 => gLI h v0 102 (v4 + 2) (fun r2 => gCall 2 12 kc ks (fun c5 s6 => w_L_order v1 r1 r2 v3 h (fun r4 hp3 => gLI hp3 v0 102 (v4 + 1) (fun r7 => gLI hp3 v0 102 (v4 + 2) (fun r8 => gHas hp3 v2 7 ∧ w_X7_order v2 r7 r8 hp3 (fun r10 hp9 => gHas hp9 v2 7 ∧ w_X7_thrown v2 hp9 (fun r12 hp11 => gR r12 ∧ gR r4 ∧ (if r12 = r4 then gR r4 ∧ (if r4 = 0 then gL hp11 v3 6 0 (fun r13 => gR (gCmp r13 (gI2l r10)) ∧ (if (gCmp r13 (gI2l r10)) = 0 then w_L_law_J3472 G K27 v0 v1 v2 v3 v4 hp11 c5 s6 else False)) else w_L_law_J3472 G K27 v0 v1 v2 v3 v4 hp11 c5 s6) else False)))))))))
def w_L_law_J2178 (G : gaG)  (K27 : Nat → Nat → Nat → Nat → Int → gaH → Nat → Nat → Prop) (v0 : Nat) (v1 : Nat) (v2 : Nat) (v3 : Nat) (v4 : Int) (h : gaH) (kc ks : Nat) : Prop := gLI h v0 102 (v4 + 1) (fun r1 => gLI h v0 102 (v4 + 2) (fun r2 => gLI h v0 102 (v4 + 3) (fun r3 => gCall 3 18 kc ks (fun c6 s7 => w_L_findLast v1 r1 r2 r3 v3 h (fun r5 hp4 => gLI hp4 v0 102 (v4 + 1) (fun r8 => gLI hp4 v0 102 (v4 + 2) (fun r9 => gLI hp4 v0 102 (v4 + 3) (fun r10 => gHas hp4 v2 7 ∧ w_X7_findLast v2 r8 r9 r10 hp4 (fun r12 hp11 => gHas hp11 v2 7 ∧ w_X7_thrown v2 hp11 (fun r14 hp13 => gR r14 ∧ gR r5 ∧ (if r14 = r5 then gR r5 ∧ (if r5 = 0 then gL hp13 v3 6 0 (fun r15 => gR (gCmp r15 (gI2l r12)) ∧ (if (gCmp r15 (gI2l r12)) = 0 then w_L_law_J3472 G K27 v0 v1 v2 v3 v4 hp13 c6 s7 else False)) else w_L_law_J3472 G K27 v0 v1 v2 v3 v4 hp13 c6 s7) else False)))))))))))
def w_L_law_J2097 (G : gaG)  (K27 : Nat → Nat → Nat → Nat → Int → gaH → Nat → Nat → Prop) (v0 : Nat) (v1 : Nat) (v2 : Nat) (v3 : Nat) (v4 : Int) (h : gaH) (kc ks : Nat) : Prop := gLI h v0 102 (v4 + 1) (fun r1 => gLI h v0 102 (v4 + 2) (fun r2 => gLI h v0 102 (v4 + 3) (fun r3 => gCall 3 18 kc ks (fun c6 s7 => w_L_find v1 r1 r2 r3 v3 h (fun r5 hp4 => gLI hp4 v0 102 (v4 + 1) (fun r8 => gLI hp4 v0 102 (v4 + 2) (fun r9 => gLI hp4 v0 102 (v4 + 3) (fun r10 => gHas hp4 v2 7 ∧ w_X7_find v2 r8 r9 r10 hp4 (fun r12 hp11 => gHas hp11 v2 7 ∧ w_X7_thrown v2 hp11 (fun r14 hp13 => gR r14 ∧ gR r5 ∧ (if r14 = r5 then gR r5 ∧ (if r5 = 0 then gL hp13 v3 6 0 (fun r15 => gR (gCmp r15 (gI2l r12)) ∧ (if (gCmp r15 (gI2l r12)) = 0 then w_L_law_J3472 G K27 v0 v1 v2 v3 v4 hp13 c6 s7 else False)) else w_L_law_J3472 G K27 v0 v1 v2 v3 v4 hp13 c6 s7) else False)))))))))))
def w_L_law_J2060 (G : gaG)  (K27 : Nat → Nat → Nat → Nat → Int → gaH → Nat → Nat → Prop) (v0 : Nat) (v1 : Nat) (v2 : Nat) (v3 : Nat) (v4 : Int) (v5 : Int) (t0 : Nat) (t1 : Int) (t2 : Int) (h : gaH) (kc ks : Nat) : Prop := gHas h t0 7 ∧ w_X7_count t0 t1 t2 h (fun r2 hp1 => gHas hp1 v2 7 ∧ w_X7_thrown v2 hp1 (fun r4 hp3 => gR r4 ∧ gR v5 ∧ (if r4 = v5 then gR v5 ∧ (if v5 = 0 then gL hp3 v3 6 0 (fun r5 => gR (gCmp r5 (gI2l r2)) ∧ (if (gCmp r5 (gI2l r2)) = 0 then w_L_law_J3472 G K27 v0 v1 v2 v3 v4 hp3 kc ks else False)) else w_L_law_J3472 G K27 v0 v1 v2 v3 v4 hp3 kc ks) else False)))
def w_L_law_J2033 (G : gaG)  (K27 : Nat → Nat → Nat → Nat → Int → gaH → Nat → Nat → Prop) (v0 : Nat) (v1 : Nat) (v2 : Nat) (v3 : Nat) (v4 : Int) (t0 : Nat) (t1 : Int) (t2 : Int) (h : gaH) (kc ks : Nat) : Prop := gCall 1 6 kc ks (fun c3 s4 => w_L_count t0 t1 t2 v3 h (fun r2 hp1 => gLI hp1 v0 102 (v4 + 1) (fun r5 => gLI hp1 v0 102 (v4 + 2) (fun r6 => gR r6 ∧ (if r6 = 0 then w_L_law_J2060 G K27 v0 v1 v2 v3 v4 r2 v2 r5 0 hp1 c3 s4 else w_L_law_J2060 G K27 v0 v1 v2 v3 v4 r2 v2 r5 1 hp1 c3 s4)))))
def w_L_law_J2012 (G : gaG)  (K27 : Nat → Nat → Nat → Nat → Int → gaH → Nat → Nat → Prop) (v0 : Nat) (v1 : Nat) (v2 : Nat) (v3 : Nat) (v4 : Int) (h : gaH) (kc ks : Nat) : Prop := gLI h v0 102 (v4 + 1) (fun r1 => gLI h v0 102 (v4 + 2) (fun r2 => gR r2 ∧ (if r2 = 0 then w_L_law_J2033 G K27 v0 v1 v2 v3 v4 v1 r1 0 h kc ks else w_L_law_J2033 G K27 v0 v1 v2 v3 v4 v1 r1 1 h kc ks)))
def w_L_law_J1954 (G : gaG)  (K27 : Nat → Nat → Nat → Nat → Int → gaH → Nat → Nat → Prop) (v0 : Nat) (v1 : Nat) (v2 : Nat) (v3 : Nat) (v4 : Int) (h : gaH) (kc ks : Nat) : Prop := gLI h v0 102 (v4 + 1) (fun r1 => gCall 136 8922 kc ks (fun c4 s5 => w_L_text G v1 r1 v3 h (fun r3 hp2 => gLI hp2 v0 102 (v4 + 1) (fun r6 => gHas hp2 v2 7 ∧ gCall 135 8916 c4 s5 (fun c9 s10 => w_X7_text G v2 r6 hp2 (fun r8 hp7 => gHas hp7 v2 7 ∧ w_X7_thrown v2 hp7 (fun r12 hp11 => gR r12 ∧ gR r3 ∧ (if r12 = r3 then gR r3 ∧ (if r3 = 0 then gA hp11 v3 6 1 (fun r13 => gHas hp11 r13 0 ∧ w_J0_equals_9ea2d G r13 r8 hp11 (fun r15 hp14 => gR r15 ∧ (if r15 = 0 then False else w_L_law_J3472 G K27 v0 v1 v2 v3 v4 hp14 c9 s10))) else w_L_law_J3472 G K27 v0 v1 v2 v3 v4 hp11 c9 s10) else False))))))))
def w_L_law_J1945 (G : gaG)  (K27 : Nat → Nat → Nat → Nat → Int → gaH → Nat → Nat → Prop) (v0 : Nat) (v1 : Nat) (v2 : Nat) (v3 : Nat) (v4 : Int) (t0 : Int64) (t1 : Int64) (h : gaH) (kc ks : Nat) : Prop := gR (gCmp t0 t1) ∧ (if (gCmp t0 t1) = 0 then w_L_law_J3472 G K27 v0 v1 v2 v3 v4 h kc ks else False)
def w_L_law_J1878 (G : gaG)  (K27 : Nat → Nat → Nat → Nat → Int → gaH → Nat → Nat → Prop) (v0 : Nat) (v1 : Nat) (v2 : Nat) (v3 : Nat) (v4 : Int) (h : gaH) (kc ks : Nat) : Prop := gLI h v0 102 (v4 + 1) (fun r1 => gLI h v0 102 (v4 + 2) (fun r2 => gCall 2 12 kc ks (fun c5 s6 => w_L_isB v1 r1 r2 v3 h (fun r4 hp3 => gLI hp3 v0 102 (v4 + 1) (fun r7 => gLI hp3 v0 102 (v4 + 2) (fun r8 => gHas hp3 v2 7 ∧ w_X7_isB v2 r7 r8 hp3 (fun r10 hp9 => gHas hp9 v2 7 ∧ w_X7_thrown v2 hp9 (fun r12 hp11 => gR r12 ∧ gR r4 ∧ (if r12 = r4 then gR r4 ∧ (if r4 = 0 then gL hp11 v3 6 0 (fun r13 => gR r10 ∧ (if r10 = 0 then w_L_law_J1945 G K27 v0 v1 v2 v3 v4 r13 (0 : Int64) hp11 c5 s6 else w_L_law_J1945 G K27 v0 v1 v2 v3 v4 r13 (1 : Int64) hp11 c5 s6)) else w_L_law_J3472 G K27 v0 v1 v2 v3 v4 hp11 c5 s6) else False)))))))))
def w_L_law_J1821 (G : gaG)  (K27 : Nat → Nat → Nat → Nat → Int → gaH → Nat → Nat → Prop) (v0 : Nat) (v1 : Nat) (v2 : Nat) (v3 : Nat) (v4 : Int) (h : gaH) (kc ks : Nat) : Prop := gLI h v0 102 (v4 + 1) (fun r1 => gCall 1 6 kc ks (fun c4 s5 => w_L_length v1 r1 v3 h (fun r3 hp2 => gLI hp2 v0 102 (v4 + 1) (fun r6 => gHas hp2 v2 7 ∧ w_X7_length v2 r6 hp2 (fun r8 hp7 => gHas hp7 v2 7 ∧ w_X7_thrown v2 hp7 (fun r10 hp9 => gR r10 ∧ gR r3 ∧ (if r10 = r3 then gR r3 ∧ (if r3 = 0 then gL hp9 v3 6 0 (fun r11 => gR (gCmp r11 (gI2l r8)) ∧ (if (gCmp r11 (gI2l r8)) = 0 then w_L_law_J3472 G K27 v0 v1 v2 v3 v4 hp9 c4 s5 else False)) else w_L_law_J3472 G K27 v0 v1 v2 v3 v4 hp9 c4 s5) else False)))))))
def w_L_law_J1764 (G : gaG)  (K27 : Nat → Nat → Nat → Nat → Int → gaH → Nat → Nat → Prop) (v0 : Nat) (v1 : Nat) (v2 : Nat) (v3 : Nat) (v4 : Int) (h : gaH) (kc ks : Nat) : Prop := gLI h v0 102 (v4 + 1) (fun r1 => gCall 1 6 kc ks (fun c4 s5 => w_L_fresh v1 r1 v3 h (fun r3 hp2 => gLI hp2 v0 102 (v4 + 1) (fun r6 => gHas hp2 v2 7 ∧ w_X7_fresh v2 r6 hp2 (fun r8 hp7 => gHas hp7 v2 7 ∧ w_X7_thrown v2 hp7 (fun r10 hp9 => gR r10 ∧ gR r3 ∧ (if r10 = r3 then gR r3 ∧ (if r3 = 0 then gL hp9 v3 6 0 (fun r11 => gR (gCmp r11 (gI2l r8)) ∧ (if (gCmp r11 (gI2l r8)) = 0 then w_L_law_J3472 G K27 v0 v1 v2 v3 v4 hp9 c4 s5 else False)) else w_L_law_J3472 G K27 v0 v1 v2 v3 v4 hp9 c4 s5) else False)))))))
def w_L_law_J1707 (G : gaG)  (K27 : Nat → Nat → Nat → Nat → Int → gaH → Nat → Nat → Prop) (v0 : Nat) (v1 : Nat) (v2 : Nat) (v3 : Nat) (v4 : Int) (h : gaH) (kc ks : Nat) : Prop := gLI h v0 102 (v4 + 1) (fun r1 => gCall 2 12 kc ks (fun c4 s5 => w_L_shrink v1 r1 v3 h (fun r3 hp2 => gLI hp2 v0 102 (v4 + 1) (fun r6 => gHas hp2 v2 7 ∧ w_X7_shrink v2 r6 hp2 (fun r8 hp7 => gHas hp7 v2 7 ∧ w_X7_thrown v2 hp7 (fun r10 hp9 => gR r10 ∧ gR r3 ∧ (if r10 = r3 then gR r3 ∧ (if r3 = 0 then gL hp9 v3 6 0 (fun r11 => gR (gCmp r11 (gI2l r8)) ∧ (if (gCmp r11 (gI2l r8)) = 0 then w_L_law_J3472 G K27 v0 v1 v2 v3 v4 hp9 c4 s5 else False)) else w_L_law_J3472 G K27 v0 v1 v2 v3 v4 hp9 c4 s5) else False)))))))
def w_L_law_J1638 (G : gaG)  (K27 : Nat → Nat → Nat → Nat → Int → gaH → Nat → Nat → Prop) (v0 : Nat) (v1 : Nat) (v2 : Nat) (v3 : Nat) (v4 : Int) (h : gaH) (kc ks : Nat) : Prop := gLI h v0 102 (v4 + 1) (fun r1 => gLI h v0 102 (v4 + 2) (fun r2 => gCall 2 12 kc ks (fun c5 s6 => w_L_grow v1 r1 r2 v3 h (fun r4 hp3 => gLI hp3 v0 102 (v4 + 1) (fun r7 => gLI hp3 v0 102 (v4 + 2) (fun r8 => gHas hp3 v2 7 ∧ gCall 133 8197 c5 s6 (fun c11 s12 => w_X7_grow v2 r7 r8 hp3 (fun r10 hp9 => gHas hp9 v2 7 ∧ w_X7_thrown v2 hp9 (fun r14 hp13 => gR r14 ∧ gR r4 ∧ (if r14 = r4 then gR r4 ∧ (if r4 = 0 then gL hp13 v3 6 0 (fun r15 => gR (gCmp r15 (gI2l r10)) ∧ (if (gCmp r15 (gI2l r10)) = 0 then w_L_law_J3472 G K27 v0 v1 v2 v3 v4 hp13 c11 s12 else False)) else w_L_law_J3472 G K27 v0 v1 v2 v3 v4 hp13 c11 s12) else False))))))))))
def w_L_law_J1545 (G : gaG)  (K27 : Nat → Nat → Nat → Nat → Int → gaH → Nat → Nat → Prop) (v0 : Nat) (v1 : Nat) (v2 : Nat) (v3 : Nat) (v4 : Int) (h : gaH) (kc ks : Nat) : Prop := gLI h v0 102 (v4 + 1) (fun r1 => gLI h v0 102 (v4 + 2) (fun r2 => gLI h v0 102 (v4 + 3) (fun r3 => gLI h v0 102 (v4 + 4) (fun r4 => gCall 4 24 kc ks (fun c7 s8 => w_L_line v1 r1 r2 r3 r4 v3 h (fun r6 hp5 => gLI hp5 v0 102 (v4 + 1) (fun r9 => gLI hp5 v0 102 (v4 + 2) (fun r10 => gLI hp5 v0 102 (v4 + 3) (fun r11 => gLI hp5 v0 102 (v4 + 4) (fun r12 => gHas hp5 v2 7 ∧ gCall 1 64 c7 s8 (fun c15 s16 => w_X7_line v2 r9 r10 r11 r12 hp5 (fun r14 hp13 => gHas hp13 v2 7 ∧ w_X7_thrown v2 hp13 (fun r18 hp17 => gR r18 ∧ gR r6 ∧ (if r18 = r6 then gR r6 ∧ (if r6 = 0 then gL hp17 v3 6 0 (fun r19 => gR (gCmp r19 (gI2l r14)) ∧ (if (gCmp r19 (gI2l r14)) = 0 then w_L_law_J3472 G K27 v0 v1 v2 v3 v4 hp17 c15 s16 else False)) else w_L_law_J3472 G K27 v0 v1 v2 v3 v4 hp17 c15 s16) else False))))))))))))))
def w_L_law_J1464 (G : gaG)  (K27 : Nat → Nat → Nat → Nat → Int → gaH → Nat → Nat → Prop) (v0 : Nat) (v1 : Nat) (v2 : Nat) (v3 : Nat) (v4 : Int) (h : gaH) (kc ks : Nat) : Prop := gLI h v0 102 (v4 + 1) (fun r1 => gLI h v0 102 (v4 + 2) (fun r2 => gLI h v0 102 (v4 + 3) (fun r3 => gCall 3 18 kc ks (fun c6 s7 => w_L_twos v1 r1 r2 r3 v3 h (fun r5 hp4 => gLI hp4 v0 102 (v4 + 1) (fun r8 => gLI hp4 v0 102 (v4 + 2) (fun r9 => gLI hp4 v0 102 (v4 + 3) (fun r10 => gHas hp4 v2 7 ∧ gCall 44 4928 c6 s7 (fun c13 s14 => w_X7_twos v2 r8 r9 r10 hp4 (fun r12 hp11 => gHas hp11 v2 7 ∧ w_X7_thrown v2 hp11 (fun r16 hp15 => gR r16 ∧ gR r5 ∧ (if r16 = r5 then gR r5 ∧ (if r5 = 0 then gL hp15 v3 6 0 (fun r17 => gR (gCmp r17 (gI2l r12)) ∧ (if (gCmp r17 (gI2l r12)) = 0 then w_L_law_J3472 G K27 v0 v1 v2 v3 v4 hp15 c13 s14 else False)) else w_L_law_J3472 G K27 v0 v1 v2 v3 v4 hp15 c13 s14) else False))))))))))))
def w_L_law_J1383 (G : gaG)  (K27 : Nat → Nat → Nat → Nat → Int → gaH → Nat → Nat → Prop) (v0 : Nat) (v1 : Nat) (v2 : Nat) (v3 : Nat) (v4 : Int) (h : gaH) (kc ks : Nat) : Prop := gLI h v0 102 (v4 + 1) (fun r1 => gLI h v0 102 (v4 + 2) (fun r2 => gLI h v0 102 (v4 + 3) (fun r3 => gCall 3 18 kc ks (fun c6 s7 => w_L_lay G v1 r1 r2 r3 v3 h (fun r5 hp4 => gLI hp4 v0 102 (v4 + 1) (fun r8 => gLI hp4 v0 102 (v4 + 2) (fun r9 => gLI hp4 v0 102 (v4 + 3) (fun r10 => gHas hp4 v2 7 ∧ gCall 391 22856 c6 s7 (fun c13 s14 => w_X7_lay v2 r8 r9 r10 hp4 (fun r12 hp11 => gHas hp11 v2 7 ∧ w_X7_thrown v2 hp11 (fun r16 hp15 => gR r16 ∧ gR r5 ∧ (if r16 = r5 then gR r5 ∧ (if r5 = 0 then gL hp15 v3 6 0 (fun r17 => gR (gCmp r17 (gI2l r12)) ∧ (if (gCmp r17 (gI2l r12)) = 0 then w_L_law_J3472 G K27 v0 v1 v2 v3 v4 hp15 c13 s14 else False)) else w_L_law_J3472 G K27 v0 v1 v2 v3 v4 hp15 c13 s14) else False))))))))))))
def w_L_law_J1302 (G : gaG)  (K27 : Nat → Nat → Nat → Nat → Int → gaH → Nat → Nat → Prop) (v0 : Nat) (v1 : Nat) (v2 : Nat) (v3 : Nat) (v4 : Int) (h : gaH) (kc ks : Nat) : Prop := gLI h v0 102 (v4 + 1) (fun r1 => gLI h v0 102 (v4 + 2) (fun r2 => gLI h v0 102 (v4 + 3) (fun r3 => gCall 4 24 kc ks (fun c6 s7 => w_L_undo v1 r1 r2 r3 v3 h (fun r5 hp4 => gLI hp4 v0 102 (v4 + 1) (fun r8 => gLI hp4 v0 102 (v4 + 2) (fun r9 => gLI hp4 v0 102 (v4 + 3) (fun r10 => gHas hp4 v2 7 ∧ gCall 8 450 c6 s7 (fun c13 s14 => w_X7_undo v2 r8 r9 r10 hp4 (fun r12 hp11 => gHas hp11 v2 7 ∧ w_X7_thrown v2 hp11 (fun r16 hp15 => gR r16 ∧ gR r5 ∧ (if r16 = r5 then gR r5 ∧ (if r5 = 0 then gL hp15 v3 6 0 (fun r17 => gR (gCmp r17 (gI2l r12)) ∧ (if (gCmp r17 (gI2l r12)) = 0 then w_L_law_J3472 G K27 v0 v1 v2 v3 v4 hp15 c13 s14 else False)) else w_L_law_J3472 G K27 v0 v1 v2 v3 v4 hp15 c13 s14) else False))))))))))))
def w_L_law_J1221 (G : gaG)  (K27 : Nat → Nat → Nat → Nat → Int → gaH → Nat → Nat → Prop) (v0 : Nat) (v1 : Nat) (v2 : Nat) (v3 : Nat) (v4 : Int) (h : gaH) (kc ks : Nat) : Prop := gLI h v0 102 (v4 + 1) (fun r1 => gLI h v0 102 (v4 + 2) (fun r2 => gLI h v0 102 (v4 + 3) (fun r3 => gCall 3 18 kc ks (fun c6 s7 => w_L_apply v1 r1 r2 r3 v3 h (fun r5 hp4 => gLI hp4 v0 102 (v4 + 1) (fun r8 => gLI hp4 v0 102 (v4 + 2) (fun r9 => gLI hp4 v0 102 (v4 + 3) (fun r10 => gHas hp4 v2 7 ∧ gCall 3 288 c6 s7 (fun c13 s14 => w_X7_apply v2 r8 r9 r10 hp4 (fun r12 hp11 => gHas hp11 v2 7 ∧ w_X7_thrown v2 hp11 (fun r16 hp15 => gR r16 ∧ gR r5 ∧ (if r16 = r5 then gR r5 ∧ (if r5 = 0 then gL hp15 v3 6 0 (fun r17 => gR (gCmp r17 (gI2l r12)) ∧ (if (gCmp r17 (gI2l r12)) = 0 then w_L_law_J3472 G K27 v0 v1 v2 v3 v4 hp15 c13 s14 else False)) else w_L_law_J3472 G K27 v0 v1 v2 v3 v4 hp15 c13 s14) else False))))))))))))
def w_L_law_J1152 (G : gaG)  (K27 : Nat → Nat → Nat → Nat → Int → gaH → Nat → Nat → Prop) (v0 : Nat) (v1 : Nat) (v2 : Nat) (v3 : Nat) (v4 : Int) (h : gaH) (kc ks : Nat) : Prop := gLI h v0 102 (v4 + 1) (fun r1 => gLI h v0 102 (v4 + 2) (fun r2 => gCall 2 12 kc ks (fun c5 s6 => w_L_copy v1 r1 r2 v3 h (fun r4 hp3 => gLI hp3 v0 102 (v4 + 1) (fun r7 => gLI hp3 v0 102 (v4 + 2) (fun r8 => gHas hp3 v2 7 ∧ w_X7_copy v2 r7 r8 hp3 (fun r10 hp9 => gHas hp9 v2 7 ∧ w_X7_thrown v2 hp9 (fun r12 hp11 => gR r12 ∧ gR r4 ∧ (if r12 = r4 then gR r4 ∧ (if r4 = 0 then gL hp11 v3 6 0 (fun r13 => gR (gCmp r13 (gI2l r10)) ∧ (if (gCmp r13 (gI2l r10)) = 0 then w_L_law_J3472 G K27 v0 v1 v2 v3 v4 hp11 c5 s6 else False)) else w_L_law_J3472 G K27 v0 v1 v2 v3 v4 hp11 c5 s6) else False)))))))))
def w_L_law_J1083 (G : gaG)  (K27 : Nat → Nat → Nat → Nat → Int → gaH → Nat → Nat → Prop) (v0 : Nat) (v1 : Nat) (v2 : Nat) (v3 : Nat) (v4 : Int) (h : gaH) (kc ks : Nat) : Prop := gLI h v0 102 (v4 + 1) (fun r1 => gLI h v0 102 (v4 + 2) (fun r2 => gCall 2 12 kc ks (fun c5 s6 => w_L_rotate v1 r1 r2 v3 h (fun r4 hp3 => gLI hp3 v0 102 (v4 + 1) (fun r7 => gLI hp3 v0 102 (v4 + 2) (fun r8 => gHas hp3 v2 7 ∧ gCall 1 64 c5 s6 (fun c11 s12 => w_X7_rotate v2 r7 r8 hp3 (fun r10 hp9 => gHas hp9 v2 7 ∧ w_X7_thrown v2 hp9 (fun r14 hp13 => gR r14 ∧ gR r4 ∧ (if r14 = r4 then gR r4 ∧ (if r4 = 0 then gL hp13 v3 6 0 (fun r15 => gR (gCmp r15 (gI2l r10)) ∧ (if (gCmp r15 (gI2l r10)) = 0 then w_L_law_J3472 G K27 v0 v1 v2 v3 v4 hp13 c11 s12 else False)) else w_L_law_J3472 G K27 v0 v1 v2 v3 v4 hp13 c11 s12) else False))))))))))
def w_L_law_J1026 (G : gaG)  (K27 : Nat → Nat → Nat → Nat → Int → gaH → Nat → Nat → Prop) (v0 : Nat) (v1 : Nat) (v2 : Nat) (v3 : Nat) (v4 : Int) (h : gaH) (kc ks : Nat) : Prop := gLI h v0 102 (v4 + 1) (fun r1 => gCall 1 6 kc ks (fun c4 s5 => w_L_exchange v1 r1 v3 h (fun r3 hp2 => gLI hp2 v0 102 (v4 + 1) (fun r6 => gHas hp2 v2 7 ∧ gCall 3 384 c4 s5 (fun c9 s10 => w_X7_exchange v2 r6 hp2 (fun r8 hp7 => gHas hp7 v2 7 ∧ w_X7_thrown v2 hp7 (fun r12 hp11 => gR r12 ∧ gR r3 ∧ (if r12 = r3 then gR r3 ∧ (if r3 = 0 then gL hp11 v3 6 0 (fun r13 => gR (gCmp r13 (gI2l r8)) ∧ (if (gCmp r13 (gI2l r8)) = 0 then w_L_law_J3472 G K27 v0 v1 v2 v3 v4 hp11 c9 s10 else False)) else w_L_law_J3472 G K27 v0 v1 v2 v3 v4 hp11 c9 s10) else False))))))))
def w_L_law_J969 (G : gaG)  (K27 : Nat → Nat → Nat → Nat → Int → gaH → Nat → Nat → Prop) (v0 : Nat) (v1 : Nat) (v2 : Nat) (v3 : Nat) (v4 : Int) (h : gaH) (kc ks : Nat) : Prop := gLI h v0 102 (v4 + 1) (fun r1 => gCall 1 6 kc ks (fun c4 s5 => w_L_turn v1 r1 v3 h (fun r3 hp2 => gLI hp2 v0 102 (v4 + 1) (fun r6 => gHas hp2 v2 7 ∧ gCall 1 64 c4 s5 (fun c9 s10 => w_X7_turn v2 r6 hp2 (fun r8 hp7 => gHas hp7 v2 7 ∧ w_X7_thrown v2 hp7 (fun r12 hp11 => gR r12 ∧ gR r3 ∧ (if r12 = r3 then gR r3 ∧ (if r3 = 0 then gL hp11 v3 6 0 (fun r13 => gR (gCmp r13 (gI2l r8)) ∧ (if (gCmp r13 (gI2l r8)) = 0 then w_L_law_J3472 G K27 v0 v1 v2 v3 v4 hp11 c9 s10 else False)) else w_L_law_J3472 G K27 v0 v1 v2 v3 v4 hp11 c9 s10) else False))))))))
def w_L_law_J900 (G : gaG)  (K27 : Nat → Nat → Nat → Nat → Int → gaH → Nat → Nat → Prop) (v0 : Nat) (v1 : Nat) (v2 : Nat) (v3 : Nat) (v4 : Int) (h : gaH) (kc ks : Nat) : Prop := gLI h v0 102 (v4 + 1) (fun r1 => gLI h v0 102 (v4 + 2) (fun r2 => gCall 2 12 kc ks (fun c5 s6 => w_L_cutTo v1 r1 r2 v3 h (fun r4 hp3 => gLI hp3 v0 102 (v4 + 1) (fun r7 => gLI hp3 v0 102 (v4 + 2) (fun r8 => gHas hp3 v2 7 ∧ gCall 1 64 c5 s6 (fun c11 s12 => w_X7_cutTo v2 r7 r8 hp3 (fun r10 hp9 => gHas hp9 v2 7 ∧ w_X7_thrown v2 hp9 (fun r14 hp13 => gR r14 ∧ gR r4 ∧ (if r14 = r4 then gR r4 ∧ (if r4 = 0 then gL hp13 v3 6 0 (fun r15 => gR (gCmp r15 (gI2l r10)) ∧ (if (gCmp r15 (gI2l r10)) = 0 then w_L_law_J3472 G K27 v0 v1 v2 v3 v4 hp13 c11 s12 else False)) else w_L_law_J3472 G K27 v0 v1 v2 v3 v4 hp13 c11 s12) else False))))))))))
def w_L_law_J807 (G : gaG)  (K27 : Nat → Nat → Nat → Nat → Int → gaH → Nat → Nat → Prop) (v0 : Nat) (v1 : Nat) (v2 : Nat) (v3 : Nat) (v4 : Int) (h : gaH) (kc ks : Nat) : Prop := gLI h v0 102 (v4 + 1) (fun r1 => gLI h v0 102 (v4 + 2) (fun r2 => gLI h v0 102 (v4 + 3) (fun r3 => gLI h v0 102 (v4 + 4) (fun r4 => gCall 3 18 kc ks (fun c7 s8 => w_L_replace v1 r1 r2 r3 r4 v3 h (fun r6 hp5 => gLI hp5 v0 102 (v4 + 1) (fun r9 => gLI hp5 v0 102 (v4 + 2) (fun r10 => gLI hp5 v0 102 (v4 + 3) (fun r11 => gLI hp5 v0 102 (v4 + 4) (fun r12 => gHas hp5 v2 7 ∧ gCall 1 128 c7 s8 (fun c15 s16 => w_X7_replace v2 r9 r10 r11 r12 hp5 (fun r14 hp13 => gHas hp13 v2 7 ∧ w_X7_thrown v2 hp13 (fun r18 hp17 => gR r18 ∧ gR r6 ∧ (if r18 = r6 then gR r6 ∧ (if r6 = 0 then gL hp17 v3 6 0 (fun r19 => gR (gCmp r19 (gI2l r14)) ∧ (if (gCmp r19 (gI2l r14)) = 0 then w_L_law_J3472 G K27 v0 v1 v2 v3 v4 hp17 c15 s16 else False)) else w_L_law_J3472 G K27 v0 v1 v2 v3 v4 hp17 c15 s16) else False))))))))))))))
def w_L_law_J726 (G : gaG)  (K27 : Nat → Nat → Nat → Nat → Int → gaH → Nat → Nat → Prop) (v0 : Nat) (v1 : Nat) (v2 : Nat) (v3 : Nat) (v4 : Int) (h : gaH) (kc ks : Nat) : Prop := gLI h v0 102 (v4 + 1) (fun r1 => gLI h v0 102 (v4 + 2) (fun r2 => gLI h v0 102 (v4 + 3) (fun r3 => gCall 2 12 kc ks (fun c6 s7 => w_L_remove v1 r1 r2 r3 v3 h (fun r5 hp4 => gLI hp4 v0 102 (v4 + 1) (fun r8 => gLI hp4 v0 102 (v4 + 2) (fun r9 => gLI hp4 v0 102 (v4 + 3) (fun r10 => gHas hp4 v2 7 ∧ gCall 2 192 c6 s7 (fun c13 s14 => w_X7_remove v2 r8 r9 r10 hp4 (fun r12 hp11 => gHas hp11 v2 7 ∧ w_X7_thrown v2 hp11 (fun r16 hp15 => gR r16 ∧ gR r5 ∧ (if r16 = r5 then gR r5 ∧ (if r5 = 0 then gL hp15 v3 6 0 (fun r17 => gR (gCmp r17 (gI2l r12)) ∧ (if (gCmp r17 (gI2l r12)) = 0 then w_L_law_J3472 G K27 v0 v1 v2 v3 v4 hp15 c13 s14 else False)) else w_L_law_J3472 G K27 v0 v1 v2 v3 v4 hp15 c13 s14) else False))))))))))))
def w_L_law_J657 (G : gaG)  (K27 : Nat → Nat → Nat → Nat → Int → gaH → Nat → Nat → Prop) (v0 : Nat) (v1 : Nat) (v2 : Nat) (v3 : Nat) (v4 : Int) (h : gaH) (kc ks : Nat) : Prop := gLI h v0 102 (v4 + 1) (fun r1 => gLI h v0 102 (v4 + 2) (fun r2 => gCall 2 12 kc ks (fun c5 s6 => w_L_removeSign v1 r1 r2 v3 h (fun r4 hp3 => gLI hp3 v0 102 (v4 + 1) (fun r7 => gLI hp3 v0 102 (v4 + 2) (fun r8 => gHas hp3 v2 7 ∧ gCall 2 192 c5 s6 (fun c11 s12 => w_X7_removeSign v2 r7 r8 hp3 (fun r10 hp9 => gHas hp9 v2 7 ∧ w_X7_thrown v2 hp9 (fun r14 hp13 => gR r14 ∧ gR r4 ∧ (if r14 = r4 then gR r4 ∧ (if r4 = 0 then gL hp13 v3 6 0 (fun r15 => gR (gCmp r15 (gI2l r10)) ∧ (if (gCmp r15 (gI2l r10)) = 0 then w_L_law_J3472 G K27 v0 v1 v2 v3 v4 hp13 c11 s12 else False)) else w_L_law_J3472 G K27 v0 v1 v2 v3 v4 hp13 c11 s12) else False))))))))))
def w_L_law_J620 (G : gaG)  (K27 : Nat → Nat → Nat → Nat → Int → gaH → Nat → Nat → Prop) (v0 : Nat) (v1 : Nat) (v2 : Nat) (v3 : Nat) (v4 : Int) (v5 : Int) (t0 : Nat) (t1 : Int) (t2 : Int) (t3 : Int) (h : gaH) (kc ks : Nat) : Prop := gHas h t0 7 ∧ gCall 2 192 kc ks (fun c3 s4 => w_X7_setSign t0 t1 t2 t3 h (fun r2 hp1 => gHas hp1 v2 7 ∧ w_X7_thrown v2 hp1 (fun r6 hp5 => gR r6 ∧ gR v5 ∧ (if r6 = v5 then gR v5 ∧ (if v5 = 0 then gL hp5 v3 6 0 (fun r7 => gR (gCmp r7 (gI2l r2)) ∧ (if (gCmp r7 (gI2l r2)) = 0 then w_L_law_J3472 G K27 v0 v1 v2 v3 v4 hp5 c3 s4 else False)) else w_L_law_J3472 G K27 v0 v1 v2 v3 v4 hp5 c3 s4) else False))))
def w_L_law_J587 (G : gaG)  (K27 : Nat → Nat → Nat → Nat → Int → gaH → Nat → Nat → Prop) (v0 : Nat) (v1 : Nat) (v2 : Nat) (v3 : Nat) (v4 : Int) (t0 : Nat) (t1 : Int) (t2 : Int) (t3 : Int) (h : gaH) (kc ks : Nat) : Prop := gCall 2 12 kc ks (fun c3 s4 => w_L_setSign t0 t1 t2 t3 v3 h (fun r2 hp1 => gLI hp1 v0 102 (v4 + 1) (fun r5 => gLI hp1 v0 102 (v4 + 2) (fun r6 => gLI hp1 v0 102 (v4 + 3) (fun r7 => gR r7 ∧ (if r7 = 0 then w_L_law_J620 G K27 v0 v1 v2 v3 v4 r2 v2 r5 r6 0 hp1 c3 s4 else w_L_law_J620 G K27 v0 v1 v2 v3 v4 r2 v2 r5 r6 1 hp1 c3 s4))))))
def w_L_law_J560 (G : gaG)  (K27 : Nat → Nat → Nat → Nat → Int → gaH → Nat → Nat → Prop) (v0 : Nat) (v1 : Nat) (v2 : Nat) (v3 : Nat) (v4 : Int) (h : gaH) (kc ks : Nat) : Prop := gLI h v0 102 (v4 + 1) (fun r1 => gLI h v0 102 (v4 + 2) (fun r2 => gLI h v0 102 (v4 + 3) (fun r3 => gR r3 ∧ (if r3 = 0 then w_L_law_J587 G K27 v0 v1 v2 v3 v4 v1 r1 r2 0 h kc ks else w_L_law_J587 G K27 v0 v1 v2 v3 v4 v1 r1 r2 1 h kc ks))))
def w_L_law_J479 (G : gaG)  (K27 : Nat → Nat → Nat → Nat → Int → gaH → Nat → Nat → Prop) (v0 : Nat) (v1 : Nat) (v2 : Nat) (v3 : Nat) (v4 : Int) (h : gaH) (kc ks : Nat) : Prop := gLI h v0 102 (v4 + 1) (fun r1 => gLI h v0 102 (v4 + 2) (fun r2 => gLI h v0 102 (v4 + 3) (fun r3 => gCall 3 18 kc ks (fun c6 s7 => w_L_insertSheet v1 r1 r2 r3 v3 h (fun r5 hp4 => gLI hp4 v0 102 (v4 + 1) (fun r8 => gLI hp4 v0 102 (v4 + 2) (fun r9 => gLI hp4 v0 102 (v4 + 3) (fun r10 => gHas hp4 v2 7 ∧ gCall 1 128 c6 s7 (fun c13 s14 => w_X7_insertSheet v2 r8 r9 r10 hp4 (fun r12 hp11 => gHas hp11 v2 7 ∧ w_X7_thrown v2 hp11 (fun r16 hp15 => gR r16 ∧ gR r5 ∧ (if r16 = r5 then gR r5 ∧ (if r5 = 0 then gL hp15 v3 6 0 (fun r17 => gR (gCmp r17 (gI2l r12)) ∧ (if (gCmp r17 (gI2l r12)) = 0 then w_L_law_J3472 G K27 v0 v1 v2 v3 v4 hp15 c13 s14 else False)) else w_L_law_J3472 G K27 v0 v1 v2 v3 v4 hp15 c13 s14) else False))))))))))))
def w_L_law_J442 (G : gaG)  (K27 : Nat → Nat → Nat → Nat → Int → gaH → Nat → Nat → Prop) (v0 : Nat) (v1 : Nat) (v2 : Nat) (v3 : Nat) (v4 : Int) (v5 : Int) (t0 : Nat) (t1 : Int) (t2 : Int) (t3 : Int) (h : gaH) (kc ks : Nat) : Prop := gHas h t0 7 ∧ gCall 2 192 kc ks (fun c3 s4 => w_X7_insertSign t0 t1 t2 t3 h (fun r2 hp1 => gHas hp1 v2 7 ∧ w_X7_thrown v2 hp1 (fun r6 hp5 => gR r6 ∧ gR v5 ∧ (if r6 = v5 then gR v5 ∧ (if v5 = 0 then gL hp5 v3 6 0 (fun r7 => gR (gCmp r7 (gI2l r2)) ∧ (if (gCmp r7 (gI2l r2)) = 0 then w_L_law_J3472 G K27 v0 v1 v2 v3 v4 hp5 c3 s4 else False)) else w_L_law_J3472 G K27 v0 v1 v2 v3 v4 hp5 c3 s4) else False))))
def w_L_law_J409 (G : gaG)  (K27 : Nat → Nat → Nat → Nat → Int → gaH → Nat → Nat → Prop) (v0 : Nat) (v1 : Nat) (v2 : Nat) (v3 : Nat) (v4 : Int) (t0 : Nat) (t1 : Int) (t2 : Int) (t3 : Int) (h : gaH) (kc ks : Nat) : Prop := gCall 2 12 kc ks (fun c3 s4 => w_L_insertSign t0 t1 t2 t3 v3 h (fun r2 hp1 => gLI hp1 v0 102 (v4 + 1) (fun r5 => gLI hp1 v0 102 (v4 + 2) (fun r6 => gLI hp1 v0 102 (v4 + 3) (fun r7 => gR r7 ∧ (if r7 = 0 then w_L_law_J442 G K27 v0 v1 v2 v3 v4 r2 v2 r5 r6 0 hp1 c3 s4 else w_L_law_J442 G K27 v0 v1 v2 v3 v4 r2 v2 r5 r6 1 hp1 c3 s4))))))
def w_L_law_J382 (G : gaG)  (K27 : Nat → Nat → Nat → Nat → Int → gaH → Nat → Nat → Prop) (v0 : Nat) (v1 : Nat) (v2 : Nat) (v3 : Nat) (v4 : Int) (h : gaH) (kc ks : Nat) : Prop := gLI h v0 102 (v4 + 1) (fun r1 => gLI h v0 102 (v4 + 2) (fun r2 => gLI h v0 102 (v4 + 3) (fun r3 => gR r3 ∧ (if r3 = 0 then w_L_law_J409 G K27 v0 v1 v2 v3 v4 v1 r1 r2 0 h kc ks else w_L_law_J409 G K27 v0 v1 v2 v3 v4 v1 r1 r2 1 h kc ks))))
def w_L_law_J313 (G : gaG)  (K27 : Nat → Nat → Nat → Nat → Int → gaH → Nat → Nat → Prop) (v0 : Nat) (v1 : Nat) (v2 : Nat) (v3 : Nat) (v4 : Int) (h : gaH) (kc ks : Nat) : Prop := gLI h v0 102 (v4 + 1) (fun r1 => gLI h v0 102 (v4 + 2) (fun r2 => gCall 2 12 kc ks (fun c5 s6 => w_L_append v1 r1 r2 v3 h (fun r4 hp3 => gLI hp3 v0 102 (v4 + 1) (fun r7 => gLI hp3 v0 102 (v4 + 2) (fun r8 => gHas hp3 v2 7 ∧ gCall 1 128 c5 s6 (fun c11 s12 => w_X7_append v2 r7 r8 hp3 (fun r10 hp9 => gHas hp9 v2 7 ∧ w_X7_thrown v2 hp9 (fun r14 hp13 => gR r14 ∧ gR r4 ∧ (if r14 = r4 then gR r4 ∧ (if r4 = 0 then gL hp13 v3 6 0 (fun r15 => gR (gCmp r15 (gI2l r10)) ∧ (if (gCmp r15 (gI2l r10)) = 0 then w_L_law_J3472 G K27 v0 v1 v2 v3 v4 hp13 c11 s12 else False)) else w_L_law_J3472 G K27 v0 v1 v2 v3 v4 hp13 c11 s12) else False))))))))))
def w_L_law_J244 (G : gaG)  (K27 : Nat → Nat → Nat → Nat → Int → gaH → Nat → Nat → Prop) (v0 : Nat) (v1 : Nat) (v2 : Nat) (v3 : Nat) (v4 : Int) (h : gaH) (kc ks : Nat) : Prop := gLI h v0 102 (v4 + 1) (fun r1 => gLI h v0 102 (v4 + 2) (fun r2 => gCall 2 12 kc ks (fun c5 s6 => w_L_write v1 r1 r2 v3 h (fun r4 hp3 => gLI hp3 v0 102 (v4 + 1) (fun r7 => gLI hp3 v0 102 (v4 + 2) (fun r8 => gHas hp3 v2 7 ∧ gCall 1 16 c5 s6 (fun c11 s12 => w_X7_write v2 r7 r8 hp3 (fun r10 hp9 => gHas hp9 v2 7 ∧ w_X7_thrown v2 hp9 (fun r14 hp13 => gR r14 ∧ gR r4 ∧ (if r14 = r4 then gR r4 ∧ (if r4 = 0 then gL hp13 v3 6 0 (fun r15 => gR (gCmp r15 (gI2l r10)) ∧ (if (gCmp r15 (gI2l r10)) = 0 then w_L_law_J3472 G K27 v0 v1 v2 v3 v4 hp13 c11 s12 else False)) else w_L_law_J3472 G K27 v0 v1 v2 v3 v4 hp13 c11 s12) else False))))))))))
def w_L_law_L27 (G : gaG)  : Nat → (Nat → Nat → Nat → Nat → Int → gaH → Nat → Nat → Prop)
  | 0 => fun _ _ _ _ _ _ _ _ => False
  | n + 1 => fun v0 v1 v2 v3 v4 h kc ks => gAL h v0 102 (fun r1 => gR v4 ∧ gR (r1 - 5) ∧ (if (r1 - 5) < v4 then True else gLI h v0 102 v4 (fun r2 => gR (gAnd r2 63) ∧ ((gAnd r2 63) = 0 → w_L_law_J244 G (w_L_law_L27 G n) v0 v1 v2 v3 v4 h kc ks) ∧ ((gAnd r2 63) = 1 → w_L_law_J313 G (w_L_law_L27 G n) v0 v1 v2 v3 v4 h kc ks) ∧ ((gAnd r2 63) = 2 → w_L_law_J382 G (w_L_law_L27 G n) v0 v1 v2 v3 v4 h kc ks) ∧ ((gAnd r2 63) = 3 → w_L_law_J479 G (w_L_law_L27 G n) v0 v1 v2 v3 v4 h kc ks) ∧ ((gAnd r2 63) = 4 → w_L_law_J560 G (w_L_law_L27 G n) v0 v1 v2 v3 v4 h kc ks) ∧ ((gAnd r2 63) = 5 → w_L_law_J657 G (w_L_law_L27 G n) v0 v1 v2 v3 v4 h kc ks) ∧ ((gAnd r2 63) = 6 → w_L_law_J726 G (w_L_law_L27 G n) v0 v1 v2 v3 v4 h kc ks) ∧ ((gAnd r2 63) = 7 → w_L_law_J807 G (w_L_law_L27 G n) v0 v1 v2 v3 v4 h kc ks) ∧ ((gAnd r2 63) = 8 → w_L_law_J900 G (w_L_law_L27 G n) v0 v1 v2 v3 v4 h kc ks) ∧ ((gAnd r2 63) = 9 → w_L_law_J969 G (w_L_law_L27 G n) v0 v1 v2 v3 v4 h kc ks) ∧ ((gAnd r2 63) = 10 → w_L_law_J1026 G (w_L_law_L27 G n) v0 v1 v2 v3 v4 h kc ks) ∧ ((gAnd r2 63) = 11 → w_L_law_J1083 G (w_L_law_L27 G n) v0 v1 v2 v3 v4 h kc ks) ∧ ((gAnd r2 63) = 12 → w_L_law_J1152 G (w_L_law_L27 G n) v0 v1 v2 v3 v4 h kc ks) ∧ ((gAnd r2 63) = 13 → w_L_law_J1221 G (w_L_law_L27 G n) v0 v1 v2 v3 v4 h kc ks) ∧ ((gAnd r2 63) = 14 → w_L_law_J1302 G (w_L_law_L27 G n) v0 v1 v2 v3 v4 h kc ks) ∧ ((gAnd r2 63) = 15 → w_L_law_J1383 G (w_L_law_L27 G n) v0 v1 v2 v3 v4 h kc ks) ∧ ((gAnd r2 63) = 16 → w_L_law_J1464 G (w_L_law_L27 G n) v0 v1 v2 v3 v4 h kc ks) ∧ ((gAnd r2 63) = 17 → w_L_law_J1545 G (w_L_law_L27 G n) v0 v1 v2 v3 v4 h kc ks) ∧ ((gAnd r2 63) = 18 → w_L_law_J1638 G (w_L_law_L27 G n) v0 v1 v2 v3 v4 h kc ks) ∧ ((gAnd r2 63) = 19 → w_L_law_J1707 G (w_L_law_L27 G n) v0 v1 v2 v3 v4 h kc ks) ∧ ((gAnd r2 63) = 20 → w_L_law_J1764 G (w_L_law_L27 G n) v0 v1 v2 v3 v4 h kc ks) ∧ ((gAnd r2 63) = 21 → w_L_law_J1821 G (w_L_law_L27 G n) v0 v1 v2 v3 v4 h kc ks) ∧ ((gAnd r2 63) = 22 → w_L_law_J1878 G (w_L_law_L27 G n) v0 v1 v2 v3 v4 h kc ks) ∧ ((gAnd r2 63) = 23 → w_L_law_J1954 G (w_L_law_L27 G n) v0 v1 v2 v3 v4 h kc ks) ∧ ((gAnd r2 63) = 24 → w_L_law_J2012 G (w_L_law_L27 G n) v0 v1 v2 v3 v4 h kc ks) ∧ ((gAnd r2 63) = 25 → w_L_law_J2097 G (w_L_law_L27 G n) v0 v1 v2 v3 v4 h kc ks) ∧ ((gAnd r2 63) = 26 → w_L_law_J2178 G (w_L_law_L27 G n) v0 v1 v2 v3 v4 h kc ks) ∧ ((gAnd r2 63) = 27 → w_L_law_J2259 G (w_L_law_L27 G n) v0 v1 v2 v3 v4 h kc ks) ∧ ((gAnd r2 63) = 28 → w_L_law_J2328 G (w_L_law_L27 G n) v0 v1 v2 v3 v4 h kc ks) ∧ ((gAnd r2 63) = 29 → w_L_law_J2392 G (w_L_law_L27 G n) v0 v1 v2 v3 v4 h kc ks) ∧ ((gAnd r2 63) = 30 → w_L_law_J2489 G (w_L_law_L27 G n) v0 v1 v2 v3 v4 h kc ks) ∧ ((gAnd r2 63) = 31 → w_L_law_J2586 G (w_L_law_L27 G n) v0 v1 v2 v3 v4 h kc ks) ∧ ((gAnd r2 63) = 32 → w_L_law_J2643 G (w_L_law_L27 G n) v0 v1 v2 v3 v4 h kc ks) ∧ ((gAnd r2 63) = 33 → w_L_law_J2700 G (w_L_law_L27 G n) v0 v1 v2 v3 v4 h kc ks) ∧ ((gAnd r2 63) = 34 → w_L_law_J2757 G (w_L_law_L27 G n) v0 v1 v2 v3 v4 h kc ks) ∧ ((gAnd r2 63) = 35 → w_L_law_J2814 G (w_L_law_L27 G n) v0 v1 v2 v3 v4 h kc ks) ∧ ((gAnd r2 63) = 36 → w_L_law_J2871 G (w_L_law_L27 G n) v0 v1 v2 v3 v4 h kc ks) ∧ ((gAnd r2 63) = 37 → w_L_law_J2947 G (w_L_law_L27 G n) v0 v1 v2 v3 v4 h kc ks) ∧ ((gAnd r2 63) = 38 → w_L_law_J3005 G (w_L_law_L27 G n) v0 v1 v2 v3 v4 h kc ks) ∧ ((gAnd r2 63) = 39 → w_L_law_J3091 G (w_L_law_L27 G n) v0 v1 v2 v3 v4 h kc ks) ∧ ((gAnd r2 63) = 40 → w_L_law_J3176 G (w_L_law_L27 G n) v0 v1 v2 v3 v4 h kc ks) ∧ ((gAnd r2 63) = 41 → w_L_law_J3261 G (w_L_law_L27 G n) v0 v1 v2 v3 v4 h kc ks) ∧ ((gAnd r2 63) = 42 → w_L_law_J3318 G (w_L_law_L27 G n) v0 v1 v2 v3 v4 h kc ks) ∧ ((gAnd r2 63) = 43 → w_L_law_J3375 G (w_L_law_L27 G n) v0 v1 v2 v3 v4 h kc ks) ∧ ((gAnd r2 63) = 44 → w_L_law_J3432 G (w_L_law_L27 G n) v0 v1 v2 v3 v4 h kc ks) ∧ ((gAnd r2 63) = 45 → w_L_law_J3445 G (w_L_law_L27 G n) v0 v1 v2 v3 v4 h kc ks) ∧ ((gAnd r2 63) = 46 → w_L_law_J3458 G (w_L_law_L27 G n) v0 v1 v2 v3 v4 h kc ks) ∧ (((gAnd r2 63) < 0 ∨ 46 < (gAnd r2 63)) → w_L_law_J3472 G (w_L_law_L27 G n) v0 v1 v2 v3 v4 h kc ks))))
def w_L_law (G : gaG) (a0 : Nat) (h : gaH) (kc ks : Nat) : Prop := gNO h 5 9 ([.null, .null, .null, .null, .null, gi 0, gi 0, gi 0, gi 0]) kc ks (fun o1 hp2 c3 s4 => gCall 30 1058 c3 s4 (fun c7 s8 => w_X5_init o1 hp2 (fun hp5 => gNO hp5 7 8 ([.null, .null, .null, gi 0, gi 0, gi 0, gi 0, gi 0]) c7 s8 (fun o9 hp10 c11 s12 => gCall 8 512 c11 s12 (fun c15 s16 => w_X7_init o9 hp10 (fun hp13 => gNO hp13 6 2 ([.long 0, .null]) c15 s16 (fun o17 hp18 c19 s20 => w_X6_init o17 hp18 (fun hp21 => ∃ z, w_L_law_L27 G z a0 o1 o9 o17 0 hp21 c19 s20))))))))
theorem hl_L_law_J3472 {p : Program} {l : Launch} {e : Env} {s : State} {m : MethodId} {args : Array Value} {below : List Frame} {meth : Method} {c : Code} {G : gaG} {nm : String} {Z : State → Prop} (hst : l.stackTraces = false) (V : gaV p l s m args meth c G code RL 7 gaW ret nm) (hend : ∀ (pc : Nat) (lv : List (Option Value)) (h : gaH) (k j : Nat), decode code pc = .ok (.ireturn, 1) → gaP p l e room_1 s m args below meth c G 7 Z pc lv [gi 1] h k j) : ∀ (K27 : Nat → Nat → Nat → Nat → Int → gaH → Nat → Nat → Prop), ∀ (hK27 : ∀ (v0 : Nat) (v1 : Nat) (v2 : Nat) (v3 : Nat) (v4 : Int) (h : gaH) (kc ks : Nat), K27 v0 v1 v2 v3 v4 h kc ks → gaP p l e room_1 s m args below meth c G 7 Z 27 [some (.ref v0), some (.ref v1), some (.ref v2), some (.ref v3), some (gi v4), none, none] [] h kc ks), ∀ (v0 : Nat) (v1 : Nat) (v2 : Nat) (v3 : Nat) (v4 : Int) (h : gaH) (kc ks : Nat), w_L_law_J3472 G K27 v0 v1 v2 v3 v4 h kc ks → gaP p l e room_1 s m args below meth c G 7 Z 3472 [some (.ref v0), some (.ref v1), some (.ref v2), some (.ref v3), some (gi v4), none, none] [] h kc ks := by
  intro K27 hK27
  intro v0 v1 v2 v3 v4 h kc ks hw
  unfold w_L_law_J3472 at hw
  refine gi_iinc (lv2 := [some (.ref v0), some (.ref v1), some (.ref v2), some (.ref v3), some (gi (v4 + 5)), none, none]) V dL_law_3472 (by decide) rfl rfl rfl rfl ?_
  refine g_goto V dL_law_3475 rfl ?_
  exact hK27 v0 v1 v2 v3 (v4 + 5) h kc ks hw
theorem hl_L_law_J3458 {p : Program} {l : Launch} {e : Env} {s : State} {m : MethodId} {args : Array Value} {below : List Frame} {meth : Method} {c : Code} {G : gaG} {nm : String} {Z : State → Prop} (hst : l.stackTraces = false) (V : gaV p l s m args meth c G code RL 7 gaW ret nm) (hend : ∀ (pc : Nat) (lv : List (Option Value)) (h : gaH) (k j : Nat), decode code pc = .ok (.ireturn, 1) → gaP p l e room_1 s m args below meth c G 7 Z pc lv [gi 1] h k j) : ∀ (K27 : Nat → Nat → Nat → Nat → Int → gaH → Nat → Nat → Prop), ∀ (hK27 : ∀ (v0 : Nat) (v1 : Nat) (v2 : Nat) (v3 : Nat) (v4 : Int) (h : gaH) (kc ks : Nat), K27 v0 v1 v2 v3 v4 h kc ks → gaP p l e room_1 s m args below meth c G 7 Z 27 [some (.ref v0), some (.ref v1), some (.ref v2), some (.ref v3), some (gi v4), none, none] [] h kc ks), ∀ (v0 : Nat) (v1 : Nat) (v2 : Nat) (v3 : Nat) (v4 : Int) (h : gaH) (kc ks : Nat), w_L_law_J3458 G K27 v0 v1 v2 v3 v4 h kc ks → gaP p l e room_1 s m args below meth c G 7 Z 3458 [some (.ref v0), some (.ref v1), some (.ref v2), some (.ref v3), some (gi v4), none, none] [] h kc ks := by
  intro K27 hK27
  intro v0 v1 v2 v3 v4 h kc ks hw
  unfold w_L_law_J3458 at hw
  refine g_aload_n V dL_law_3458 rfl rfl ?_
  obtain ⟨hb, hw⟩ := hw
  obtain ⟨fb, hb⟩ := hb
  obtain ⟨hk, hj, c3, s4, ec, es, hw⟩ := hw
  refine g_callV (C := RX5) (T := TX5) (N := 9) (st := []) V (k_X5_digest hst hw) ww_2_82 ww_2_83 ww_2_84 ww_1_1 ww_2_85 hd_X5_digest ⟨by decide, by decide⟩ rfl (by decide) hb rfl rfl (ga_cat rfl) dL_law_3459 hk hj rfl ga_none (ga_kl (fun r2 hp1 hw => ?_))
  refine ga_re ec es ?_
  refine g_aload_n V dL_law_3462 rfl rfl ?_
  obtain ⟨hb, hw⟩ := hw
  obtain ⟨fb, hb⟩ := hb
  obtain ⟨hk, hj, c7, s8, ec, es, hw⟩ := hw
  refine g_callV (C := RX7) (T := TX7) (N := 8) (st := [.long r2]) V (k_X7_digest hst hw) ww_7_65 ww_7_66 ww_7_67 ww_1_5 ww_7_68 hd_X7_digest ⟨by decide, by decide⟩ rfl (by decide) hb rfl rfl (ga_cat rfl) dL_law_3463 hk hj rfl ga_none (ga_kl (fun r6 hp5 hw => ?_))
  refine ga_re ec es ?_
  refine gi_lcmp V dL_law_3466 rfl ?_
  obtain ⟨hx0, hw⟩ := hw
  refine gi_if_eq V dL_law_3467 rfl rfl hx0 (fun q => ?_) (fun q => ?_)
  · have hw := ga_t q hw
    exact hl_L_law_J3472 hst V hend K27 hK27 v0 v1 v2 v3 v4 hp5 c7 s8 hw
  · have hw := ga_f q hw
    refine g_iconst V (Int32.ofInt 0) dL_law_3470 rfl rfl ?_
    exact hw.elim
theorem hl_L_law_J3445 {p : Program} {l : Launch} {e : Env} {s : State} {m : MethodId} {args : Array Value} {below : List Frame} {meth : Method} {c : Code} {G : gaG} {nm : String} {Z : State → Prop} (hst : l.stackTraces = false) (V : gaV p l s m args meth c G code RL 7 gaW ret nm) (hend : ∀ (pc : Nat) (lv : List (Option Value)) (h : gaH) (k j : Nat), decode code pc = .ok (.ireturn, 1) → gaP p l e room_1 s m args below meth c G 7 Z pc lv [gi 1] h k j) : ∀ (K27 : Nat → Nat → Nat → Nat → Int → gaH → Nat → Nat → Prop), ∀ (hK27 : ∀ (v0 : Nat) (v1 : Nat) (v2 : Nat) (v3 : Nat) (v4 : Int) (h : gaH) (kc ks : Nat), K27 v0 v1 v2 v3 v4 h kc ks → gaP p l e room_1 s m args below meth c G 7 Z 27 [some (.ref v0), some (.ref v1), some (.ref v2), some (.ref v3), some (gi v4), none, none] [] h kc ks), ∀ (v0 : Nat) (v1 : Nat) (v2 : Nat) (v3 : Nat) (v4 : Int) (h : gaH) (kc ks : Nat), w_L_law_J3445 G K27 v0 v1 v2 v3 v4 h kc ks → gaP p l e room_1 s m args below meth c G 7 Z 3445 [some (.ref v0), some (.ref v1), some (.ref v2), some (.ref v3), some (gi v4), none, none] [] h kc ks := by
  intro K27 hK27
  intro v0 v1 v2 v3 v4 h kc ks hw
  unfold w_L_law_J3445 at hw
  refine g_aload_n V dL_law_3445 rfl rfl ?_
  obtain ⟨hb, hw⟩ := hw
  obtain ⟨fb, hb⟩ := hb
  obtain ⟨hk, hj, c3, s4, ec, es, hw⟩ := hw
  refine g_callV (C := RX5) (T := TX5) (N := 9) (st := []) V (k_X5_isSound hst hw) ww_1_142 ww_1_143 ww_1_144 ww_1_1 ww_1_145 hd_X5_isSound ⟨by decide, by decide⟩ rfl (by decide) hb rfl rfl (ga_cat rfl) dL_law_3446 hk hj rfl ga_none (ga_ki (fun r2 hp1 hw => ?_))
  refine ga_re ec es ?_
  refine g_aload_n V dL_law_3449 rfl rfl ?_
  obtain ⟨hb, hw⟩ := hw
  obtain ⟨fb, hb⟩ := hb
  obtain ⟨hk, hj, c7, s8, ec, es, hw⟩ := hw
  refine g_callV (C := RX7) (T := TX7) (N := 8) (st := [gi r2]) V (k_X7_isSound hst hw) ww_7_57 ww_7_58 ww_7_59 ww_1_5 ww_7_60 hd_X7_isSound ⟨by decide, by decide⟩ rfl (by decide) hb rfl rfl (ga_cat rfl) dL_law_3450 hk hj rfl ga_none (ga_ki (fun r6 hp5 hw => ?_))
  refine ga_re ec es ?_
  obtain ⟨hx0, hx1, hw⟩ := hw
  refine gi_icmp_eq V dL_law_3453 rfl rfl hx0 hx1 (fun q => ?_) (fun q => ?_)
  · have hw := ga_t q hw
    exact hl_L_law_J3472 hst V hend K27 hK27 v0 v1 v2 v3 v4 hp5 c7 s8 hw
  · have hw := ga_f q hw
    refine g_iconst V (Int32.ofInt 0) dL_law_3456 rfl rfl ?_
    exact hw.elim
theorem hl_L_law_J3432 {p : Program} {l : Launch} {e : Env} {s : State} {m : MethodId} {args : Array Value} {below : List Frame} {meth : Method} {c : Code} {G : gaG} {nm : String} {Z : State → Prop} (hst : l.stackTraces = false) (V : gaV p l s m args meth c G code RL 7 gaW ret nm) (hend : ∀ (pc : Nat) (lv : List (Option Value)) (h : gaH) (k j : Nat), decode code pc = .ok (.ireturn, 1) → gaP p l e room_1 s m args below meth c G 7 Z pc lv [gi 1] h k j) : ∀ (K27 : Nat → Nat → Nat → Nat → Int → gaH → Nat → Nat → Prop), ∀ (hK27 : ∀ (v0 : Nat) (v1 : Nat) (v2 : Nat) (v3 : Nat) (v4 : Int) (h : gaH) (kc ks : Nat), K27 v0 v1 v2 v3 v4 h kc ks → gaP p l e room_1 s m args below meth c G 7 Z 27 [some (.ref v0), some (.ref v1), some (.ref v2), some (.ref v3), some (gi v4), none, none] [] h kc ks), ∀ (v0 : Nat) (v1 : Nat) (v2 : Nat) (v3 : Nat) (v4 : Int) (h : gaH) (kc ks : Nat), w_L_law_J3432 G K27 v0 v1 v2 v3 v4 h kc ks → gaP p l e room_1 s m args below meth c G 7 Z 3432 [some (.ref v0), some (.ref v1), some (.ref v2), some (.ref v3), some (gi v4), none, none] [] h kc ks := by
  intro K27 hK27
  intro v0 v1 v2 v3 v4 h kc ks hw
  unfold w_L_law_J3432 at hw
  refine g_aload_n V dL_law_3432 rfl rfl ?_
  obtain ⟨hb, hw⟩ := hw
  obtain ⟨fb, hb⟩ := hb
  refine g_callV (C := RX5) (T := TX5) (N := 9) (st := []) V (k_X5_knock hst hw) ww_1_138 ww_1_139 ww_1_140 ww_1_1 ww_1_141 hd_X5_knock ⟨by decide, by decide⟩ rfl (by decide) hb rfl rfl (ga_cat rfl) dL_law_3433 (Nat.zero_le _) (Nat.zero_le _) rfl ga_none (ga_ki (fun r2 hp1 hw => ?_))
  refine g_aload_n V dL_law_3436 rfl rfl ?_
  obtain ⟨hb, hw⟩ := hw
  obtain ⟨fb, hb⟩ := hb
  refine g_callV (C := RX7) (T := TX7) (N := 8) (st := [gi r2]) V (k_X7_knock hst hw) ww_7_53 ww_7_54 ww_7_55 ww_1_5 ww_7_56 hd_X7_knock ⟨by decide, by decide⟩ rfl (by decide) hb rfl rfl (ga_cat rfl) dL_law_3437 (Nat.zero_le _) (Nat.zero_le _) rfl ga_none (ga_ki (fun r4 hp3 hw => ?_))
  obtain ⟨hq, hw⟩ := hw
  refine gi_icmp_eqF V dL_law_3440 rfl hq ?_
  exact hl_L_law_J3472 hst V hend K27 hK27 v0 v1 v2 v3 v4 hp3 kc ks hw
theorem hl_L_law_J3375 {p : Program} {l : Launch} {e : Env} {s : State} {m : MethodId} {args : Array Value} {below : List Frame} {meth : Method} {c : Code} {G : gaG} {nm : String} {Z : State → Prop} (hst : l.stackTraces = false) (V : gaV p l s m args meth c G code RL 7 gaW ret nm) (hend : ∀ (pc : Nat) (lv : List (Option Value)) (h : gaH) (k j : Nat), decode code pc = .ok (.ireturn, 1) → gaP p l e room_1 s m args below meth c G 7 Z pc lv [gi 1] h k j) : ∀ (K27 : Nat → Nat → Nat → Nat → Int → gaH → Nat → Nat → Prop), ∀ (hK27 : ∀ (v0 : Nat) (v1 : Nat) (v2 : Nat) (v3 : Nat) (v4 : Int) (h : gaH) (kc ks : Nat), K27 v0 v1 v2 v3 v4 h kc ks → gaP p l e room_1 s m args below meth c G 7 Z 27 [some (.ref v0), some (.ref v1), some (.ref v2), some (.ref v3), some (gi v4), none, none] [] h kc ks), ∀ (v0 : Nat) (v1 : Nat) (v2 : Nat) (v3 : Nat) (v4 : Int) (h : gaH) (kc ks : Nat), w_L_law_J3375 G K27 v0 v1 v2 v3 v4 h kc ks → gaP p l e room_1 s m args below meth c G 7 Z 3375 [some (.ref v0), some (.ref v1), some (.ref v2), some (.ref v3), some (gi v4), none, none] [] h kc ks := by
  intro K27 hK27
  intro v0 v1 v2 v3 v4 h kc ks hw
  unfold w_L_law_J3375 at hw
  refine g_aload_n V dL_law_3375 rfl rfl ?_
  refine g_aload_n V dL_law_3376 rfl rfl ?_
  refine g_iload V dL_law_3377 rfl rfl ?_
  refine g_iconst V (Int32.ofInt 1) dL_law_3379 rfl rfl ?_
  refine gi_iadd V dL_law_3380 rfl ?_
  obtain ⟨t9, vs, r1, ha, ht, h0, h9, hv, hw⟩ := hw
  refine gi_iaload V ha ht h0 h9 hv dL_law_3381 rfl ?_
  refine g_aload_n V dL_law_3382 rfl rfl ?_
  obtain ⟨hk, hj, c4, s5, ec, es, hw⟩ := hw
  refine g_callSX (st := []) V (k_L_house hst hw) ww_5_169 ww_5_170 ww_1_0 ww_5_171 hd_L_house ⟨by decide, by decide⟩ rfl rfl (ga_cat rfl) dL_law_3383 hk hj rfl ga_none (ga_ki (fun r3 hp2 hw => ?_))
  refine ga_re ec es ?_
  refine g_istore (lv2 := [some (.ref v0), some (.ref v1), some (.ref v2), some (.ref v3), some (gi v4), some (gi r3), none]) V dL_law_3386 (by decide) rfl rfl rfl ?_
  refine g_aload_n V dL_law_3388 rfl rfl ?_
  refine g_aload_n V dL_law_3389 rfl rfl ?_
  refine g_iload V dL_law_3390 rfl rfl ?_
  refine g_iconst V (Int32.ofInt 1) dL_law_3392 rfl rfl ?_
  refine gi_iadd V dL_law_3393 rfl ?_
  obtain ⟨t9, vs, r6, ha, ht, h0, h9, hv, hw⟩ := hw
  refine gi_iaload V ha ht h0 h9 hv dL_law_3394 rfl ?_
  obtain ⟨hb, hw⟩ := hw
  obtain ⟨fb, hb⟩ := hb
  refine g_callV (C := RX7) (T := TX7) (N := 8) (st := []) V (k_X7_house hst hw) ww_7_45 ww_7_46 ww_7_47 ww_1_5 ww_7_48 hd_X7_house ⟨by decide, by decide⟩ rfl (by decide) hb rfl rfl (ga_cat rfl) dL_law_3395 (Nat.zero_le _) (Nat.zero_le _) rfl ga_none (ga_ki (fun r8 hp7 hw => ?_))
  refine g_istore (lv2 := [some (.ref v0), some (.ref v1), some (.ref v2), some (.ref v3), some (gi v4), some (gi r3), some (gi r8)]) V dL_law_3398 (by decide) rfl rfl rfl ?_
  refine g_aload_n V dL_law_3400 rfl rfl ?_
  obtain ⟨hb, hw⟩ := hw
  obtain ⟨fb, hb⟩ := hb
  refine g_callV (C := RX7) (T := TX7) (N := 8) (st := []) V (k_X7_thrown hst hw) ww_5_206 ww_5_207 ww_5_208 ww_1_5 ww_5_209 hd_X7_thrown ⟨by decide, by decide⟩ rfl (by decide) hb rfl rfl (ga_cat rfl) dL_law_3401 (Nat.zero_le _) (Nat.zero_le _) rfl ga_none (ga_ki (fun r10 hp9 hw => ?_))
  refine g_iload V dL_law_3404 rfl rfl ?_
  obtain ⟨hx0, hx1, hw⟩ := hw
  refine gi_icmp_eq V dL_law_3406 rfl rfl hx0 hx1 (fun q => ?_) (fun q => ?_)
  · have hw := ga_t q hw
    refine g_iload V dL_law_3411 rfl rfl ?_
    obtain ⟨hx0, hw⟩ := hw
    refine gi_if_ne V dL_law_3413 rfl rfl hx0 (fun q => ?_) (fun q => ?_)
    · have hw := ga_f q hw
      refine g_goto V dL_law_3429 rfl ?_
      refine g_less (bs := [true, true, true, true, true, false, false]) (lv2 := [some (.ref v0), some (.ref v1), some (.ref v2), some (.ref v3), some (gi v4), none, none]) rfl ?_
      exact hl_L_law_J3472 hst V hend K27 hK27 v0 v1 v2 v3 v4 hp9 c4 s5 hw
    · have hw := ga_t q hw
      refine g_aload_n V dL_law_3416 rfl rfl ?_
      obtain ⟨fs, r11, ha, hv, hw⟩ := hw
      refine g_getN (C := RX6) (T := TX6) (N := 2) (host := "WordgardenLaw") V 0 rfl hin_RX6 (by decide) (by decide) gn_22 rfl ha hv dL_law_3417 rfl ?_
      refine g_iload V dL_law_3420 rfl rfl ?_
      refine gi_i2l V dL_law_3422 rfl ?_
      refine gi_lcmp V dL_law_3423 rfl ?_
      obtain ⟨hx0, hw⟩ := hw
      refine gi_if_eq V dL_law_3424 rfl rfl hx0 (fun q => ?_) (fun q => ?_)
      · have hw := ga_t q hw
        refine g_goto V dL_law_3429 rfl ?_
        refine g_less (bs := [true, true, true, true, true, false, false]) (lv2 := [some (.ref v0), some (.ref v1), some (.ref v2), some (.ref v3), some (gi v4), none, none]) rfl ?_
        exact hl_L_law_J3472 hst V hend K27 hK27 v0 v1 v2 v3 v4 hp9 c4 s5 hw
      · have hw := ga_f q hw
        refine g_iconst V (Int32.ofInt 0) dL_law_3427 rfl rfl ?_
        exact hw.elim
  · have hw := ga_f q hw
    refine g_iconst V (Int32.ofInt 0) dL_law_3409 rfl rfl ?_
    exact hw.elim
theorem hl_L_law_J3318 {p : Program} {l : Launch} {e : Env} {s : State} {m : MethodId} {args : Array Value} {below : List Frame} {meth : Method} {c : Code} {G : gaG} {nm : String} {Z : State → Prop} (hst : l.stackTraces = false) (V : gaV p l s m args meth c G code RL 7 gaW ret nm) (hend : ∀ (pc : Nat) (lv : List (Option Value)) (h : gaH) (k j : Nat), decode code pc = .ok (.ireturn, 1) → gaP p l e room_1 s m args below meth c G 7 Z pc lv [gi 1] h k j) : ∀ (K27 : Nat → Nat → Nat → Nat → Int → gaH → Nat → Nat → Prop), ∀ (hK27 : ∀ (v0 : Nat) (v1 : Nat) (v2 : Nat) (v3 : Nat) (v4 : Int) (h : gaH) (kc ks : Nat), K27 v0 v1 v2 v3 v4 h kc ks → gaP p l e room_1 s m args below meth c G 7 Z 27 [some (.ref v0), some (.ref v1), some (.ref v2), some (.ref v3), some (gi v4), none, none] [] h kc ks), ∀ (v0 : Nat) (v1 : Nat) (v2 : Nat) (v3 : Nat) (v4 : Int) (h : gaH) (kc ks : Nat), w_L_law_J3318 G K27 v0 v1 v2 v3 v4 h kc ks → gaP p l e room_1 s m args below meth c G 7 Z 3318 [some (.ref v0), some (.ref v1), some (.ref v2), some (.ref v3), some (gi v4), none, none] [] h kc ks := by
  intro K27 hK27
  intro v0 v1 v2 v3 v4 h kc ks hw
  unfold w_L_law_J3318 at hw
  refine g_aload_n V dL_law_3318 rfl rfl ?_
  refine g_aload_n V dL_law_3319 rfl rfl ?_
  refine g_iload V dL_law_3320 rfl rfl ?_
  refine g_iconst V (Int32.ofInt 1) dL_law_3322 rfl rfl ?_
  refine gi_iadd V dL_law_3323 rfl ?_
  obtain ⟨t9, vs, r1, ha, ht, h0, h9, hv, hw⟩ := hw
  refine gi_iaload V ha ht h0 h9 hv dL_law_3324 rfl ?_
  refine g_aload_n V dL_law_3325 rfl rfl ?_
  obtain ⟨hk, hj, c4, s5, ec, es, hw⟩ := hw
  refine g_callSX (st := []) V (k_L_alike hst hw) ww_5_165 ww_5_166 ww_1_0 ww_5_167 hd_L_alike ⟨by decide, by decide⟩ rfl rfl (ga_cat rfl) dL_law_3326 hk hj rfl ga_none (ga_ki (fun r3 hp2 hw => ?_))
  refine ga_re ec es ?_
  refine g_istore (lv2 := [some (.ref v0), some (.ref v1), some (.ref v2), some (.ref v3), some (gi v4), some (gi r3), none]) V dL_law_3329 (by decide) rfl rfl rfl ?_
  refine g_aload_n V dL_law_3331 rfl rfl ?_
  refine g_aload_n V dL_law_3332 rfl rfl ?_
  refine g_iload V dL_law_3333 rfl rfl ?_
  refine g_iconst V (Int32.ofInt 1) dL_law_3335 rfl rfl ?_
  refine gi_iadd V dL_law_3336 rfl ?_
  obtain ⟨t9, vs, r6, ha, ht, h0, h9, hv, hw⟩ := hw
  refine gi_iaload V ha ht h0 h9 hv dL_law_3337 rfl ?_
  obtain ⟨hb, hw⟩ := hw
  obtain ⟨fb, hb⟩ := hb
  obtain ⟨hk, hj, c9, s10, ec, es, hw⟩ := hw
  refine g_callV (C := RX7) (T := TX7) (N := 8) (st := []) V (k_X7_alike hst hw) ww_7_38 ww_7_39 ww_7_40 ww_1_5 ww_7_41 hd_X7_alike ⟨by decide, by decide⟩ rfl (by decide) hb rfl rfl (ga_cat rfl) dL_law_3338 hk hj rfl ga_none (ga_ki (fun r8 hp7 hw => ?_))
  refine ga_re ec es ?_
  refine g_istore (lv2 := [some (.ref v0), some (.ref v1), some (.ref v2), some (.ref v3), some (gi v4), some (gi r3), some (gi r8)]) V dL_law_3341 (by decide) rfl rfl rfl ?_
  refine g_aload_n V dL_law_3343 rfl rfl ?_
  obtain ⟨hb, hw⟩ := hw
  obtain ⟨fb, hb⟩ := hb
  refine g_callV (C := RX7) (T := TX7) (N := 8) (st := []) V (k_X7_thrown hst hw) ww_5_206 ww_5_207 ww_5_208 ww_1_5 ww_5_209 hd_X7_thrown ⟨by decide, by decide⟩ rfl (by decide) hb rfl rfl (ga_cat rfl) dL_law_3344 (Nat.zero_le _) (Nat.zero_le _) rfl ga_none (ga_ki (fun r12 hp11 hw => ?_))
  refine g_iload V dL_law_3347 rfl rfl ?_
  obtain ⟨hx0, hx1, hw⟩ := hw
  refine gi_icmp_eq V dL_law_3349 rfl rfl hx0 hx1 (fun q => ?_) (fun q => ?_)
  · have hw := ga_t q hw
    refine g_iload V dL_law_3354 rfl rfl ?_
    obtain ⟨hx0, hw⟩ := hw
    refine gi_if_ne V dL_law_3356 rfl rfl hx0 (fun q => ?_) (fun q => ?_)
    · have hw := ga_f q hw
      refine g_goto V dL_law_3372 rfl ?_
      refine g_less (bs := [true, true, true, true, true, false, false]) (lv2 := [some (.ref v0), some (.ref v1), some (.ref v2), some (.ref v3), some (gi v4), none, none]) rfl ?_
      exact hl_L_law_J3472 hst V hend K27 hK27 v0 v1 v2 v3 v4 hp11 c9 s10 hw
    · have hw := ga_t q hw
      refine g_aload_n V dL_law_3359 rfl rfl ?_
      obtain ⟨fs, r13, ha, hv, hw⟩ := hw
      refine g_getN (C := RX6) (T := TX6) (N := 2) (host := "WordgardenLaw") V 0 rfl hin_RX6 (by decide) (by decide) gn_22 rfl ha hv dL_law_3360 rfl ?_
      refine g_iload V dL_law_3363 rfl rfl ?_
      refine gi_i2l V dL_law_3365 rfl ?_
      refine gi_lcmp V dL_law_3366 rfl ?_
      obtain ⟨hx0, hw⟩ := hw
      refine gi_if_eq V dL_law_3367 rfl rfl hx0 (fun q => ?_) (fun q => ?_)
      · have hw := ga_t q hw
        refine g_goto V dL_law_3372 rfl ?_
        refine g_less (bs := [true, true, true, true, true, false, false]) (lv2 := [some (.ref v0), some (.ref v1), some (.ref v2), some (.ref v3), some (gi v4), none, none]) rfl ?_
        exact hl_L_law_J3472 hst V hend K27 hK27 v0 v1 v2 v3 v4 hp11 c9 s10 hw
      · have hw := ga_f q hw
        refine g_iconst V (Int32.ofInt 0) dL_law_3370 rfl rfl ?_
        exact hw.elim
  · have hw := ga_f q hw
    refine g_iconst V (Int32.ofInt 0) dL_law_3352 rfl rfl ?_
    exact hw.elim
theorem hl_L_law_J3261 {p : Program} {l : Launch} {e : Env} {s : State} {m : MethodId} {args : Array Value} {below : List Frame} {meth : Method} {c : Code} {G : gaG} {nm : String} {Z : State → Prop} (hst : l.stackTraces = false) (V : gaV p l s m args meth c G code RL 7 gaW ret nm) (hend : ∀ (pc : Nat) (lv : List (Option Value)) (h : gaH) (k j : Nat), decode code pc = .ok (.ireturn, 1) → gaP p l e room_1 s m args below meth c G 7 Z pc lv [gi 1] h k j) : ∀ (K27 : Nat → Nat → Nat → Nat → Int → gaH → Nat → Nat → Prop), ∀ (hK27 : ∀ (v0 : Nat) (v1 : Nat) (v2 : Nat) (v3 : Nat) (v4 : Int) (h : gaH) (kc ks : Nat), K27 v0 v1 v2 v3 v4 h kc ks → gaP p l e room_1 s m args below meth c G 7 Z 27 [some (.ref v0), some (.ref v1), some (.ref v2), some (.ref v3), some (gi v4), none, none] [] h kc ks), ∀ (v0 : Nat) (v1 : Nat) (v2 : Nat) (v3 : Nat) (v4 : Int) (h : gaH) (kc ks : Nat), w_L_law_J3261 G K27 v0 v1 v2 v3 v4 h kc ks → gaP p l e room_1 s m args below meth c G 7 Z 3261 [some (.ref v0), some (.ref v1), some (.ref v2), some (.ref v3), some (gi v4), none, none] [] h kc ks := by
  intro K27 hK27
  intro v0 v1 v2 v3 v4 h kc ks hw
  unfold w_L_law_J3261 at hw
  refine g_aload_n V dL_law_3261 rfl rfl ?_
  refine g_aload_n V dL_law_3262 rfl rfl ?_
  refine g_iload V dL_law_3263 rfl rfl ?_
  refine g_iconst V (Int32.ofInt 1) dL_law_3265 rfl rfl ?_
  refine gi_iadd V dL_law_3266 rfl ?_
  obtain ⟨t9, vs, r1, ha, ht, h0, h9, hv, hw⟩ := hw
  refine gi_iaload V ha ht h0 h9 hv dL_law_3267 rfl ?_
  refine g_aload_n V dL_law_3268 rfl rfl ?_
  obtain ⟨hk, hj, c4, s5, ec, es, hw⟩ := hw
  refine g_callSX (st := []) V (k_L_cross hst hw) ww_5_161 ww_5_162 ww_1_0 ww_5_163 hd_L_cross ⟨by decide, by decide⟩ rfl rfl (ga_cat rfl) dL_law_3269 hk hj rfl ga_none (ga_ki (fun r3 hp2 hw => ?_))
  refine ga_re ec es ?_
  refine g_istore (lv2 := [some (.ref v0), some (.ref v1), some (.ref v2), some (.ref v3), some (gi v4), some (gi r3), none]) V dL_law_3272 (by decide) rfl rfl rfl ?_
  refine g_aload_n V dL_law_3274 rfl rfl ?_
  refine g_aload_n V dL_law_3275 rfl rfl ?_
  refine g_iload V dL_law_3276 rfl rfl ?_
  refine g_iconst V (Int32.ofInt 1) dL_law_3278 rfl rfl ?_
  refine gi_iadd V dL_law_3279 rfl ?_
  obtain ⟨t9, vs, r6, ha, ht, h0, h9, hv, hw⟩ := hw
  refine gi_iaload V ha ht h0 h9 hv dL_law_3280 rfl ?_
  obtain ⟨hb, hw⟩ := hw
  obtain ⟨fb, hb⟩ := hb
  obtain ⟨hk, hj, c9, s10, ec, es, hw⟩ := hw
  refine g_callV (C := RX7) (T := TX7) (N := 8) (st := []) V (k_X7_cross hst hw) ww_7_31 ww_7_32 ww_7_33 ww_1_5 ww_7_34 hd_X7_cross ⟨by decide, by decide⟩ rfl (by decide) hb rfl rfl (ga_cat rfl) dL_law_3281 hk hj rfl ga_none (ga_ki (fun r8 hp7 hw => ?_))
  refine ga_re ec es ?_
  refine g_istore (lv2 := [some (.ref v0), some (.ref v1), some (.ref v2), some (.ref v3), some (gi v4), some (gi r3), some (gi r8)]) V dL_law_3284 (by decide) rfl rfl rfl ?_
  refine g_aload_n V dL_law_3286 rfl rfl ?_
  obtain ⟨hb, hw⟩ := hw
  obtain ⟨fb, hb⟩ := hb
  refine g_callV (C := RX7) (T := TX7) (N := 8) (st := []) V (k_X7_thrown hst hw) ww_5_206 ww_5_207 ww_5_208 ww_1_5 ww_5_209 hd_X7_thrown ⟨by decide, by decide⟩ rfl (by decide) hb rfl rfl (ga_cat rfl) dL_law_3287 (Nat.zero_le _) (Nat.zero_le _) rfl ga_none (ga_ki (fun r12 hp11 hw => ?_))
  refine g_iload V dL_law_3290 rfl rfl ?_
  obtain ⟨hx0, hx1, hw⟩ := hw
  refine gi_icmp_eq V dL_law_3292 rfl rfl hx0 hx1 (fun q => ?_) (fun q => ?_)
  · have hw := ga_t q hw
    refine g_iload V dL_law_3297 rfl rfl ?_
    obtain ⟨hx0, hw⟩ := hw
    refine gi_if_ne V dL_law_3299 rfl rfl hx0 (fun q => ?_) (fun q => ?_)
    · have hw := ga_f q hw
      refine g_goto V dL_law_3315 rfl ?_
      refine g_less (bs := [true, true, true, true, true, false, false]) (lv2 := [some (.ref v0), some (.ref v1), some (.ref v2), some (.ref v3), some (gi v4), none, none]) rfl ?_
      exact hl_L_law_J3472 hst V hend K27 hK27 v0 v1 v2 v3 v4 hp11 c9 s10 hw
    · have hw := ga_t q hw
      refine g_aload_n V dL_law_3302 rfl rfl ?_
      obtain ⟨fs, r13, ha, hv, hw⟩ := hw
      refine g_getN (C := RX6) (T := TX6) (N := 2) (host := "WordgardenLaw") V 0 rfl hin_RX6 (by decide) (by decide) gn_22 rfl ha hv dL_law_3303 rfl ?_
      refine g_iload V dL_law_3306 rfl rfl ?_
      refine gi_i2l V dL_law_3308 rfl ?_
      refine gi_lcmp V dL_law_3309 rfl ?_
      obtain ⟨hx0, hw⟩ := hw
      refine gi_if_eq V dL_law_3310 rfl rfl hx0 (fun q => ?_) (fun q => ?_)
      · have hw := ga_t q hw
        refine g_goto V dL_law_3315 rfl ?_
        refine g_less (bs := [true, true, true, true, true, false, false]) (lv2 := [some (.ref v0), some (.ref v1), some (.ref v2), some (.ref v3), some (gi v4), none, none]) rfl ?_
        exact hl_L_law_J3472 hst V hend K27 hK27 v0 v1 v2 v3 v4 hp11 c9 s10 hw
      · have hw := ga_f q hw
        refine g_iconst V (Int32.ofInt 0) dL_law_3313 rfl rfl ?_
        exact hw.elim
  · have hw := ga_f q hw
    refine g_iconst V (Int32.ofInt 0) dL_law_3295 rfl rfl ?_
    exact hw.elim
theorem hl_L_law_J3224 {p : Program} {l : Launch} {e : Env} {s : State} {m : MethodId} {args : Array Value} {below : List Frame} {meth : Method} {c : Code} {G : gaG} {nm : String} {Z : State → Prop} (hst : l.stackTraces = false) (V : gaV p l s m args meth c G code RL 7 gaW ret nm) (hend : ∀ (pc : Nat) (lv : List (Option Value)) (h : gaH) (k j : Nat), decode code pc = .ok (.ireturn, 1) → gaP p l e room_1 s m args below meth c G 7 Z pc lv [gi 1] h k j) : ∀ (K27 : Nat → Nat → Nat → Nat → Int → gaH → Nat → Nat → Prop), ∀ (hK27 : ∀ (v0 : Nat) (v1 : Nat) (v2 : Nat) (v3 : Nat) (v4 : Int) (h : gaH) (kc ks : Nat), K27 v0 v1 v2 v3 v4 h kc ks → gaP p l e room_1 s m args below meth c G 7 Z 27 [some (.ref v0), some (.ref v1), some (.ref v2), some (.ref v3), some (gi v4), none, none] [] h kc ks), ∀ (v0 : Nat) (v1 : Nat) (v2 : Nat) (v3 : Nat) (v4 : Int) (v5 : Int) (t0 : Nat) (t1 : Int) (t2 : Int) (h : gaH) (kc ks : Nat), w_L_law_J3224 G K27 v0 v1 v2 v3 v4 v5 t0 t1 t2 h kc ks → gaP p l e room_1 s m args below meth c G 7 Z 3224 [some (.ref v0), some (.ref v1), some (.ref v2), some (.ref v3), some (gi v4), some (gi v5), none] [gi t2, gi t1, .ref t0] h kc ks := by
  intro K27 hK27
  intro v0 v1 v2 v3 v4 v5 t0 t1 t2 h kc ks hw
  unfold w_L_law_J3224 at hw
  obtain ⟨hb, hw⟩ := hw
  obtain ⟨fb, hb⟩ := hb
  obtain ⟨hk, hj, c3, s4, ec, es, hw⟩ := hw
  refine g_callV (C := RX7) (T := TX7) (N := 8) (st := []) V (k_X7_ups hst hw) ww_7_27 ww_7_28 ww_7_29 ww_1_5 ww_7_30 hd_X7_ups ⟨by decide, by decide⟩ rfl (by decide) hb rfl rfl (ga_cat rfl) dL_law_3224 hk hj rfl ga_none (ga_ki (fun r2 hp1 hw => ?_))
  refine ga_re ec es ?_
  refine g_istore (lv2 := [some (.ref v0), some (.ref v1), some (.ref v2), some (.ref v3), some (gi v4), some (gi v5), some (gi r2)]) V dL_law_3227 (by decide) rfl rfl rfl ?_
  refine g_aload_n V dL_law_3229 rfl rfl ?_
  obtain ⟨hb, hw⟩ := hw
  obtain ⟨fb, hb⟩ := hb
  refine g_callV (C := RX7) (T := TX7) (N := 8) (st := []) V (k_X7_thrown hst hw) ww_5_206 ww_5_207 ww_5_208 ww_1_5 ww_5_209 hd_X7_thrown ⟨by decide, by decide⟩ rfl (by decide) hb rfl rfl (ga_cat rfl) dL_law_3230 (Nat.zero_le _) (Nat.zero_le _) rfl ga_none (ga_ki (fun r6 hp5 hw => ?_))
  refine g_iload V dL_law_3233 rfl rfl ?_
  obtain ⟨hx0, hx1, hw⟩ := hw
  refine gi_icmp_eq V dL_law_3235 rfl rfl hx0 hx1 (fun q => ?_) (fun q => ?_)
  · have hw := ga_t q hw
    refine g_iload V dL_law_3240 rfl rfl ?_
    obtain ⟨hx0, hw⟩ := hw
    refine gi_if_ne V dL_law_3242 rfl rfl hx0 (fun q => ?_) (fun q => ?_)
    · have hw := ga_f q hw
      refine g_goto V dL_law_3258 rfl ?_
      refine g_less (bs := [true, true, true, true, true, false, false]) (lv2 := [some (.ref v0), some (.ref v1), some (.ref v2), some (.ref v3), some (gi v4), none, none]) rfl ?_
      exact hl_L_law_J3472 hst V hend K27 hK27 v0 v1 v2 v3 v4 hp5 c3 s4 hw
    · have hw := ga_t q hw
      refine g_aload_n V dL_law_3245 rfl rfl ?_
      obtain ⟨fs, r7, ha, hv, hw⟩ := hw
      refine g_getN (C := RX6) (T := TX6) (N := 2) (host := "WordgardenLaw") V 0 rfl hin_RX6 (by decide) (by decide) gn_22 rfl ha hv dL_law_3246 rfl ?_
      refine g_iload V dL_law_3249 rfl rfl ?_
      refine gi_i2l V dL_law_3251 rfl ?_
      refine gi_lcmp V dL_law_3252 rfl ?_
      obtain ⟨hx0, hw⟩ := hw
      refine gi_if_eq V dL_law_3253 rfl rfl hx0 (fun q => ?_) (fun q => ?_)
      · have hw := ga_t q hw
        refine g_goto V dL_law_3258 rfl ?_
        refine g_less (bs := [true, true, true, true, true, false, false]) (lv2 := [some (.ref v0), some (.ref v1), some (.ref v2), some (.ref v3), some (gi v4), none, none]) rfl ?_
        exact hl_L_law_J3472 hst V hend K27 hK27 v0 v1 v2 v3 v4 hp5 c3 s4 hw
      · have hw := ga_f q hw
        refine g_iconst V (Int32.ofInt 0) dL_law_3256 rfl rfl ?_
        exact hw.elim
  · have hw := ga_f q hw
    refine g_iconst V (Int32.ofInt 0) dL_law_3238 rfl rfl ?_
    exact hw.elim
theorem hl_L_law_J3197 {p : Program} {l : Launch} {e : Env} {s : State} {m : MethodId} {args : Array Value} {below : List Frame} {meth : Method} {c : Code} {G : gaG} {nm : String} {Z : State → Prop} (hst : l.stackTraces = false) (V : gaV p l s m args meth c G code RL 7 gaW ret nm) (hend : ∀ (pc : Nat) (lv : List (Option Value)) (h : gaH) (k j : Nat), decode code pc = .ok (.ireturn, 1) → gaP p l e room_1 s m args below meth c G 7 Z pc lv [gi 1] h k j) : ∀ (K27 : Nat → Nat → Nat → Nat → Int → gaH → Nat → Nat → Prop), ∀ (hK27 : ∀ (v0 : Nat) (v1 : Nat) (v2 : Nat) (v3 : Nat) (v4 : Int) (h : gaH) (kc ks : Nat), K27 v0 v1 v2 v3 v4 h kc ks → gaP p l e room_1 s m args below meth c G 7 Z 27 [some (.ref v0), some (.ref v1), some (.ref v2), some (.ref v3), some (gi v4), none, none] [] h kc ks), ∀ (v0 : Nat) (v1 : Nat) (v2 : Nat) (v3 : Nat) (v4 : Int) (t0 : Nat) (t1 : Int) (t2 : Int) (h : gaH) (kc ks : Nat), w_L_law_J3197 G K27 v0 v1 v2 v3 v4 t0 t1 t2 h kc ks → gaP p l e room_1 s m args below meth c G 7 Z 3197 [some (.ref v0), some (.ref v1), some (.ref v2), some (.ref v3), some (gi v4), none, none] [gi t2, gi t1, .ref t0] h kc ks := by
  intro K27 hK27
  intro v0 v1 v2 v3 v4 t0 t1 t2 h kc ks hw
  unfold w_L_law_J3197 at hw
  refine g_aload_n V dL_law_3197 rfl rfl ?_
  obtain ⟨hk, hj, c3, s4, ec, es, hw⟩ := hw
  refine g_callSX (st := []) V (k_L_ups hst hw) ww_5_157 ww_5_158 ww_1_0 ww_5_159 hd_L_ups ⟨by decide, by decide⟩ rfl rfl (ga_cat rfl) dL_law_3198 hk hj rfl ga_none (ga_ki (fun r2 hp1 hw => ?_))
  refine ga_re ec es ?_
  refine g_istore (lv2 := [some (.ref v0), some (.ref v1), some (.ref v2), some (.ref v3), some (gi v4), some (gi r2), none]) V dL_law_3201 (by decide) rfl rfl rfl ?_
  refine g_aload_n V dL_law_3203 rfl rfl ?_
  refine g_aload_n V dL_law_3204 rfl rfl ?_
  refine g_iload V dL_law_3205 rfl rfl ?_
  refine g_iconst V (Int32.ofInt 1) dL_law_3207 rfl rfl ?_
  refine gi_iadd V dL_law_3208 rfl ?_
  obtain ⟨t9, vs, r5, ha, ht, h0, h9, hv, hw⟩ := hw
  refine gi_iaload V ha ht h0 h9 hv dL_law_3209 rfl ?_
  refine g_aload_n V dL_law_3210 rfl rfl ?_
  refine g_iload V dL_law_3211 rfl rfl ?_
  refine g_iconst V (Int32.ofInt 2) dL_law_3213 rfl rfl ?_
  refine gi_iadd V dL_law_3214 rfl ?_
  obtain ⟨t9, vs, r6, ha, ht, h0, h9, hv, hw⟩ := hw
  refine gi_iaload V ha ht h0 h9 hv dL_law_3215 rfl ?_
  obtain ⟨hx0, hw⟩ := hw
  refine gi_if_eq V dL_law_3216 rfl rfl hx0 (fun q => ?_) (fun q => ?_)
  · have hw := ga_t q hw
    refine g_iconst V (Int32.ofInt 0) dL_law_3223 rfl rfl ?_
    exact hl_L_law_J3224 hst V hend K27 hK27 v0 v1 v2 v3 v4 r2 v2 r5 0 hp1 c3 s4 hw
  · have hw := ga_f q hw
    refine g_iconst V (Int32.ofInt 1) dL_law_3219 rfl rfl ?_
    refine g_goto V dL_law_3220 rfl ?_
    exact hl_L_law_J3224 hst V hend K27 hK27 v0 v1 v2 v3 v4 r2 v2 r5 1 hp1 c3 s4 hw
theorem hl_L_law_J3176 {p : Program} {l : Launch} {e : Env} {s : State} {m : MethodId} {args : Array Value} {below : List Frame} {meth : Method} {c : Code} {G : gaG} {nm : String} {Z : State → Prop} (hst : l.stackTraces = false) (V : gaV p l s m args meth c G code RL 7 gaW ret nm) (hend : ∀ (pc : Nat) (lv : List (Option Value)) (h : gaH) (k j : Nat), decode code pc = .ok (.ireturn, 1) → gaP p l e room_1 s m args below meth c G 7 Z pc lv [gi 1] h k j) : ∀ (K27 : Nat → Nat → Nat → Nat → Int → gaH → Nat → Nat → Prop), ∀ (hK27 : ∀ (v0 : Nat) (v1 : Nat) (v2 : Nat) (v3 : Nat) (v4 : Int) (h : gaH) (kc ks : Nat), K27 v0 v1 v2 v3 v4 h kc ks → gaP p l e room_1 s m args below meth c G 7 Z 27 [some (.ref v0), some (.ref v1), some (.ref v2), some (.ref v3), some (gi v4), none, none] [] h kc ks), ∀ (v0 : Nat) (v1 : Nat) (v2 : Nat) (v3 : Nat) (v4 : Int) (h : gaH) (kc ks : Nat), w_L_law_J3176 G K27 v0 v1 v2 v3 v4 h kc ks → gaP p l e room_1 s m args below meth c G 7 Z 3176 [some (.ref v0), some (.ref v1), some (.ref v2), some (.ref v3), some (gi v4), none, none] [] h kc ks := by
  intro K27 hK27
  intro v0 v1 v2 v3 v4 h kc ks hw
  unfold w_L_law_J3176 at hw
  refine g_aload_n V dL_law_3176 rfl rfl ?_
  refine g_aload_n V dL_law_3177 rfl rfl ?_
  refine g_iload V dL_law_3178 rfl rfl ?_
  refine g_iconst V (Int32.ofInt 1) dL_law_3180 rfl rfl ?_
  refine gi_iadd V dL_law_3181 rfl ?_
  obtain ⟨t9, vs, r1, ha, ht, h0, h9, hv, hw⟩ := hw
  refine gi_iaload V ha ht h0 h9 hv dL_law_3182 rfl ?_
  refine g_aload_n V dL_law_3183 rfl rfl ?_
  refine g_iload V dL_law_3184 rfl rfl ?_
  refine g_iconst V (Int32.ofInt 2) dL_law_3186 rfl rfl ?_
  refine gi_iadd V dL_law_3187 rfl ?_
  obtain ⟨t9, vs, r2, ha, ht, h0, h9, hv, hw⟩ := hw
  refine gi_iaload V ha ht h0 h9 hv dL_law_3188 rfl ?_
  obtain ⟨hx0, hw⟩ := hw
  refine gi_if_eq V dL_law_3189 rfl rfl hx0 (fun q => ?_) (fun q => ?_)
  · have hw := ga_t q hw
    refine g_iconst V (Int32.ofInt 0) dL_law_3196 rfl rfl ?_
    exact hl_L_law_J3197 hst V hend K27 hK27 v0 v1 v2 v3 v4 v1 r1 0 h kc ks hw
  · have hw := ga_f q hw
    refine g_iconst V (Int32.ofInt 1) dL_law_3192 rfl rfl ?_
    refine g_goto V dL_law_3193 rfl ?_
    exact hl_L_law_J3197 hst V hend K27 hK27 v0 v1 v2 v3 v4 v1 r1 1 h kc ks hw
theorem hl_L_law_J3139 {p : Program} {l : Launch} {e : Env} {s : State} {m : MethodId} {args : Array Value} {below : List Frame} {meth : Method} {c : Code} {G : gaG} {nm : String} {Z : State → Prop} (hst : l.stackTraces = false) (V : gaV p l s m args meth c G code RL 7 gaW ret nm) (hend : ∀ (pc : Nat) (lv : List (Option Value)) (h : gaH) (k j : Nat), decode code pc = .ok (.ireturn, 1) → gaP p l e room_1 s m args below meth c G 7 Z pc lv [gi 1] h k j) : ∀ (K27 : Nat → Nat → Nat → Nat → Int → gaH → Nat → Nat → Prop), ∀ (hK27 : ∀ (v0 : Nat) (v1 : Nat) (v2 : Nat) (v3 : Nat) (v4 : Int) (h : gaH) (kc ks : Nat), K27 v0 v1 v2 v3 v4 h kc ks → gaP p l e room_1 s m args below meth c G 7 Z 27 [some (.ref v0), some (.ref v1), some (.ref v2), some (.ref v3), some (gi v4), none, none] [] h kc ks), ∀ (v0 : Nat) (v1 : Nat) (v2 : Nat) (v3 : Nat) (v4 : Int) (v5 : Int) (t0 : Nat) (t1 : Int) (t2 : Int) (h : gaH) (kc ks : Nat), w_L_law_J3139 G K27 v0 v1 v2 v3 v4 v5 t0 t1 t2 h kc ks → gaP p l e room_1 s m args below meth c G 7 Z 3139 [some (.ref v0), some (.ref v1), some (.ref v2), some (.ref v3), some (gi v4), some (gi v5), none] [gi t2, gi t1, .ref t0] h kc ks := by
  intro K27 hK27
  intro v0 v1 v2 v3 v4 v5 t0 t1 t2 h kc ks hw
  unfold w_L_law_J3139 at hw
  obtain ⟨hb, hw⟩ := hw
  obtain ⟨fb, hb⟩ := hb
  obtain ⟨hk, hj, c3, s4, ec, es, hw⟩ := hw
  refine g_callV (C := RX7) (T := TX7) (N := 8) (st := []) V (k_X7_size hst hw) ww_7_23 ww_7_24 ww_7_25 ww_1_5 ww_7_26 hd_X7_size ⟨by decide, by decide⟩ rfl (by decide) hb rfl rfl (ga_cat rfl) dL_law_3139 hk hj rfl ga_none (ga_ki (fun r2 hp1 hw => ?_))
  refine ga_re ec es ?_
  refine g_istore (lv2 := [some (.ref v0), some (.ref v1), some (.ref v2), some (.ref v3), some (gi v4), some (gi v5), some (gi r2)]) V dL_law_3142 (by decide) rfl rfl rfl ?_
  refine g_aload_n V dL_law_3144 rfl rfl ?_
  obtain ⟨hb, hw⟩ := hw
  obtain ⟨fb, hb⟩ := hb
  refine g_callV (C := RX7) (T := TX7) (N := 8) (st := []) V (k_X7_thrown hst hw) ww_5_206 ww_5_207 ww_5_208 ww_1_5 ww_5_209 hd_X7_thrown ⟨by decide, by decide⟩ rfl (by decide) hb rfl rfl (ga_cat rfl) dL_law_3145 (Nat.zero_le _) (Nat.zero_le _) rfl ga_none (ga_ki (fun r6 hp5 hw => ?_))
  refine g_iload V dL_law_3148 rfl rfl ?_
  obtain ⟨hx0, hx1, hw⟩ := hw
  refine gi_icmp_eq V dL_law_3150 rfl rfl hx0 hx1 (fun q => ?_) (fun q => ?_)
  · have hw := ga_t q hw
    refine g_iload V dL_law_3155 rfl rfl ?_
    obtain ⟨hx0, hw⟩ := hw
    refine gi_if_ne V dL_law_3157 rfl rfl hx0 (fun q => ?_) (fun q => ?_)
    · have hw := ga_f q hw
      refine g_goto V dL_law_3173 rfl ?_
      refine g_less (bs := [true, true, true, true, true, false, false]) (lv2 := [some (.ref v0), some (.ref v1), some (.ref v2), some (.ref v3), some (gi v4), none, none]) rfl ?_
      exact hl_L_law_J3472 hst V hend K27 hK27 v0 v1 v2 v3 v4 hp5 c3 s4 hw
    · have hw := ga_t q hw
      refine g_aload_n V dL_law_3160 rfl rfl ?_
      obtain ⟨fs, r7, ha, hv, hw⟩ := hw
      refine g_getN (C := RX6) (T := TX6) (N := 2) (host := "WordgardenLaw") V 0 rfl hin_RX6 (by decide) (by decide) gn_22 rfl ha hv dL_law_3161 rfl ?_
      refine g_iload V dL_law_3164 rfl rfl ?_
      refine gi_i2l V dL_law_3166 rfl ?_
      refine gi_lcmp V dL_law_3167 rfl ?_
      obtain ⟨hx0, hw⟩ := hw
      refine gi_if_eq V dL_law_3168 rfl rfl hx0 (fun q => ?_) (fun q => ?_)
      · have hw := ga_t q hw
        refine g_goto V dL_law_3173 rfl ?_
        refine g_less (bs := [true, true, true, true, true, false, false]) (lv2 := [some (.ref v0), some (.ref v1), some (.ref v2), some (.ref v3), some (gi v4), none, none]) rfl ?_
        exact hl_L_law_J3472 hst V hend K27 hK27 v0 v1 v2 v3 v4 hp5 c3 s4 hw
      · have hw := ga_f q hw
        refine g_iconst V (Int32.ofInt 0) dL_law_3171 rfl rfl ?_
        exact hw.elim
  · have hw := ga_f q hw
    refine g_iconst V (Int32.ofInt 0) dL_law_3153 rfl rfl ?_
    exact hw.elim
theorem hl_L_law_J3112 {p : Program} {l : Launch} {e : Env} {s : State} {m : MethodId} {args : Array Value} {below : List Frame} {meth : Method} {c : Code} {G : gaG} {nm : String} {Z : State → Prop} (hst : l.stackTraces = false) (V : gaV p l s m args meth c G code RL 7 gaW ret nm) (hend : ∀ (pc : Nat) (lv : List (Option Value)) (h : gaH) (k j : Nat), decode code pc = .ok (.ireturn, 1) → gaP p l e room_1 s m args below meth c G 7 Z pc lv [gi 1] h k j) : ∀ (K27 : Nat → Nat → Nat → Nat → Int → gaH → Nat → Nat → Prop), ∀ (hK27 : ∀ (v0 : Nat) (v1 : Nat) (v2 : Nat) (v3 : Nat) (v4 : Int) (h : gaH) (kc ks : Nat), K27 v0 v1 v2 v3 v4 h kc ks → gaP p l e room_1 s m args below meth c G 7 Z 27 [some (.ref v0), some (.ref v1), some (.ref v2), some (.ref v3), some (gi v4), none, none] [] h kc ks), ∀ (v0 : Nat) (v1 : Nat) (v2 : Nat) (v3 : Nat) (v4 : Int) (t0 : Nat) (t1 : Int) (t2 : Int) (h : gaH) (kc ks : Nat), w_L_law_J3112 G K27 v0 v1 v2 v3 v4 t0 t1 t2 h kc ks → gaP p l e room_1 s m args below meth c G 7 Z 3112 [some (.ref v0), some (.ref v1), some (.ref v2), some (.ref v3), some (gi v4), none, none] [gi t2, gi t1, .ref t0] h kc ks := by
  intro K27 hK27
  intro v0 v1 v2 v3 v4 t0 t1 t2 h kc ks hw
  unfold w_L_law_J3112 at hw
  refine g_aload_n V dL_law_3112 rfl rfl ?_
  obtain ⟨hk, hj, c3, s4, ec, es, hw⟩ := hw
  refine g_callSX (st := []) V (k_L_size hst hw) ww_5_153 ww_5_154 ww_1_0 ww_5_155 hd_L_size ⟨by decide, by decide⟩ rfl rfl (ga_cat rfl) dL_law_3113 hk hj rfl ga_none (ga_ki (fun r2 hp1 hw => ?_))
  refine ga_re ec es ?_
  refine g_istore (lv2 := [some (.ref v0), some (.ref v1), some (.ref v2), some (.ref v3), some (gi v4), some (gi r2), none]) V dL_law_3116 (by decide) rfl rfl rfl ?_
  refine g_aload_n V dL_law_3118 rfl rfl ?_
  refine g_aload_n V dL_law_3119 rfl rfl ?_
  refine g_iload V dL_law_3120 rfl rfl ?_
  refine g_iconst V (Int32.ofInt 1) dL_law_3122 rfl rfl ?_
  refine gi_iadd V dL_law_3123 rfl ?_
  obtain ⟨t9, vs, r5, ha, ht, h0, h9, hv, hw⟩ := hw
  refine gi_iaload V ha ht h0 h9 hv dL_law_3124 rfl ?_
  refine g_aload_n V dL_law_3125 rfl rfl ?_
  refine g_iload V dL_law_3126 rfl rfl ?_
  refine g_iconst V (Int32.ofInt 2) dL_law_3128 rfl rfl ?_
  refine gi_iadd V dL_law_3129 rfl ?_
  obtain ⟨t9, vs, r6, ha, ht, h0, h9, hv, hw⟩ := hw
  refine gi_iaload V ha ht h0 h9 hv dL_law_3130 rfl ?_
  obtain ⟨hx0, hw⟩ := hw
  refine gi_if_eq V dL_law_3131 rfl rfl hx0 (fun q => ?_) (fun q => ?_)
  · have hw := ga_t q hw
    refine g_iconst V (Int32.ofInt 0) dL_law_3138 rfl rfl ?_
    exact hl_L_law_J3139 hst V hend K27 hK27 v0 v1 v2 v3 v4 r2 v2 r5 0 hp1 c3 s4 hw
  · have hw := ga_f q hw
    refine g_iconst V (Int32.ofInt 1) dL_law_3134 rfl rfl ?_
    refine g_goto V dL_law_3135 rfl ?_
    exact hl_L_law_J3139 hst V hend K27 hK27 v0 v1 v2 v3 v4 r2 v2 r5 1 hp1 c3 s4 hw
theorem hl_L_law_J3091 {p : Program} {l : Launch} {e : Env} {s : State} {m : MethodId} {args : Array Value} {below : List Frame} {meth : Method} {c : Code} {G : gaG} {nm : String} {Z : State → Prop} (hst : l.stackTraces = false) (V : gaV p l s m args meth c G code RL 7 gaW ret nm) (hend : ∀ (pc : Nat) (lv : List (Option Value)) (h : gaH) (k j : Nat), decode code pc = .ok (.ireturn, 1) → gaP p l e room_1 s m args below meth c G 7 Z pc lv [gi 1] h k j) : ∀ (K27 : Nat → Nat → Nat → Nat → Int → gaH → Nat → Nat → Prop), ∀ (hK27 : ∀ (v0 : Nat) (v1 : Nat) (v2 : Nat) (v3 : Nat) (v4 : Int) (h : gaH) (kc ks : Nat), K27 v0 v1 v2 v3 v4 h kc ks → gaP p l e room_1 s m args below meth c G 7 Z 27 [some (.ref v0), some (.ref v1), some (.ref v2), some (.ref v3), some (gi v4), none, none] [] h kc ks), ∀ (v0 : Nat) (v1 : Nat) (v2 : Nat) (v3 : Nat) (v4 : Int) (h : gaH) (kc ks : Nat), w_L_law_J3091 G K27 v0 v1 v2 v3 v4 h kc ks → gaP p l e room_1 s m args below meth c G 7 Z 3091 [some (.ref v0), some (.ref v1), some (.ref v2), some (.ref v3), some (gi v4), none, none] [] h kc ks := by
  intro K27 hK27
  intro v0 v1 v2 v3 v4 h kc ks hw
  unfold w_L_law_J3091 at hw
  refine g_aload_n V dL_law_3091 rfl rfl ?_
  refine g_aload_n V dL_law_3092 rfl rfl ?_
  refine g_iload V dL_law_3093 rfl rfl ?_
  refine g_iconst V (Int32.ofInt 1) dL_law_3095 rfl rfl ?_
  refine gi_iadd V dL_law_3096 rfl ?_
  obtain ⟨t9, vs, r1, ha, ht, h0, h9, hv, hw⟩ := hw
  refine gi_iaload V ha ht h0 h9 hv dL_law_3097 rfl ?_
  refine g_aload_n V dL_law_3098 rfl rfl ?_
  refine g_iload V dL_law_3099 rfl rfl ?_
  refine g_iconst V (Int32.ofInt 2) dL_law_3101 rfl rfl ?_
  refine gi_iadd V dL_law_3102 rfl ?_
  obtain ⟨t9, vs, r2, ha, ht, h0, h9, hv, hw⟩ := hw
  refine gi_iaload V ha ht h0 h9 hv dL_law_3103 rfl ?_
  obtain ⟨hx0, hw⟩ := hw
  refine gi_if_eq V dL_law_3104 rfl rfl hx0 (fun q => ?_) (fun q => ?_)
  · have hw := ga_t q hw
    refine g_iconst V (Int32.ofInt 0) dL_law_3111 rfl rfl ?_
    exact hl_L_law_J3112 hst V hend K27 hK27 v0 v1 v2 v3 v4 v1 r1 0 h kc ks hw
  · have hw := ga_f q hw
    refine g_iconst V (Int32.ofInt 1) dL_law_3107 rfl rfl ?_
    refine g_goto V dL_law_3108 rfl ?_
    exact hl_L_law_J3112 hst V hend K27 hK27 v0 v1 v2 v3 v4 v1 r1 1 h kc ks hw
theorem hl_L_law_J3053 {p : Program} {l : Launch} {e : Env} {s : State} {m : MethodId} {args : Array Value} {below : List Frame} {meth : Method} {c : Code} {G : gaG} {nm : String} {Z : State → Prop} (hst : l.stackTraces = false) (V : gaV p l s m args meth c G code RL 7 gaW ret nm) (hend : ∀ (pc : Nat) (lv : List (Option Value)) (h : gaH) (k j : Nat), decode code pc = .ok (.ireturn, 1) → gaP p l e room_1 s m args below meth c G 7 Z pc lv [gi 1] h k j) : ∀ (K27 : Nat → Nat → Nat → Nat → Int → gaH → Nat → Nat → Prop), ∀ (hK27 : ∀ (v0 : Nat) (v1 : Nat) (v2 : Nat) (v3 : Nat) (v4 : Int) (h : gaH) (kc ks : Nat), K27 v0 v1 v2 v3 v4 h kc ks → gaP p l e room_1 s m args below meth c G 7 Z 27 [some (.ref v0), some (.ref v1), some (.ref v2), some (.ref v3), some (gi v4), none, none] [] h kc ks), ∀ (v0 : Nat) (v1 : Nat) (v2 : Nat) (v3 : Nat) (v4 : Int) (v5 : Int) (t0 : Nat) (t1 : Int) (t2 : Int) (h : gaH) (kc ks : Nat), w_L_law_J3053 G K27 v0 v1 v2 v3 v4 v5 t0 t1 t2 h kc ks → gaP p l e room_1 s m args below meth c G 7 Z 3053 [some (.ref v0), some (.ref v1), some (.ref v2), some (.ref v3), some (gi v4), some (gi v5), none] [gi t2, gi t1, .ref t0] h kc ks := by
  intro K27 hK27
  intro v0 v1 v2 v3 v4 v5 t0 t1 t2 h kc ks hw
  unfold w_L_law_J3053 at hw
  obtain ⟨hb, hw⟩ := hw
  obtain ⟨fb, hb⟩ := hb
  obtain ⟨hk, hj, c3, s4, ec, es, hw⟩ := hw
  refine g_callV (C := RX7) (T := TX7) (N := 8) (st := []) V (k_X7_grown hst hw) ww_7_15 ww_7_16 ww_7_17 ww_1_5 ww_7_18 hd_X7_grown ⟨by decide, by decide⟩ rfl (by decide) hb rfl rfl (ga_cat rfl) dL_law_3053 hk hj rfl ga_none (ga_ka (fun r2 hp1 hw => ?_))
  refine ga_re ec es ?_
  refine g_astore (lv2 := [some (.ref v0), some (.ref v1), some (.ref v2), some (.ref v3), some (gi v4), some (gi v5), some (.ref r2)]) V dL_law_3056 (by decide) rfl rfl rfl ?_
  refine g_aload_n V dL_law_3058 rfl rfl ?_
  obtain ⟨hb, hw⟩ := hw
  obtain ⟨fb, hb⟩ := hb
  refine g_callV (C := RX7) (T := TX7) (N := 8) (st := []) V (k_X7_thrown hst hw) ww_5_206 ww_5_207 ww_5_208 ww_1_5 ww_5_209 hd_X7_thrown ⟨by decide, by decide⟩ rfl (by decide) hb rfl rfl (ga_cat rfl) dL_law_3059 (Nat.zero_le _) (Nat.zero_le _) rfl ga_none (ga_ki (fun r6 hp5 hw => ?_))
  refine g_iload V dL_law_3062 rfl rfl ?_
  obtain ⟨hx0, hx1, hw⟩ := hw
  refine gi_icmp_eq V dL_law_3064 rfl rfl hx0 hx1 (fun q => ?_) (fun q => ?_)
  · have hw := ga_t q hw
    refine g_iload V dL_law_3069 rfl rfl ?_
    obtain ⟨hx0, hw⟩ := hw
    refine gi_if_ne V dL_law_3071 rfl rfl hx0 (fun q => ?_) (fun q => ?_)
    · have hw := ga_f q hw
      refine g_goto V dL_law_3088 rfl ?_
      refine g_less (bs := [true, true, true, true, true, false, false]) (lv2 := [some (.ref v0), some (.ref v1), some (.ref v2), some (.ref v3), some (gi v4), none, none]) rfl ?_
      exact hl_L_law_J3472 hst V hend K27 hK27 v0 v1 v2 v3 v4 hp5 c3 s4 hw
    · have hw := ga_t q hw
      refine g_aload_n V dL_law_3074 rfl rfl ?_
      obtain ⟨fs, r7, ha, hv, hw⟩ := hw
      refine g_getN (C := RX6) (T := TX6) (N := 2) (host := "WordgardenLaw") V 1 rfl hin_RX6 (by decide) (by decide) gn_23 rfl ha hv dL_law_3075 rfl ?_
      refine g_aload V dL_law_3078 rfl rfl ?_
      obtain ⟨hb, hw⟩ := hw
      obtain ⟨fb, hb⟩ := hb
      refine g_callV (C := RJ0) (T := TJ0) (N := 4) (st := []) V (k_J0_equals_9ea2d hst hw) ww_7_78 ww_7_79 ww_7_80 ww_1_19 ww_7_81 hd_J0_equals_9ea2d ⟨by decide, by decide⟩ rfl (by decide) hb rfl rfl (ga_cat rfl) dL_law_3080 (Nat.zero_le _) (Nat.zero_le _) rfl ga_none (ga_ki (fun r9 hp8 hw => ?_))
      obtain ⟨hx0, hw⟩ := hw
      refine gi_if_ne V dL_law_3083 rfl rfl hx0 (fun q => ?_) (fun q => ?_)
      · have hw := ga_f q hw
        refine g_goto V dL_law_3088 rfl ?_
        refine g_less (bs := [true, true, true, true, true, false, false]) (lv2 := [some (.ref v0), some (.ref v1), some (.ref v2), some (.ref v3), some (gi v4), none, none]) rfl ?_
        exact hl_L_law_J3472 hst V hend K27 hK27 v0 v1 v2 v3 v4 hp8 c3 s4 hw
      · have hw := ga_t q hw
        refine g_iconst V (Int32.ofInt 0) dL_law_3086 rfl rfl ?_
        exact hw.elim
  · have hw := ga_f q hw
    refine g_iconst V (Int32.ofInt 0) dL_law_3067 rfl rfl ?_
    exact hw.elim
theorem hl_L_law_J3026 {p : Program} {l : Launch} {e : Env} {s : State} {m : MethodId} {args : Array Value} {below : List Frame} {meth : Method} {c : Code} {G : gaG} {nm : String} {Z : State → Prop} (hst : l.stackTraces = false) (V : gaV p l s m args meth c G code RL 7 gaW ret nm) (hend : ∀ (pc : Nat) (lv : List (Option Value)) (h : gaH) (k j : Nat), decode code pc = .ok (.ireturn, 1) → gaP p l e room_1 s m args below meth c G 7 Z pc lv [gi 1] h k j) : ∀ (K27 : Nat → Nat → Nat → Nat → Int → gaH → Nat → Nat → Prop), ∀ (hK27 : ∀ (v0 : Nat) (v1 : Nat) (v2 : Nat) (v3 : Nat) (v4 : Int) (h : gaH) (kc ks : Nat), K27 v0 v1 v2 v3 v4 h kc ks → gaP p l e room_1 s m args below meth c G 7 Z 27 [some (.ref v0), some (.ref v1), some (.ref v2), some (.ref v3), some (gi v4), none, none] [] h kc ks), ∀ (v0 : Nat) (v1 : Nat) (v2 : Nat) (v3 : Nat) (v4 : Int) (t0 : Nat) (t1 : Int) (t2 : Int) (h : gaH) (kc ks : Nat), w_L_law_J3026 G K27 v0 v1 v2 v3 v4 t0 t1 t2 h kc ks → gaP p l e room_1 s m args below meth c G 7 Z 3026 [some (.ref v0), some (.ref v1), some (.ref v2), some (.ref v3), some (gi v4), none, none] [gi t2, gi t1, .ref t0] h kc ks := by
  intro K27 hK27
  intro v0 v1 v2 v3 v4 t0 t1 t2 h kc ks hw
  unfold w_L_law_J3026 at hw
  refine g_aload_n V dL_law_3026 rfl rfl ?_
  obtain ⟨hk, hj, c3, s4, ec, es, hw⟩ := hw
  refine g_callSX (st := []) V (k_L_grown hst hw) ww_5_146 ww_5_147 ww_1_0 ww_5_148 hd_L_grown ⟨by decide, by decide⟩ rfl rfl (ga_cat rfl) dL_law_3027 hk hj rfl ga_none (ga_ki (fun r2 hp1 hw => ?_))
  refine ga_re ec es ?_
  refine g_istore (lv2 := [some (.ref v0), some (.ref v1), some (.ref v2), some (.ref v3), some (gi v4), some (gi r2), none]) V dL_law_3030 (by decide) rfl rfl rfl ?_
  refine g_aload_n V dL_law_3032 rfl rfl ?_
  refine g_aload_n V dL_law_3033 rfl rfl ?_
  refine g_iload V dL_law_3034 rfl rfl ?_
  refine g_iconst V (Int32.ofInt 1) dL_law_3036 rfl rfl ?_
  refine gi_iadd V dL_law_3037 rfl ?_
  obtain ⟨t9, vs, r5, ha, ht, h0, h9, hv, hw⟩ := hw
  refine gi_iaload V ha ht h0 h9 hv dL_law_3038 rfl ?_
  refine g_aload_n V dL_law_3039 rfl rfl ?_
  refine g_iload V dL_law_3040 rfl rfl ?_
  refine g_iconst V (Int32.ofInt 2) dL_law_3042 rfl rfl ?_
  refine gi_iadd V dL_law_3043 rfl ?_
  obtain ⟨t9, vs, r6, ha, ht, h0, h9, hv, hw⟩ := hw
  refine gi_iaload V ha ht h0 h9 hv dL_law_3044 rfl ?_
  obtain ⟨hx0, hw⟩ := hw
  refine gi_if_eq V dL_law_3045 rfl rfl hx0 (fun q => ?_) (fun q => ?_)
  · have hw := ga_t q hw
    refine g_iconst V (Int32.ofInt 0) dL_law_3052 rfl rfl ?_
    exact hl_L_law_J3053 hst V hend K27 hK27 v0 v1 v2 v3 v4 r2 v2 r5 0 hp1 c3 s4 hw
  · have hw := ga_f q hw
    refine g_iconst V (Int32.ofInt 1) dL_law_3048 rfl rfl ?_
    refine g_goto V dL_law_3049 rfl ?_
    exact hl_L_law_J3053 hst V hend K27 hK27 v0 v1 v2 v3 v4 r2 v2 r5 1 hp1 c3 s4 hw
theorem hl_L_law_J3005 {p : Program} {l : Launch} {e : Env} {s : State} {m : MethodId} {args : Array Value} {below : List Frame} {meth : Method} {c : Code} {G : gaG} {nm : String} {Z : State → Prop} (hst : l.stackTraces = false) (V : gaV p l s m args meth c G code RL 7 gaW ret nm) (hend : ∀ (pc : Nat) (lv : List (Option Value)) (h : gaH) (k j : Nat), decode code pc = .ok (.ireturn, 1) → gaP p l e room_1 s m args below meth c G 7 Z pc lv [gi 1] h k j) : ∀ (K27 : Nat → Nat → Nat → Nat → Int → gaH → Nat → Nat → Prop), ∀ (hK27 : ∀ (v0 : Nat) (v1 : Nat) (v2 : Nat) (v3 : Nat) (v4 : Int) (h : gaH) (kc ks : Nat), K27 v0 v1 v2 v3 v4 h kc ks → gaP p l e room_1 s m args below meth c G 7 Z 27 [some (.ref v0), some (.ref v1), some (.ref v2), some (.ref v3), some (gi v4), none, none] [] h kc ks), ∀ (v0 : Nat) (v1 : Nat) (v2 : Nat) (v3 : Nat) (v4 : Int) (h : gaH) (kc ks : Nat), w_L_law_J3005 G K27 v0 v1 v2 v3 v4 h kc ks → gaP p l e room_1 s m args below meth c G 7 Z 3005 [some (.ref v0), some (.ref v1), some (.ref v2), some (.ref v3), some (gi v4), none, none] [] h kc ks := by
  intro K27 hK27
  intro v0 v1 v2 v3 v4 h kc ks hw
  unfold w_L_law_J3005 at hw
  refine g_aload_n V dL_law_3005 rfl rfl ?_
  refine g_aload_n V dL_law_3006 rfl rfl ?_
  refine g_iload V dL_law_3007 rfl rfl ?_
  refine g_iconst V (Int32.ofInt 1) dL_law_3009 rfl rfl ?_
  refine gi_iadd V dL_law_3010 rfl ?_
  obtain ⟨t9, vs, r1, ha, ht, h0, h9, hv, hw⟩ := hw
  refine gi_iaload V ha ht h0 h9 hv dL_law_3011 rfl ?_
  refine g_aload_n V dL_law_3012 rfl rfl ?_
  refine g_iload V dL_law_3013 rfl rfl ?_
  refine g_iconst V (Int32.ofInt 2) dL_law_3015 rfl rfl ?_
  refine gi_iadd V dL_law_3016 rfl ?_
  obtain ⟨t9, vs, r2, ha, ht, h0, h9, hv, hw⟩ := hw
  refine gi_iaload V ha ht h0 h9 hv dL_law_3017 rfl ?_
  obtain ⟨hx0, hw⟩ := hw
  refine gi_if_eq V dL_law_3018 rfl rfl hx0 (fun q => ?_) (fun q => ?_)
  · have hw := ga_t q hw
    refine g_iconst V (Int32.ofInt 0) dL_law_3025 rfl rfl ?_
    exact hl_L_law_J3026 hst V hend K27 hK27 v0 v1 v2 v3 v4 v1 r1 0 h kc ks hw
  · have hw := ga_f q hw
    refine g_iconst V (Int32.ofInt 1) dL_law_3021 rfl rfl ?_
    refine g_goto V dL_law_3022 rfl ?_
    exact hl_L_law_J3026 hst V hend K27 hK27 v0 v1 v2 v3 v4 v1 r1 1 h kc ks hw
theorem hl_L_law_J2947 {p : Program} {l : Launch} {e : Env} {s : State} {m : MethodId} {args : Array Value} {below : List Frame} {meth : Method} {c : Code} {G : gaG} {nm : String} {Z : State → Prop} (hst : l.stackTraces = false) (V : gaV p l s m args meth c G code RL 7 gaW ret nm) (hend : ∀ (pc : Nat) (lv : List (Option Value)) (h : gaH) (k j : Nat), decode code pc = .ok (.ireturn, 1) → gaP p l e room_1 s m args below meth c G 7 Z pc lv [gi 1] h k j) : ∀ (K27 : Nat → Nat → Nat → Nat → Int → gaH → Nat → Nat → Prop), ∀ (hK27 : ∀ (v0 : Nat) (v1 : Nat) (v2 : Nat) (v3 : Nat) (v4 : Int) (h : gaH) (kc ks : Nat), K27 v0 v1 v2 v3 v4 h kc ks → gaP p l e room_1 s m args below meth c G 7 Z 27 [some (.ref v0), some (.ref v1), some (.ref v2), some (.ref v3), some (gi v4), none, none] [] h kc ks), ∀ (v0 : Nat) (v1 : Nat) (v2 : Nat) (v3 : Nat) (v4 : Int) (h : gaH) (kc ks : Nat), w_L_law_J2947 G K27 v0 v1 v2 v3 v4 h kc ks → gaP p l e room_1 s m args below meth c G 7 Z 2947 [some (.ref v0), some (.ref v1), some (.ref v2), some (.ref v3), some (gi v4), none, none] [] h kc ks := by
  intro K27 hK27
  intro v0 v1 v2 v3 v4 h kc ks hw
  unfold w_L_law_J2947 at hw
  refine g_aload_n V dL_law_2947 rfl rfl ?_
  refine g_aload_n V dL_law_2948 rfl rfl ?_
  refine g_iload V dL_law_2949 rfl rfl ?_
  refine g_iconst V (Int32.ofInt 1) dL_law_2951 rfl rfl ?_
  refine gi_iadd V dL_law_2952 rfl ?_
  obtain ⟨t9, vs, r1, ha, ht, h0, h9, hv, hw⟩ := hw
  refine gi_iaload V ha ht h0 h9 hv dL_law_2953 rfl ?_
  refine g_aload_n V dL_law_2954 rfl rfl ?_
  obtain ⟨hk, hj, c4, s5, ec, es, hw⟩ := hw
  refine g_callSX (st := []) V (k_L_turns hst hw) ww_5_135 ww_5_136 ww_1_0 ww_5_137 hd_L_turns ⟨by decide, by decide⟩ rfl rfl (ga_cat rfl) dL_law_2955 hk hj rfl ga_none (ga_ki (fun r3 hp2 hw => ?_))
  refine ga_re ec es ?_
  refine g_istore (lv2 := [some (.ref v0), some (.ref v1), some (.ref v2), some (.ref v3), some (gi v4), some (gi r3), none]) V dL_law_2958 (by decide) rfl rfl rfl ?_
  refine g_aload_n V dL_law_2960 rfl rfl ?_
  refine g_aload_n V dL_law_2961 rfl rfl ?_
  refine g_iload V dL_law_2962 rfl rfl ?_
  refine g_iconst V (Int32.ofInt 1) dL_law_2964 rfl rfl ?_
  refine gi_iadd V dL_law_2965 rfl ?_
  obtain ⟨t9, vs, r6, ha, ht, h0, h9, hv, hw⟩ := hw
  refine gi_iaload V ha ht h0 h9 hv dL_law_2966 rfl ?_
  obtain ⟨hb, hw⟩ := hw
  obtain ⟨fb, hb⟩ := hb
  obtain ⟨hk, hj, c9, s10, ec, es, hw⟩ := hw
  refine g_callV (C := RX7) (T := TX7) (N := 8) (st := []) V (k_X7_turns hst hw) ww_7_10 ww_7_11 ww_7_12 ww_1_5 ww_7_13 hd_X7_turns ⟨by decide, by decide⟩ rfl (by decide) hb rfl rfl (ga_cat rfl) dL_law_2967 hk hj rfl ga_none (ga_ka (fun r8 hp7 hw => ?_))
  refine ga_re ec es ?_
  refine g_astore (lv2 := [some (.ref v0), some (.ref v1), some (.ref v2), some (.ref v3), some (gi v4), some (gi r3), some (.ref r8)]) V dL_law_2970 (by decide) rfl rfl rfl ?_
  refine g_aload_n V dL_law_2972 rfl rfl ?_
  obtain ⟨hb, hw⟩ := hw
  obtain ⟨fb, hb⟩ := hb
  refine g_callV (C := RX7) (T := TX7) (N := 8) (st := []) V (k_X7_thrown hst hw) ww_5_206 ww_5_207 ww_5_208 ww_1_5 ww_5_209 hd_X7_thrown ⟨by decide, by decide⟩ rfl (by decide) hb rfl rfl (ga_cat rfl) dL_law_2973 (Nat.zero_le _) (Nat.zero_le _) rfl ga_none (ga_ki (fun r12 hp11 hw => ?_))
  refine g_iload V dL_law_2976 rfl rfl ?_
  obtain ⟨hx0, hx1, hw⟩ := hw
  refine gi_icmp_eq V dL_law_2978 rfl rfl hx0 hx1 (fun q => ?_) (fun q => ?_)
  · have hw := ga_t q hw
    refine g_iload V dL_law_2983 rfl rfl ?_
    obtain ⟨hx0, hw⟩ := hw
    refine gi_if_ne V dL_law_2985 rfl rfl hx0 (fun q => ?_) (fun q => ?_)
    · have hw := ga_f q hw
      refine g_goto V dL_law_3002 rfl ?_
      refine g_less (bs := [true, true, true, true, true, false, false]) (lv2 := [some (.ref v0), some (.ref v1), some (.ref v2), some (.ref v3), some (gi v4), none, none]) rfl ?_
      exact hl_L_law_J3472 hst V hend K27 hK27 v0 v1 v2 v3 v4 hp11 c9 s10 hw
    · have hw := ga_t q hw
      refine g_aload_n V dL_law_2988 rfl rfl ?_
      obtain ⟨fs, r13, ha, hv, hw⟩ := hw
      refine g_getN (C := RX6) (T := TX6) (N := 2) (host := "WordgardenLaw") V 1 rfl hin_RX6 (by decide) (by decide) gn_23 rfl ha hv dL_law_2989 rfl ?_
      refine g_aload V dL_law_2992 rfl rfl ?_
      obtain ⟨hb, hw⟩ := hw
      obtain ⟨fb, hb⟩ := hb
      refine g_callV (C := RJ0) (T := TJ0) (N := 4) (st := []) V (k_J0_equals_9ea2d hst hw) ww_7_78 ww_7_79 ww_7_80 ww_1_19 ww_7_81 hd_J0_equals_9ea2d ⟨by decide, by decide⟩ rfl (by decide) hb rfl rfl (ga_cat rfl) dL_law_2994 (Nat.zero_le _) (Nat.zero_le _) rfl ga_none (ga_ki (fun r15 hp14 hw => ?_))
      obtain ⟨hx0, hw⟩ := hw
      refine gi_if_ne V dL_law_2997 rfl rfl hx0 (fun q => ?_) (fun q => ?_)
      · have hw := ga_f q hw
        refine g_goto V dL_law_3002 rfl ?_
        refine g_less (bs := [true, true, true, true, true, false, false]) (lv2 := [some (.ref v0), some (.ref v1), some (.ref v2), some (.ref v3), some (gi v4), none, none]) rfl ?_
        exact hl_L_law_J3472 hst V hend K27 hK27 v0 v1 v2 v3 v4 hp14 c9 s10 hw
      · have hw := ga_t q hw
        refine g_iconst V (Int32.ofInt 0) dL_law_3000 rfl rfl ?_
        exact hw.elim
  · have hw := ga_f q hw
    refine g_iconst V (Int32.ofInt 0) dL_law_2981 rfl rfl ?_
    exact hw.elim
theorem hl_L_law_J2938 {p : Program} {l : Launch} {e : Env} {s : State} {m : MethodId} {args : Array Value} {below : List Frame} {meth : Method} {c : Code} {G : gaG} {nm : String} {Z : State → Prop} (hst : l.stackTraces = false) (V : gaV p l s m args meth c G code RL 7 gaW ret nm) (hend : ∀ (pc : Nat) (lv : List (Option Value)) (h : gaH) (k j : Nat), decode code pc = .ok (.ireturn, 1) → gaP p l e room_1 s m args below meth c G 7 Z pc lv [gi 1] h k j) : ∀ (K27 : Nat → Nat → Nat → Nat → Int → gaH → Nat → Nat → Prop), ∀ (hK27 : ∀ (v0 : Nat) (v1 : Nat) (v2 : Nat) (v3 : Nat) (v4 : Int) (h : gaH) (kc ks : Nat), K27 v0 v1 v2 v3 v4 h kc ks → gaP p l e room_1 s m args below meth c G 7 Z 27 [some (.ref v0), some (.ref v1), some (.ref v2), some (.ref v3), some (gi v4), none, none] [] h kc ks), ∀ (v0 : Nat) (v1 : Nat) (v2 : Nat) (v3 : Nat) (v4 : Int) (t0 : Int64) (t1 : Int64) (h : gaH) (kc ks : Nat), w_L_law_J2938 G K27 v0 v1 v2 v3 v4 t0 t1 h kc ks → gaP p l e room_1 s m args below meth c G 7 Z 2938 [some (.ref v0), some (.ref v1), some (.ref v2), some (.ref v3), some (gi v4), none, none] [.long t1, .long t0] h kc ks := by
  intro K27 hK27
  intro v0 v1 v2 v3 v4 t0 t1 h kc ks hw
  unfold w_L_law_J2938 at hw
  refine gi_lcmp V dL_law_2938 rfl ?_
  obtain ⟨hx0, hw⟩ := hw
  refine gi_if_eq V dL_law_2939 rfl rfl hx0 (fun q => ?_) (fun q => ?_)
  · have hw := ga_t q hw
    refine g_goto V dL_law_2944 rfl ?_
    exact hl_L_law_J3472 hst V hend K27 hK27 v0 v1 v2 v3 v4 h kc ks hw
  · have hw := ga_f q hw
    refine g_iconst V (Int32.ofInt 0) dL_law_2942 rfl rfl ?_
    exact hw.elim
theorem hl_L_law_J2871 {p : Program} {l : Launch} {e : Env} {s : State} {m : MethodId} {args : Array Value} {below : List Frame} {meth : Method} {c : Code} {G : gaG} {nm : String} {Z : State → Prop} (hst : l.stackTraces = false) (V : gaV p l s m args meth c G code RL 7 gaW ret nm) (hend : ∀ (pc : Nat) (lv : List (Option Value)) (h : gaH) (k j : Nat), decode code pc = .ok (.ireturn, 1) → gaP p l e room_1 s m args below meth c G 7 Z pc lv [gi 1] h k j) : ∀ (K27 : Nat → Nat → Nat → Nat → Int → gaH → Nat → Nat → Prop), ∀ (hK27 : ∀ (v0 : Nat) (v1 : Nat) (v2 : Nat) (v3 : Nat) (v4 : Int) (h : gaH) (kc ks : Nat), K27 v0 v1 v2 v3 v4 h kc ks → gaP p l e room_1 s m args below meth c G 7 Z 27 [some (.ref v0), some (.ref v1), some (.ref v2), some (.ref v3), some (gi v4), none, none] [] h kc ks), ∀ (v0 : Nat) (v1 : Nat) (v2 : Nat) (v3 : Nat) (v4 : Int) (h : gaH) (kc ks : Nat), w_L_law_J2871 G K27 v0 v1 v2 v3 v4 h kc ks → gaP p l e room_1 s m args below meth c G 7 Z 2871 [some (.ref v0), some (.ref v1), some (.ref v2), some (.ref v3), some (gi v4), none, none] [] h kc ks := by
  intro K27 hK27
  intro v0 v1 v2 v3 v4 h kc ks hw
  unfold w_L_law_J2871 at hw
  refine g_aload_n V dL_law_2871 rfl rfl ?_
  refine g_aload_n V dL_law_2872 rfl rfl ?_
  refine g_iload V dL_law_2873 rfl rfl ?_
  refine g_iconst V (Int32.ofInt 1) dL_law_2875 rfl rfl ?_
  refine gi_iadd V dL_law_2876 rfl ?_
  obtain ⟨t9, vs, r1, ha, ht, h0, h9, hv, hw⟩ := hw
  refine gi_iaload V ha ht h0 h9 hv dL_law_2877 rfl ?_
  refine g_aload_n V dL_law_2878 rfl rfl ?_
  refine g_iload V dL_law_2879 rfl rfl ?_
  refine g_iconst V (Int32.ofInt 2) dL_law_2881 rfl rfl ?_
  refine gi_iadd V dL_law_2882 rfl ?_
  obtain ⟨t9, vs, r2, ha, ht, h0, h9, hv, hw⟩ := hw
  refine gi_iaload V ha ht h0 h9 hv dL_law_2883 rfl ?_
  refine g_aload_n V dL_law_2884 rfl rfl ?_
  obtain ⟨hk, hj, c5, s6, ec, es, hw⟩ := hw
  refine g_callSX (st := []) V (k_L_isApart hst hw) ww_5_128 ww_5_129 ww_1_0 ww_5_130 hd_L_isApart ⟨by decide, by decide⟩ rfl rfl (ga_cat rfl) dL_law_2885 hk hj rfl ga_none (ga_ki (fun r4 hp3 hw => ?_))
  refine ga_re ec es ?_
  refine g_istore (lv2 := [some (.ref v0), some (.ref v1), some (.ref v2), some (.ref v3), some (gi v4), some (gi r4), none]) V dL_law_2888 (by decide) rfl rfl rfl ?_
  refine g_aload_n V dL_law_2890 rfl rfl ?_
  refine g_aload_n V dL_law_2891 rfl rfl ?_
  refine g_iload V dL_law_2892 rfl rfl ?_
  refine g_iconst V (Int32.ofInt 1) dL_law_2894 rfl rfl ?_
  refine gi_iadd V dL_law_2895 rfl ?_
  obtain ⟨t9, vs, r7, ha, ht, h0, h9, hv, hw⟩ := hw
  refine gi_iaload V ha ht h0 h9 hv dL_law_2896 rfl ?_
  refine g_aload_n V dL_law_2897 rfl rfl ?_
  refine g_iload V dL_law_2898 rfl rfl ?_
  refine g_iconst V (Int32.ofInt 2) dL_law_2900 rfl rfl ?_
  refine gi_iadd V dL_law_2901 rfl ?_
  obtain ⟨t9, vs, r8, ha, ht, h0, h9, hv, hw⟩ := hw
  refine gi_iaload V ha ht h0 h9 hv dL_law_2902 rfl ?_
  obtain ⟨hb, hw⟩ := hw
  obtain ⟨fb, hb⟩ := hb
  obtain ⟨hk, hj, c11, s12, ec, es, hw⟩ := hw
  refine g_callV (C := RX7) (T := TX7) (N := 8) (st := []) V (k_X7_isApart hst hw) ww_7_6 ww_7_7 ww_7_8 ww_1_5 ww_7_9 hd_X7_isApart ⟨by decide, by decide⟩ rfl (by decide) hb rfl rfl (ga_cat rfl) dL_law_2903 hk hj rfl ga_none (ga_ki (fun r10 hp9 hw => ?_))
  refine ga_re ec es ?_
  refine g_istore (lv2 := [some (.ref v0), some (.ref v1), some (.ref v2), some (.ref v3), some (gi v4), some (gi r4), some (gi r10)]) V dL_law_2906 (by decide) rfl rfl rfl ?_
  refine g_aload_n V dL_law_2908 rfl rfl ?_
  obtain ⟨hb, hw⟩ := hw
  obtain ⟨fb, hb⟩ := hb
  refine g_callV (C := RX7) (T := TX7) (N := 8) (st := []) V (k_X7_thrown hst hw) ww_5_206 ww_5_207 ww_5_208 ww_1_5 ww_5_209 hd_X7_thrown ⟨by decide, by decide⟩ rfl (by decide) hb rfl rfl (ga_cat rfl) dL_law_2909 (Nat.zero_le _) (Nat.zero_le _) rfl ga_none (ga_ki (fun r14 hp13 hw => ?_))
  refine g_iload V dL_law_2912 rfl rfl ?_
  obtain ⟨hx0, hx1, hw⟩ := hw
  refine gi_icmp_eq V dL_law_2914 rfl rfl hx0 hx1 (fun q => ?_) (fun q => ?_)
  · have hw := ga_t q hw
    refine g_iload V dL_law_2919 rfl rfl ?_
    obtain ⟨hx0, hw⟩ := hw
    refine gi_if_ne V dL_law_2921 rfl rfl hx0 (fun q => ?_) (fun q => ?_)
    · have hw := ga_f q hw
      refine g_goto V dL_law_2944 rfl ?_
      refine g_less (bs := [true, true, true, true, true, false, false]) (lv2 := [some (.ref v0), some (.ref v1), some (.ref v2), some (.ref v3), some (gi v4), none, none]) rfl ?_
      exact hl_L_law_J3472 hst V hend K27 hK27 v0 v1 v2 v3 v4 hp13 c11 s12 hw
    · have hw := ga_t q hw
      refine g_aload_n V dL_law_2924 rfl rfl ?_
      obtain ⟨fs, r15, ha, hv, hw⟩ := hw
      refine g_getN (C := RX6) (T := TX6) (N := 2) (host := "WordgardenLaw") V 0 rfl hin_RX6 (by decide) (by decide) gn_22 rfl ha hv dL_law_2925 rfl ?_
      refine g_iload V dL_law_2928 rfl rfl ?_
      obtain ⟨hx0, hw⟩ := hw
      refine gi_if_eq V dL_law_2930 rfl rfl hx0 (fun q => ?_) (fun q => ?_)
      · have hw := ga_t q hw
        refine g_lconst V (0 : Int64) dL_law_2937 rfl rfl ?_
        refine g_less (bs := [true, true, true, true, true, false, false]) (lv2 := [some (.ref v0), some (.ref v1), some (.ref v2), some (.ref v3), some (gi v4), none, none]) rfl ?_
        exact hl_L_law_J2938 hst V hend K27 hK27 v0 v1 v2 v3 v4 r15 (0 : Int64) hp13 c11 s12 hw
      · have hw := ga_f q hw
        refine g_lconst V (1 : Int64) dL_law_2933 rfl rfl ?_
        refine g_goto V dL_law_2934 rfl ?_
        refine g_less (bs := [true, true, true, true, true, false, false]) (lv2 := [some (.ref v0), some (.ref v1), some (.ref v2), some (.ref v3), some (gi v4), none, none]) rfl ?_
        exact hl_L_law_J2938 hst V hend K27 hK27 v0 v1 v2 v3 v4 r15 (1 : Int64) hp13 c11 s12 hw
  · have hw := ga_f q hw
    refine g_iconst V (Int32.ofInt 0) dL_law_2917 rfl rfl ?_
    exact hw.elim
theorem hl_L_law_J2814 {p : Program} {l : Launch} {e : Env} {s : State} {m : MethodId} {args : Array Value} {below : List Frame} {meth : Method} {c : Code} {G : gaG} {nm : String} {Z : State → Prop} (hst : l.stackTraces = false) (V : gaV p l s m args meth c G code RL 7 gaW ret nm) (hend : ∀ (pc : Nat) (lv : List (Option Value)) (h : gaH) (k j : Nat), decode code pc = .ok (.ireturn, 1) → gaP p l e room_1 s m args below meth c G 7 Z pc lv [gi 1] h k j) : ∀ (K27 : Nat → Nat → Nat → Nat → Int → gaH → Nat → Nat → Prop), ∀ (hK27 : ∀ (v0 : Nat) (v1 : Nat) (v2 : Nat) (v3 : Nat) (v4 : Int) (h : gaH) (kc ks : Nat), K27 v0 v1 v2 v3 v4 h kc ks → gaP p l e room_1 s m args below meth c G 7 Z 27 [some (.ref v0), some (.ref v1), some (.ref v2), some (.ref v3), some (gi v4), none, none] [] h kc ks), ∀ (v0 : Nat) (v1 : Nat) (v2 : Nat) (v3 : Nat) (v4 : Int) (h : gaH) (kc ks : Nat), w_L_law_J2814 G K27 v0 v1 v2 v3 v4 h kc ks → gaP p l e room_1 s m args below meth c G 7 Z 2814 [some (.ref v0), some (.ref v1), some (.ref v2), some (.ref v3), some (gi v4), none, none] [] h kc ks := by
  intro K27 hK27
  intro v0 v1 v2 v3 v4 h kc ks hw
  unfold w_L_law_J2814 at hw
  refine g_aload_n V dL_law_2814 rfl rfl ?_
  refine g_aload_n V dL_law_2815 rfl rfl ?_
  refine g_iload V dL_law_2816 rfl rfl ?_
  refine g_iconst V (Int32.ofInt 1) dL_law_2818 rfl rfl ?_
  refine gi_iadd V dL_law_2819 rfl ?_
  obtain ⟨t9, vs, r1, ha, ht, h0, h9, hv, hw⟩ := hw
  refine gi_iaload V ha ht h0 h9 hv dL_law_2820 rfl ?_
  refine g_aload_n V dL_law_2821 rfl rfl ?_
  obtain ⟨hk, hj, c4, s5, ec, es, hw⟩ := hw
  refine g_callSX (st := []) V (k_L_least hst hw) ww_5_124 ww_5_125 ww_1_0 ww_5_126 hd_L_least ⟨by decide, by decide⟩ rfl rfl (ga_cat rfl) dL_law_2822 hk hj rfl ga_none (ga_ki (fun r3 hp2 hw => ?_))
  refine ga_re ec es ?_
  refine g_istore (lv2 := [some (.ref v0), some (.ref v1), some (.ref v2), some (.ref v3), some (gi v4), some (gi r3), none]) V dL_law_2825 (by decide) rfl rfl rfl ?_
  refine g_aload_n V dL_law_2827 rfl rfl ?_
  refine g_aload_n V dL_law_2828 rfl rfl ?_
  refine g_iload V dL_law_2829 rfl rfl ?_
  refine g_iconst V (Int32.ofInt 1) dL_law_2831 rfl rfl ?_
  refine gi_iadd V dL_law_2832 rfl ?_
  obtain ⟨t9, vs, r6, ha, ht, h0, h9, hv, hw⟩ := hw
  refine gi_iaload V ha ht h0 h9 hv dL_law_2833 rfl ?_
  obtain ⟨hb, hw⟩ := hw
  obtain ⟨fb, hb⟩ := hb
  refine g_callV (C := RX7) (T := TX7) (N := 8) (st := []) V (k_X7_least hst hw) ww_6_239 ww_7_0 ww_7_1 ww_1_5 ww_7_2 hd_X7_least ⟨by decide, by decide⟩ rfl (by decide) hb rfl rfl (ga_cat rfl) dL_law_2834 (Nat.zero_le _) (Nat.zero_le _) rfl ga_none (ga_ki (fun r8 hp7 hw => ?_))
  refine g_istore (lv2 := [some (.ref v0), some (.ref v1), some (.ref v2), some (.ref v3), some (gi v4), some (gi r3), some (gi r8)]) V dL_law_2837 (by decide) rfl rfl rfl ?_
  refine g_aload_n V dL_law_2839 rfl rfl ?_
  obtain ⟨hb, hw⟩ := hw
  obtain ⟨fb, hb⟩ := hb
  refine g_callV (C := RX7) (T := TX7) (N := 8) (st := []) V (k_X7_thrown hst hw) ww_5_206 ww_5_207 ww_5_208 ww_1_5 ww_5_209 hd_X7_thrown ⟨by decide, by decide⟩ rfl (by decide) hb rfl rfl (ga_cat rfl) dL_law_2840 (Nat.zero_le _) (Nat.zero_le _) rfl ga_none (ga_ki (fun r10 hp9 hw => ?_))
  refine g_iload V dL_law_2843 rfl rfl ?_
  obtain ⟨hx0, hx1, hw⟩ := hw
  refine gi_icmp_eq V dL_law_2845 rfl rfl hx0 hx1 (fun q => ?_) (fun q => ?_)
  · have hw := ga_t q hw
    refine g_iload V dL_law_2850 rfl rfl ?_
    obtain ⟨hx0, hw⟩ := hw
    refine gi_if_ne V dL_law_2852 rfl rfl hx0 (fun q => ?_) (fun q => ?_)
    · have hw := ga_f q hw
      refine g_goto V dL_law_2868 rfl ?_
      refine g_less (bs := [true, true, true, true, true, false, false]) (lv2 := [some (.ref v0), some (.ref v1), some (.ref v2), some (.ref v3), some (gi v4), none, none]) rfl ?_
      exact hl_L_law_J3472 hst V hend K27 hK27 v0 v1 v2 v3 v4 hp9 c4 s5 hw
    · have hw := ga_t q hw
      refine g_aload_n V dL_law_2855 rfl rfl ?_
      obtain ⟨fs, r11, ha, hv, hw⟩ := hw
      refine g_getN (C := RX6) (T := TX6) (N := 2) (host := "WordgardenLaw") V 0 rfl hin_RX6 (by decide) (by decide) gn_22 rfl ha hv dL_law_2856 rfl ?_
      refine g_iload V dL_law_2859 rfl rfl ?_
      refine gi_i2l V dL_law_2861 rfl ?_
      refine gi_lcmp V dL_law_2862 rfl ?_
      obtain ⟨hx0, hw⟩ := hw
      refine gi_if_eq V dL_law_2863 rfl rfl hx0 (fun q => ?_) (fun q => ?_)
      · have hw := ga_t q hw
        refine g_goto V dL_law_2868 rfl ?_
        refine g_less (bs := [true, true, true, true, true, false, false]) (lv2 := [some (.ref v0), some (.ref v1), some (.ref v2), some (.ref v3), some (gi v4), none, none]) rfl ?_
        exact hl_L_law_J3472 hst V hend K27 hK27 v0 v1 v2 v3 v4 hp9 c4 s5 hw
      · have hw := ga_f q hw
        refine g_iconst V (Int32.ofInt 0) dL_law_2866 rfl rfl ?_
        exact hw.elim
  · have hw := ga_f q hw
    refine g_iconst V (Int32.ofInt 0) dL_law_2848 rfl rfl ?_
    exact hw.elim
theorem hl_L_law_J2757 {p : Program} {l : Launch} {e : Env} {s : State} {m : MethodId} {args : Array Value} {below : List Frame} {meth : Method} {c : Code} {G : gaG} {nm : String} {Z : State → Prop} (hst : l.stackTraces = false) (V : gaV p l s m args meth c G code RL 7 gaW ret nm) (hend : ∀ (pc : Nat) (lv : List (Option Value)) (h : gaH) (k j : Nat), decode code pc = .ok (.ireturn, 1) → gaP p l e room_1 s m args below meth c G 7 Z pc lv [gi 1] h k j) : ∀ (K27 : Nat → Nat → Nat → Nat → Int → gaH → Nat → Nat → Prop), ∀ (hK27 : ∀ (v0 : Nat) (v1 : Nat) (v2 : Nat) (v3 : Nat) (v4 : Int) (h : gaH) (kc ks : Nat), K27 v0 v1 v2 v3 v4 h kc ks → gaP p l e room_1 s m args below meth c G 7 Z 27 [some (.ref v0), some (.ref v1), some (.ref v2), some (.ref v3), some (gi v4), none, none] [] h kc ks), ∀ (v0 : Nat) (v1 : Nat) (v2 : Nat) (v3 : Nat) (v4 : Int) (h : gaH) (kc ks : Nat), w_L_law_J2757 G K27 v0 v1 v2 v3 v4 h kc ks → gaP p l e room_1 s m args below meth c G 7 Z 2757 [some (.ref v0), some (.ref v1), some (.ref v2), some (.ref v3), some (gi v4), none, none] [] h kc ks := by
  intro K27 hK27
  intro v0 v1 v2 v3 v4 h kc ks hw
  unfold w_L_law_J2757 at hw
  refine g_aload_n V dL_law_2757 rfl rfl ?_
  refine g_aload_n V dL_law_2758 rfl rfl ?_
  refine g_iload V dL_law_2759 rfl rfl ?_
  refine g_iconst V (Int32.ofInt 1) dL_law_2761 rfl rfl ?_
  refine gi_iadd V dL_law_2762 rfl ?_
  obtain ⟨t9, vs, r1, ha, ht, h0, h9, hv, hw⟩ := hw
  refine gi_iaload V ha ht h0 h9 hv dL_law_2763 rfl ?_
  refine g_aload_n V dL_law_2764 rfl rfl ?_
  obtain ⟨hk, hj, c4, s5, ec, es, hw⟩ := hw
  refine g_callSX (st := []) V (k_L_folds hst hw) ww_5_120 ww_5_121 ww_1_0 ww_5_122 hd_L_folds ⟨by decide, by decide⟩ rfl rfl (ga_cat rfl) dL_law_2765 hk hj rfl ga_none (ga_ki (fun r3 hp2 hw => ?_))
  refine ga_re ec es ?_
  refine g_istore (lv2 := [some (.ref v0), some (.ref v1), some (.ref v2), some (.ref v3), some (gi v4), some (gi r3), none]) V dL_law_2768 (by decide) rfl rfl rfl ?_
  refine g_aload_n V dL_law_2770 rfl rfl ?_
  refine g_aload_n V dL_law_2771 rfl rfl ?_
  refine g_iload V dL_law_2772 rfl rfl ?_
  refine g_iconst V (Int32.ofInt 1) dL_law_2774 rfl rfl ?_
  refine gi_iadd V dL_law_2775 rfl ?_
  obtain ⟨t9, vs, r6, ha, ht, h0, h9, hv, hw⟩ := hw
  refine gi_iaload V ha ht h0 h9 hv dL_law_2776 rfl ?_
  obtain ⟨hb, hw⟩ := hw
  obtain ⟨fb, hb⟩ := hb
  refine g_callV (C := RX7) (T := TX7) (N := 8) (st := []) V (k_X7_folds hst hw) ww_6_232 ww_6_233 ww_6_234 ww_1_5 ww_6_235 hd_X7_folds ⟨by decide, by decide⟩ rfl (by decide) hb rfl rfl (ga_cat rfl) dL_law_2777 (Nat.zero_le _) (Nat.zero_le _) rfl ga_none (ga_ki (fun r8 hp7 hw => ?_))
  refine g_istore (lv2 := [some (.ref v0), some (.ref v1), some (.ref v2), some (.ref v3), some (gi v4), some (gi r3), some (gi r8)]) V dL_law_2780 (by decide) rfl rfl rfl ?_
  refine g_aload_n V dL_law_2782 rfl rfl ?_
  obtain ⟨hb, hw⟩ := hw
  obtain ⟨fb, hb⟩ := hb
  refine g_callV (C := RX7) (T := TX7) (N := 8) (st := []) V (k_X7_thrown hst hw) ww_5_206 ww_5_207 ww_5_208 ww_1_5 ww_5_209 hd_X7_thrown ⟨by decide, by decide⟩ rfl (by decide) hb rfl rfl (ga_cat rfl) dL_law_2783 (Nat.zero_le _) (Nat.zero_le _) rfl ga_none (ga_ki (fun r10 hp9 hw => ?_))
  refine g_iload V dL_law_2786 rfl rfl ?_
  obtain ⟨hx0, hx1, hw⟩ := hw
  refine gi_icmp_eq V dL_law_2788 rfl rfl hx0 hx1 (fun q => ?_) (fun q => ?_)
  · have hw := ga_t q hw
    refine g_iload V dL_law_2793 rfl rfl ?_
    obtain ⟨hx0, hw⟩ := hw
    refine gi_if_ne V dL_law_2795 rfl rfl hx0 (fun q => ?_) (fun q => ?_)
    · have hw := ga_f q hw
      refine g_goto V dL_law_2811 rfl ?_
      refine g_less (bs := [true, true, true, true, true, false, false]) (lv2 := [some (.ref v0), some (.ref v1), some (.ref v2), some (.ref v3), some (gi v4), none, none]) rfl ?_
      exact hl_L_law_J3472 hst V hend K27 hK27 v0 v1 v2 v3 v4 hp9 c4 s5 hw
    · have hw := ga_t q hw
      refine g_aload_n V dL_law_2798 rfl rfl ?_
      obtain ⟨fs, r11, ha, hv, hw⟩ := hw
      refine g_getN (C := RX6) (T := TX6) (N := 2) (host := "WordgardenLaw") V 0 rfl hin_RX6 (by decide) (by decide) gn_22 rfl ha hv dL_law_2799 rfl ?_
      refine g_iload V dL_law_2802 rfl rfl ?_
      refine gi_i2l V dL_law_2804 rfl ?_
      refine gi_lcmp V dL_law_2805 rfl ?_
      obtain ⟨hx0, hw⟩ := hw
      refine gi_if_eq V dL_law_2806 rfl rfl hx0 (fun q => ?_) (fun q => ?_)
      · have hw := ga_t q hw
        refine g_goto V dL_law_2811 rfl ?_
        refine g_less (bs := [true, true, true, true, true, false, false]) (lv2 := [some (.ref v0), some (.ref v1), some (.ref v2), some (.ref v3), some (gi v4), none, none]) rfl ?_
        exact hl_L_law_J3472 hst V hend K27 hK27 v0 v1 v2 v3 v4 hp9 c4 s5 hw
      · have hw := ga_f q hw
        refine g_iconst V (Int32.ofInt 0) dL_law_2809 rfl rfl ?_
        exact hw.elim
  · have hw := ga_f q hw
    refine g_iconst V (Int32.ofInt 0) dL_law_2791 rfl rfl ?_
    exact hw.elim
theorem hl_L_law_J2700 {p : Program} {l : Launch} {e : Env} {s : State} {m : MethodId} {args : Array Value} {below : List Frame} {meth : Method} {c : Code} {G : gaG} {nm : String} {Z : State → Prop} (hst : l.stackTraces = false) (V : gaV p l s m args meth c G code RL 7 gaW ret nm) (hend : ∀ (pc : Nat) (lv : List (Option Value)) (h : gaH) (k j : Nat), decode code pc = .ok (.ireturn, 1) → gaP p l e room_1 s m args below meth c G 7 Z pc lv [gi 1] h k j) : ∀ (K27 : Nat → Nat → Nat → Nat → Int → gaH → Nat → Nat → Prop), ∀ (hK27 : ∀ (v0 : Nat) (v1 : Nat) (v2 : Nat) (v3 : Nat) (v4 : Int) (h : gaH) (kc ks : Nat), K27 v0 v1 v2 v3 v4 h kc ks → gaP p l e room_1 s m args below meth c G 7 Z 27 [some (.ref v0), some (.ref v1), some (.ref v2), some (.ref v3), some (gi v4), none, none] [] h kc ks), ∀ (v0 : Nat) (v1 : Nat) (v2 : Nat) (v3 : Nat) (v4 : Int) (h : gaH) (kc ks : Nat), w_L_law_J2700 G K27 v0 v1 v2 v3 v4 h kc ks → gaP p l e room_1 s m args below meth c G 7 Z 2700 [some (.ref v0), some (.ref v1), some (.ref v2), some (.ref v3), some (gi v4), none, none] [] h kc ks := by
  intro K27 hK27
  intro v0 v1 v2 v3 v4 h kc ks hw
  unfold w_L_law_J2700 at hw
  refine g_aload_n V dL_law_2700 rfl rfl ?_
  refine g_aload_n V dL_law_2701 rfl rfl ?_
  refine g_iload V dL_law_2702 rfl rfl ?_
  refine g_iconst V (Int32.ofInt 1) dL_law_2704 rfl rfl ?_
  refine gi_iadd V dL_law_2705 rfl ?_
  obtain ⟨t9, vs, r1, ha, ht, h0, h9, hv, hw⟩ := hw
  refine gi_iaload V ha ht h0 h9 hv dL_law_2706 rfl ?_
  refine g_aload_n V dL_law_2707 rfl rfl ?_
  obtain ⟨hk, hj, c4, s5, ec, es, hw⟩ := hw
  refine g_callSX (st := []) V (k_L_mirrors hst hw) ww_5_110 ww_5_111 ww_1_0 ww_5_112 hd_L_mirrors ⟨by decide, by decide⟩ rfl rfl (ga_cat rfl) dL_law_2708 hk hj rfl ga_none (ga_ki (fun r3 hp2 hw => ?_))
  refine ga_re ec es ?_
  refine g_istore (lv2 := [some (.ref v0), some (.ref v1), some (.ref v2), some (.ref v3), some (gi v4), some (gi r3), none]) V dL_law_2711 (by decide) rfl rfl rfl ?_
  refine g_aload_n V dL_law_2713 rfl rfl ?_
  refine g_aload_n V dL_law_2714 rfl rfl ?_
  refine g_iload V dL_law_2715 rfl rfl ?_
  refine g_iconst V (Int32.ofInt 1) dL_law_2717 rfl rfl ?_
  refine gi_iadd V dL_law_2718 rfl ?_
  obtain ⟨t9, vs, r6, ha, ht, h0, h9, hv, hw⟩ := hw
  refine gi_iaload V ha ht h0 h9 hv dL_law_2719 rfl ?_
  obtain ⟨hb, hw⟩ := hw
  obtain ⟨fb, hb⟩ := hb
  refine g_callV (C := RX7) (T := TX7) (N := 8) (st := []) V (k_X7_mirrors hst hw) ww_6_228 ww_6_229 ww_6_230 ww_1_5 ww_6_231 hd_X7_mirrors ⟨by decide, by decide⟩ rfl (by decide) hb rfl rfl (ga_cat rfl) dL_law_2720 (Nat.zero_le _) (Nat.zero_le _) rfl ga_none (ga_ki (fun r8 hp7 hw => ?_))
  refine g_istore (lv2 := [some (.ref v0), some (.ref v1), some (.ref v2), some (.ref v3), some (gi v4), some (gi r3), some (gi r8)]) V dL_law_2723 (by decide) rfl rfl rfl ?_
  refine g_aload_n V dL_law_2725 rfl rfl ?_
  obtain ⟨hb, hw⟩ := hw
  obtain ⟨fb, hb⟩ := hb
  refine g_callV (C := RX7) (T := TX7) (N := 8) (st := []) V (k_X7_thrown hst hw) ww_5_206 ww_5_207 ww_5_208 ww_1_5 ww_5_209 hd_X7_thrown ⟨by decide, by decide⟩ rfl (by decide) hb rfl rfl (ga_cat rfl) dL_law_2726 (Nat.zero_le _) (Nat.zero_le _) rfl ga_none (ga_ki (fun r10 hp9 hw => ?_))
  refine g_iload V dL_law_2729 rfl rfl ?_
  obtain ⟨hx0, hx1, hw⟩ := hw
  refine gi_icmp_eq V dL_law_2731 rfl rfl hx0 hx1 (fun q => ?_) (fun q => ?_)
  · have hw := ga_t q hw
    refine g_iload V dL_law_2736 rfl rfl ?_
    obtain ⟨hx0, hw⟩ := hw
    refine gi_if_ne V dL_law_2738 rfl rfl hx0 (fun q => ?_) (fun q => ?_)
    · have hw := ga_f q hw
      refine g_goto V dL_law_2754 rfl ?_
      refine g_less (bs := [true, true, true, true, true, false, false]) (lv2 := [some (.ref v0), some (.ref v1), some (.ref v2), some (.ref v3), some (gi v4), none, none]) rfl ?_
      exact hl_L_law_J3472 hst V hend K27 hK27 v0 v1 v2 v3 v4 hp9 c4 s5 hw
    · have hw := ga_t q hw
      refine g_aload_n V dL_law_2741 rfl rfl ?_
      obtain ⟨fs, r11, ha, hv, hw⟩ := hw
      refine g_getN (C := RX6) (T := TX6) (N := 2) (host := "WordgardenLaw") V 0 rfl hin_RX6 (by decide) (by decide) gn_22 rfl ha hv dL_law_2742 rfl ?_
      refine g_iload V dL_law_2745 rfl rfl ?_
      refine gi_i2l V dL_law_2747 rfl ?_
      refine gi_lcmp V dL_law_2748 rfl ?_
      obtain ⟨hx0, hw⟩ := hw
      refine gi_if_eq V dL_law_2749 rfl rfl hx0 (fun q => ?_) (fun q => ?_)
      · have hw := ga_t q hw
        refine g_goto V dL_law_2754 rfl ?_
        refine g_less (bs := [true, true, true, true, true, false, false]) (lv2 := [some (.ref v0), some (.ref v1), some (.ref v2), some (.ref v3), some (gi v4), none, none]) rfl ?_
        exact hl_L_law_J3472 hst V hend K27 hK27 v0 v1 v2 v3 v4 hp9 c4 s5 hw
      · have hw := ga_f q hw
        refine g_iconst V (Int32.ofInt 0) dL_law_2752 rfl rfl ?_
        exact hw.elim
  · have hw := ga_f q hw
    refine g_iconst V (Int32.ofInt 0) dL_law_2734 rfl rfl ?_
    exact hw.elim
theorem hl_L_law_J2643 {p : Program} {l : Launch} {e : Env} {s : State} {m : MethodId} {args : Array Value} {below : List Frame} {meth : Method} {c : Code} {G : gaG} {nm : String} {Z : State → Prop} (hst : l.stackTraces = false) (V : gaV p l s m args meth c G code RL 7 gaW ret nm) (hend : ∀ (pc : Nat) (lv : List (Option Value)) (h : gaH) (k j : Nat), decode code pc = .ok (.ireturn, 1) → gaP p l e room_1 s m args below meth c G 7 Z pc lv [gi 1] h k j) : ∀ (K27 : Nat → Nat → Nat → Nat → Int → gaH → Nat → Nat → Prop), ∀ (hK27 : ∀ (v0 : Nat) (v1 : Nat) (v2 : Nat) (v3 : Nat) (v4 : Int) (h : gaH) (kc ks : Nat), K27 v0 v1 v2 v3 v4 h kc ks → gaP p l e room_1 s m args below meth c G 7 Z 27 [some (.ref v0), some (.ref v1), some (.ref v2), some (.ref v3), some (gi v4), none, none] [] h kc ks), ∀ (v0 : Nat) (v1 : Nat) (v2 : Nat) (v3 : Nat) (v4 : Int) (h : gaH) (kc ks : Nat), w_L_law_J2643 G K27 v0 v1 v2 v3 v4 h kc ks → gaP p l e room_1 s m args below meth c G 7 Z 2643 [some (.ref v0), some (.ref v1), some (.ref v2), some (.ref v3), some (gi v4), none, none] [] h kc ks := by
  intro K27 hK27
  intro v0 v1 v2 v3 v4 h kc ks hw
  unfold w_L_law_J2643 at hw
  refine g_aload_n V dL_law_2643 rfl rfl ?_
  refine g_aload_n V dL_law_2644 rfl rfl ?_
  refine g_iload V dL_law_2645 rfl rfl ?_
  refine g_iconst V (Int32.ofInt 1) dL_law_2647 rfl rfl ?_
  refine gi_iadd V dL_law_2648 rfl ?_
  obtain ⟨t9, vs, r1, ha, ht, h0, h9, hv, hw⟩ := hw
  refine gi_iaload V ha ht h0 h9 hv dL_law_2649 rfl ?_
  refine g_aload_n V dL_law_2650 rfl rfl ?_
  obtain ⟨hk, hj, c4, s5, ec, es, hw⟩ := hw
  refine g_callSX (st := []) V (k_L_overlaps hst hw) ww_5_106 ww_5_107 ww_1_0 ww_5_108 hd_L_overlaps ⟨by decide, by decide⟩ rfl rfl (ga_cat rfl) dL_law_2651 hk hj rfl ga_none (ga_ki (fun r3 hp2 hw => ?_))
  refine ga_re ec es ?_
  refine g_istore (lv2 := [some (.ref v0), some (.ref v1), some (.ref v2), some (.ref v3), some (gi v4), some (gi r3), none]) V dL_law_2654 (by decide) rfl rfl rfl ?_
  refine g_aload_n V dL_law_2656 rfl rfl ?_
  refine g_aload_n V dL_law_2657 rfl rfl ?_
  refine g_iload V dL_law_2658 rfl rfl ?_
  refine g_iconst V (Int32.ofInt 1) dL_law_2660 rfl rfl ?_
  refine gi_iadd V dL_law_2661 rfl ?_
  obtain ⟨t9, vs, r6, ha, ht, h0, h9, hv, hw⟩ := hw
  refine gi_iaload V ha ht h0 h9 hv dL_law_2662 rfl ?_
  obtain ⟨hb, hw⟩ := hw
  obtain ⟨fb, hb⟩ := hb
  refine g_callV (C := RX7) (T := TX7) (N := 8) (st := []) V (k_X7_overlaps hst hw) ww_6_221 ww_6_222 ww_6_223 ww_1_5 ww_6_224 hd_X7_overlaps ⟨by decide, by decide⟩ rfl (by decide) hb rfl rfl (ga_cat rfl) dL_law_2663 (Nat.zero_le _) (Nat.zero_le _) rfl ga_none (ga_ki (fun r8 hp7 hw => ?_))
  refine g_istore (lv2 := [some (.ref v0), some (.ref v1), some (.ref v2), some (.ref v3), some (gi v4), some (gi r3), some (gi r8)]) V dL_law_2666 (by decide) rfl rfl rfl ?_
  refine g_aload_n V dL_law_2668 rfl rfl ?_
  obtain ⟨hb, hw⟩ := hw
  obtain ⟨fb, hb⟩ := hb
  refine g_callV (C := RX7) (T := TX7) (N := 8) (st := []) V (k_X7_thrown hst hw) ww_5_206 ww_5_207 ww_5_208 ww_1_5 ww_5_209 hd_X7_thrown ⟨by decide, by decide⟩ rfl (by decide) hb rfl rfl (ga_cat rfl) dL_law_2669 (Nat.zero_le _) (Nat.zero_le _) rfl ga_none (ga_ki (fun r10 hp9 hw => ?_))
  refine g_iload V dL_law_2672 rfl rfl ?_
  obtain ⟨hx0, hx1, hw⟩ := hw
  refine gi_icmp_eq V dL_law_2674 rfl rfl hx0 hx1 (fun q => ?_) (fun q => ?_)
  · have hw := ga_t q hw
    refine g_iload V dL_law_2679 rfl rfl ?_
    obtain ⟨hx0, hw⟩ := hw
    refine gi_if_ne V dL_law_2681 rfl rfl hx0 (fun q => ?_) (fun q => ?_)
    · have hw := ga_f q hw
      refine g_goto V dL_law_2697 rfl ?_
      refine g_less (bs := [true, true, true, true, true, false, false]) (lv2 := [some (.ref v0), some (.ref v1), some (.ref v2), some (.ref v3), some (gi v4), none, none]) rfl ?_
      exact hl_L_law_J3472 hst V hend K27 hK27 v0 v1 v2 v3 v4 hp9 c4 s5 hw
    · have hw := ga_t q hw
      refine g_aload_n V dL_law_2684 rfl rfl ?_
      obtain ⟨fs, r11, ha, hv, hw⟩ := hw
      refine g_getN (C := RX6) (T := TX6) (N := 2) (host := "WordgardenLaw") V 0 rfl hin_RX6 (by decide) (by decide) gn_22 rfl ha hv dL_law_2685 rfl ?_
      refine g_iload V dL_law_2688 rfl rfl ?_
      refine gi_i2l V dL_law_2690 rfl ?_
      refine gi_lcmp V dL_law_2691 rfl ?_
      obtain ⟨hx0, hw⟩ := hw
      refine gi_if_eq V dL_law_2692 rfl rfl hx0 (fun q => ?_) (fun q => ?_)
      · have hw := ga_t q hw
        refine g_goto V dL_law_2697 rfl ?_
        refine g_less (bs := [true, true, true, true, true, false, false]) (lv2 := [some (.ref v0), some (.ref v1), some (.ref v2), some (.ref v3), some (gi v4), none, none]) rfl ?_
        exact hl_L_law_J3472 hst V hend K27 hK27 v0 v1 v2 v3 v4 hp9 c4 s5 hw
      · have hw := ga_f q hw
        refine g_iconst V (Int32.ofInt 0) dL_law_2695 rfl rfl ?_
        exact hw.elim
  · have hw := ga_f q hw
    refine g_iconst V (Int32.ofInt 0) dL_law_2677 rfl rfl ?_
    exact hw.elim
theorem hl_L_law_J2586 {p : Program} {l : Launch} {e : Env} {s : State} {m : MethodId} {args : Array Value} {below : List Frame} {meth : Method} {c : Code} {G : gaG} {nm : String} {Z : State → Prop} (hst : l.stackTraces = false) (V : gaV p l s m args meth c G code RL 7 gaW ret nm) (hend : ∀ (pc : Nat) (lv : List (Option Value)) (h : gaH) (k j : Nat), decode code pc = .ok (.ireturn, 1) → gaP p l e room_1 s m args below meth c G 7 Z pc lv [gi 1] h k j) : ∀ (K27 : Nat → Nat → Nat → Nat → Int → gaH → Nat → Nat → Prop), ∀ (hK27 : ∀ (v0 : Nat) (v1 : Nat) (v2 : Nat) (v3 : Nat) (v4 : Int) (h : gaH) (kc ks : Nat), K27 v0 v1 v2 v3 v4 h kc ks → gaP p l e room_1 s m args below meth c G 7 Z 27 [some (.ref v0), some (.ref v1), some (.ref v2), some (.ref v3), some (gi v4), none, none] [] h kc ks), ∀ (v0 : Nat) (v1 : Nat) (v2 : Nat) (v3 : Nat) (v4 : Int) (h : gaH) (kc ks : Nat), w_L_law_J2586 G K27 v0 v1 v2 v3 v4 h kc ks → gaP p l e room_1 s m args below meth c G 7 Z 2586 [some (.ref v0), some (.ref v1), some (.ref v2), some (.ref v3), some (gi v4), none, none] [] h kc ks := by
  intro K27 hK27
  intro v0 v1 v2 v3 v4 h kc ks hw
  unfold w_L_law_J2586 at hw
  refine g_aload_n V dL_law_2586 rfl rfl ?_
  refine g_aload_n V dL_law_2587 rfl rfl ?_
  refine g_iload V dL_law_2588 rfl rfl ?_
  refine g_iconst V (Int32.ofInt 1) dL_law_2590 rfl rfl ?_
  refine gi_iadd V dL_law_2591 rfl ?_
  obtain ⟨t9, vs, r1, ha, ht, h0, h9, hv, hw⟩ := hw
  refine gi_iaload V ha ht h0 h9 hv dL_law_2592 rfl ?_
  refine g_aload_n V dL_law_2593 rfl rfl ?_
  obtain ⟨hk, hj, c4, s5, ec, es, hw⟩ := hw
  refine g_callSX (st := []) V (k_L_times hst hw) ww_5_102 ww_5_103 ww_1_0 ww_5_104 hd_L_times ⟨by decide, by decide⟩ rfl rfl (ga_cat rfl) dL_law_2594 hk hj rfl ga_none (ga_ki (fun r3 hp2 hw => ?_))
  refine ga_re ec es ?_
  refine g_istore (lv2 := [some (.ref v0), some (.ref v1), some (.ref v2), some (.ref v3), some (gi v4), some (gi r3), none]) V dL_law_2597 (by decide) rfl rfl rfl ?_
  refine g_aload_n V dL_law_2599 rfl rfl ?_
  refine g_aload_n V dL_law_2600 rfl rfl ?_
  refine g_iload V dL_law_2601 rfl rfl ?_
  refine g_iconst V (Int32.ofInt 1) dL_law_2603 rfl rfl ?_
  refine gi_iadd V dL_law_2604 rfl ?_
  obtain ⟨t9, vs, r6, ha, ht, h0, h9, hv, hw⟩ := hw
  refine gi_iaload V ha ht h0 h9 hv dL_law_2605 rfl ?_
  obtain ⟨hb, hw⟩ := hw
  obtain ⟨fb, hb⟩ := hb
  refine g_callV (C := RX7) (T := TX7) (N := 8) (st := []) V (k_X7_times hst hw) ww_6_214 ww_6_215 ww_6_216 ww_1_5 ww_6_217 hd_X7_times ⟨by decide, by decide⟩ rfl (by decide) hb rfl rfl (ga_cat rfl) dL_law_2606 (Nat.zero_le _) (Nat.zero_le _) rfl ga_none (ga_ki (fun r8 hp7 hw => ?_))
  refine g_istore (lv2 := [some (.ref v0), some (.ref v1), some (.ref v2), some (.ref v3), some (gi v4), some (gi r3), some (gi r8)]) V dL_law_2609 (by decide) rfl rfl rfl ?_
  refine g_aload_n V dL_law_2611 rfl rfl ?_
  obtain ⟨hb, hw⟩ := hw
  obtain ⟨fb, hb⟩ := hb
  refine g_callV (C := RX7) (T := TX7) (N := 8) (st := []) V (k_X7_thrown hst hw) ww_5_206 ww_5_207 ww_5_208 ww_1_5 ww_5_209 hd_X7_thrown ⟨by decide, by decide⟩ rfl (by decide) hb rfl rfl (ga_cat rfl) dL_law_2612 (Nat.zero_le _) (Nat.zero_le _) rfl ga_none (ga_ki (fun r10 hp9 hw => ?_))
  refine g_iload V dL_law_2615 rfl rfl ?_
  obtain ⟨hx0, hx1, hw⟩ := hw
  refine gi_icmp_eq V dL_law_2617 rfl rfl hx0 hx1 (fun q => ?_) (fun q => ?_)
  · have hw := ga_t q hw
    refine g_iload V dL_law_2622 rfl rfl ?_
    obtain ⟨hx0, hw⟩ := hw
    refine gi_if_ne V dL_law_2624 rfl rfl hx0 (fun q => ?_) (fun q => ?_)
    · have hw := ga_f q hw
      refine g_goto V dL_law_2640 rfl ?_
      refine g_less (bs := [true, true, true, true, true, false, false]) (lv2 := [some (.ref v0), some (.ref v1), some (.ref v2), some (.ref v3), some (gi v4), none, none]) rfl ?_
      exact hl_L_law_J3472 hst V hend K27 hK27 v0 v1 v2 v3 v4 hp9 c4 s5 hw
    · have hw := ga_t q hw
      refine g_aload_n V dL_law_2627 rfl rfl ?_
      obtain ⟨fs, r11, ha, hv, hw⟩ := hw
      refine g_getN (C := RX6) (T := TX6) (N := 2) (host := "WordgardenLaw") V 0 rfl hin_RX6 (by decide) (by decide) gn_22 rfl ha hv dL_law_2628 rfl ?_
      refine g_iload V dL_law_2631 rfl rfl ?_
      refine gi_i2l V dL_law_2633 rfl ?_
      refine gi_lcmp V dL_law_2634 rfl ?_
      obtain ⟨hx0, hw⟩ := hw
      refine gi_if_eq V dL_law_2635 rfl rfl hx0 (fun q => ?_) (fun q => ?_)
      · have hw := ga_t q hw
        refine g_goto V dL_law_2640 rfl ?_
        refine g_less (bs := [true, true, true, true, true, false, false]) (lv2 := [some (.ref v0), some (.ref v1), some (.ref v2), some (.ref v3), some (gi v4), none, none]) rfl ?_
        exact hl_L_law_J3472 hst V hend K27 hK27 v0 v1 v2 v3 v4 hp9 c4 s5 hw
      · have hw := ga_f q hw
        refine g_iconst V (Int32.ofInt 0) dL_law_2638 rfl rfl ?_
        exact hw.elim
  · have hw := ga_f q hw
    refine g_iconst V (Int32.ofInt 0) dL_law_2620 rfl rfl ?_
    exact hw.elim
theorem hl_L_law_J2549 {p : Program} {l : Launch} {e : Env} {s : State} {m : MethodId} {args : Array Value} {below : List Frame} {meth : Method} {c : Code} {G : gaG} {nm : String} {Z : State → Prop} (hst : l.stackTraces = false) (V : gaV p l s m args meth c G code RL 7 gaW ret nm) (hend : ∀ (pc : Nat) (lv : List (Option Value)) (h : gaH) (k j : Nat), decode code pc = .ok (.ireturn, 1) → gaP p l e room_1 s m args below meth c G 7 Z pc lv [gi 1] h k j) : ∀ (K27 : Nat → Nat → Nat → Nat → Int → gaH → Nat → Nat → Prop), ∀ (hK27 : ∀ (v0 : Nat) (v1 : Nat) (v2 : Nat) (v3 : Nat) (v4 : Int) (h : gaH) (kc ks : Nat), K27 v0 v1 v2 v3 v4 h kc ks → gaP p l e room_1 s m args below meth c G 7 Z 27 [some (.ref v0), some (.ref v1), some (.ref v2), some (.ref v3), some (gi v4), none, none] [] h kc ks), ∀ (v0 : Nat) (v1 : Nat) (v2 : Nat) (v3 : Nat) (v4 : Int) (v5 : Int) (t0 : Nat) (t1 : Int) (t2 : Int) (t3 : Int) (h : gaH) (kc ks : Nat), w_L_law_J2549 G K27 v0 v1 v2 v3 v4 v5 t0 t1 t2 t3 h kc ks → gaP p l e room_1 s m args below meth c G 7 Z 2549 [some (.ref v0), some (.ref v1), some (.ref v2), some (.ref v3), some (gi v4), some (gi v5), none] [gi t3, gi t2, gi t1, .ref t0] h kc ks := by
  intro K27 hK27
  intro v0 v1 v2 v3 v4 v5 t0 t1 t2 t3 h kc ks hw
  unfold w_L_law_J2549 at hw
  obtain ⟨hb, hw⟩ := hw
  obtain ⟨fb, hb⟩ := hb
  refine g_callV (C := RX7) (T := TX7) (N := 8) (st := []) V (k_X7_kinds hst hw) ww_6_207 ww_6_208 ww_6_209 ww_1_5 ww_6_210 hd_X7_kinds ⟨by decide, by decide⟩ rfl (by decide) hb rfl rfl (ga_cat rfl) dL_law_2549 (Nat.zero_le _) (Nat.zero_le _) rfl ga_none (ga_ki (fun r2 hp1 hw => ?_))
  refine g_istore (lv2 := [some (.ref v0), some (.ref v1), some (.ref v2), some (.ref v3), some (gi v4), some (gi v5), some (gi r2)]) V dL_law_2552 (by decide) rfl rfl rfl ?_
  refine g_aload_n V dL_law_2554 rfl rfl ?_
  obtain ⟨hb, hw⟩ := hw
  obtain ⟨fb, hb⟩ := hb
  refine g_callV (C := RX7) (T := TX7) (N := 8) (st := []) V (k_X7_thrown hst hw) ww_5_206 ww_5_207 ww_5_208 ww_1_5 ww_5_209 hd_X7_thrown ⟨by decide, by decide⟩ rfl (by decide) hb rfl rfl (ga_cat rfl) dL_law_2555 (Nat.zero_le _) (Nat.zero_le _) rfl ga_none (ga_ki (fun r4 hp3 hw => ?_))
  refine g_iload V dL_law_2558 rfl rfl ?_
  obtain ⟨hx0, hx1, hw⟩ := hw
  refine gi_icmp_eq V dL_law_2560 rfl rfl hx0 hx1 (fun q => ?_) (fun q => ?_)
  · have hw := ga_t q hw
    refine g_iload V dL_law_2565 rfl rfl ?_
    obtain ⟨hx0, hw⟩ := hw
    refine gi_if_ne V dL_law_2567 rfl rfl hx0 (fun q => ?_) (fun q => ?_)
    · have hw := ga_f q hw
      refine g_goto V dL_law_2583 rfl ?_
      refine g_less (bs := [true, true, true, true, true, false, false]) (lv2 := [some (.ref v0), some (.ref v1), some (.ref v2), some (.ref v3), some (gi v4), none, none]) rfl ?_
      exact hl_L_law_J3472 hst V hend K27 hK27 v0 v1 v2 v3 v4 hp3 kc ks hw
    · have hw := ga_t q hw
      refine g_aload_n V dL_law_2570 rfl rfl ?_
      obtain ⟨fs, r5, ha, hv, hw⟩ := hw
      refine g_getN (C := RX6) (T := TX6) (N := 2) (host := "WordgardenLaw") V 0 rfl hin_RX6 (by decide) (by decide) gn_22 rfl ha hv dL_law_2571 rfl ?_
      refine g_iload V dL_law_2574 rfl rfl ?_
      refine gi_i2l V dL_law_2576 rfl ?_
      refine gi_lcmp V dL_law_2577 rfl ?_
      obtain ⟨hx0, hw⟩ := hw
      refine gi_if_eq V dL_law_2578 rfl rfl hx0 (fun q => ?_) (fun q => ?_)
      · have hw := ga_t q hw
        refine g_goto V dL_law_2583 rfl ?_
        refine g_less (bs := [true, true, true, true, true, false, false]) (lv2 := [some (.ref v0), some (.ref v1), some (.ref v2), some (.ref v3), some (gi v4), none, none]) rfl ?_
        exact hl_L_law_J3472 hst V hend K27 hK27 v0 v1 v2 v3 v4 hp3 kc ks hw
      · have hw := ga_f q hw
        refine g_iconst V (Int32.ofInt 0) dL_law_2581 rfl rfl ?_
        exact hw.elim
  · have hw := ga_f q hw
    refine g_iconst V (Int32.ofInt 0) dL_law_2563 rfl rfl ?_
    exact hw.elim
theorem hl_L_law_J2516 {p : Program} {l : Launch} {e : Env} {s : State} {m : MethodId} {args : Array Value} {below : List Frame} {meth : Method} {c : Code} {G : gaG} {nm : String} {Z : State → Prop} (hst : l.stackTraces = false) (V : gaV p l s m args meth c G code RL 7 gaW ret nm) (hend : ∀ (pc : Nat) (lv : List (Option Value)) (h : gaH) (k j : Nat), decode code pc = .ok (.ireturn, 1) → gaP p l e room_1 s m args below meth c G 7 Z pc lv [gi 1] h k j) : ∀ (K27 : Nat → Nat → Nat → Nat → Int → gaH → Nat → Nat → Prop), ∀ (hK27 : ∀ (v0 : Nat) (v1 : Nat) (v2 : Nat) (v3 : Nat) (v4 : Int) (h : gaH) (kc ks : Nat), K27 v0 v1 v2 v3 v4 h kc ks → gaP p l e room_1 s m args below meth c G 7 Z 27 [some (.ref v0), some (.ref v1), some (.ref v2), some (.ref v3), some (gi v4), none, none] [] h kc ks), ∀ (v0 : Nat) (v1 : Nat) (v2 : Nat) (v3 : Nat) (v4 : Int) (t0 : Nat) (t1 : Int) (t2 : Int) (t3 : Int) (h : gaH) (kc ks : Nat), w_L_law_J2516 G K27 v0 v1 v2 v3 v4 t0 t1 t2 t3 h kc ks → gaP p l e room_1 s m args below meth c G 7 Z 2516 [some (.ref v0), some (.ref v1), some (.ref v2), some (.ref v3), some (gi v4), none, none] [gi t3, gi t2, gi t1, .ref t0] h kc ks := by
  intro K27 hK27
  intro v0 v1 v2 v3 v4 t0 t1 t2 t3 h kc ks hw
  unfold w_L_law_J2516 at hw
  refine g_aload_n V dL_law_2516 rfl rfl ?_
  obtain ⟨hk, hj, c3, s4, ec, es, hw⟩ := hw
  refine g_callSX (st := []) V (k_L_kinds hst hw) ww_5_89 ww_5_90 ww_1_0 ww_5_91 hd_L_kinds ⟨by decide, by decide⟩ rfl rfl (ga_cat rfl) dL_law_2517 hk hj rfl ga_none (ga_ki (fun r2 hp1 hw => ?_))
  refine ga_re ec es ?_
  refine g_istore (lv2 := [some (.ref v0), some (.ref v1), some (.ref v2), some (.ref v3), some (gi v4), some (gi r2), none]) V dL_law_2520 (by decide) rfl rfl rfl ?_
  refine g_aload_n V dL_law_2522 rfl rfl ?_
  refine g_aload_n V dL_law_2523 rfl rfl ?_
  refine g_iload V dL_law_2524 rfl rfl ?_
  refine g_iconst V (Int32.ofInt 1) dL_law_2526 rfl rfl ?_
  refine gi_iadd V dL_law_2527 rfl ?_
  obtain ⟨t9, vs, r5, ha, ht, h0, h9, hv, hw⟩ := hw
  refine gi_iaload V ha ht h0 h9 hv dL_law_2528 rfl ?_
  refine g_aload_n V dL_law_2529 rfl rfl ?_
  refine g_iload V dL_law_2530 rfl rfl ?_
  refine g_iconst V (Int32.ofInt 2) dL_law_2532 rfl rfl ?_
  refine gi_iadd V dL_law_2533 rfl ?_
  obtain ⟨t9, vs, r6, ha, ht, h0, h9, hv, hw⟩ := hw
  refine gi_iaload V ha ht h0 h9 hv dL_law_2534 rfl ?_
  refine g_aload_n V dL_law_2535 rfl rfl ?_
  refine g_iload V dL_law_2536 rfl rfl ?_
  refine g_iconst V (Int32.ofInt 3) dL_law_2538 rfl rfl ?_
  refine gi_iadd V dL_law_2539 rfl ?_
  obtain ⟨t9, vs, r7, ha, ht, h0, h9, hv, hw⟩ := hw
  refine gi_iaload V ha ht h0 h9 hv dL_law_2540 rfl ?_
  obtain ⟨hx0, hw⟩ := hw
  refine gi_if_eq V dL_law_2541 rfl rfl hx0 (fun q => ?_) (fun q => ?_)
  · have hw := ga_t q hw
    refine g_iconst V (Int32.ofInt 0) dL_law_2548 rfl rfl ?_
    exact hl_L_law_J2549 hst V hend K27 hK27 v0 v1 v2 v3 v4 r2 v2 r5 r6 0 hp1 c3 s4 hw
  · have hw := ga_f q hw
    refine g_iconst V (Int32.ofInt 1) dL_law_2544 rfl rfl ?_
    refine g_goto V dL_law_2545 rfl ?_
    exact hl_L_law_J2549 hst V hend K27 hK27 v0 v1 v2 v3 v4 r2 v2 r5 r6 1 hp1 c3 s4 hw
theorem hl_L_law_J2489 {p : Program} {l : Launch} {e : Env} {s : State} {m : MethodId} {args : Array Value} {below : List Frame} {meth : Method} {c : Code} {G : gaG} {nm : String} {Z : State → Prop} (hst : l.stackTraces = false) (V : gaV p l s m args meth c G code RL 7 gaW ret nm) (hend : ∀ (pc : Nat) (lv : List (Option Value)) (h : gaH) (k j : Nat), decode code pc = .ok (.ireturn, 1) → gaP p l e room_1 s m args below meth c G 7 Z pc lv [gi 1] h k j) : ∀ (K27 : Nat → Nat → Nat → Nat → Int → gaH → Nat → Nat → Prop), ∀ (hK27 : ∀ (v0 : Nat) (v1 : Nat) (v2 : Nat) (v3 : Nat) (v4 : Int) (h : gaH) (kc ks : Nat), K27 v0 v1 v2 v3 v4 h kc ks → gaP p l e room_1 s m args below meth c G 7 Z 27 [some (.ref v0), some (.ref v1), some (.ref v2), some (.ref v3), some (gi v4), none, none] [] h kc ks), ∀ (v0 : Nat) (v1 : Nat) (v2 : Nat) (v3 : Nat) (v4 : Int) (h : gaH) (kc ks : Nat), w_L_law_J2489 G K27 v0 v1 v2 v3 v4 h kc ks → gaP p l e room_1 s m args below meth c G 7 Z 2489 [some (.ref v0), some (.ref v1), some (.ref v2), some (.ref v3), some (gi v4), none, none] [] h kc ks := by
  intro K27 hK27
  intro v0 v1 v2 v3 v4 h kc ks hw
  unfold w_L_law_J2489 at hw
  refine g_aload_n V dL_law_2489 rfl rfl ?_
  refine g_aload_n V dL_law_2490 rfl rfl ?_
  refine g_iload V dL_law_2491 rfl rfl ?_
  refine g_iconst V (Int32.ofInt 1) dL_law_2493 rfl rfl ?_
  refine gi_iadd V dL_law_2494 rfl ?_
  obtain ⟨t9, vs, r1, ha, ht, h0, h9, hv, hw⟩ := hw
  refine gi_iaload V ha ht h0 h9 hv dL_law_2495 rfl ?_
  refine g_aload_n V dL_law_2496 rfl rfl ?_
  refine g_iload V dL_law_2497 rfl rfl ?_
  refine g_iconst V (Int32.ofInt 2) dL_law_2499 rfl rfl ?_
  refine gi_iadd V dL_law_2500 rfl ?_
  obtain ⟨t9, vs, r2, ha, ht, h0, h9, hv, hw⟩ := hw
  refine gi_iaload V ha ht h0 h9 hv dL_law_2501 rfl ?_
  refine g_aload_n V dL_law_2502 rfl rfl ?_
  refine g_iload V dL_law_2503 rfl rfl ?_
  refine g_iconst V (Int32.ofInt 3) dL_law_2505 rfl rfl ?_
  refine gi_iadd V dL_law_2506 rfl ?_
  obtain ⟨t9, vs, r3, ha, ht, h0, h9, hv, hw⟩ := hw
  refine gi_iaload V ha ht h0 h9 hv dL_law_2507 rfl ?_
  obtain ⟨hx0, hw⟩ := hw
  refine gi_if_eq V dL_law_2508 rfl rfl hx0 (fun q => ?_) (fun q => ?_)
  · have hw := ga_t q hw
    refine g_iconst V (Int32.ofInt 0) dL_law_2515 rfl rfl ?_
    exact hl_L_law_J2516 hst V hend K27 hK27 v0 v1 v2 v3 v4 v1 r1 r2 0 h kc ks hw
  · have hw := ga_f q hw
    refine g_iconst V (Int32.ofInt 1) dL_law_2511 rfl rfl ?_
    refine g_goto V dL_law_2512 rfl ?_
    exact hl_L_law_J2516 hst V hend K27 hK27 v0 v1 v2 v3 v4 v1 r1 r2 1 h kc ks hw
theorem hl_L_law_J2452 {p : Program} {l : Launch} {e : Env} {s : State} {m : MethodId} {args : Array Value} {below : List Frame} {meth : Method} {c : Code} {G : gaG} {nm : String} {Z : State → Prop} (hst : l.stackTraces = false) (V : gaV p l s m args meth c G code RL 7 gaW ret nm) (hend : ∀ (pc : Nat) (lv : List (Option Value)) (h : gaH) (k j : Nat), decode code pc = .ok (.ireturn, 1) → gaP p l e room_1 s m args below meth c G 7 Z pc lv [gi 1] h k j) : ∀ (K27 : Nat → Nat → Nat → Nat → Int → gaH → Nat → Nat → Prop), ∀ (hK27 : ∀ (v0 : Nat) (v1 : Nat) (v2 : Nat) (v3 : Nat) (v4 : Int) (h : gaH) (kc ks : Nat), K27 v0 v1 v2 v3 v4 h kc ks → gaP p l e room_1 s m args below meth c G 7 Z 27 [some (.ref v0), some (.ref v1), some (.ref v2), some (.ref v3), some (gi v4), none, none] [] h kc ks), ∀ (v0 : Nat) (v1 : Nat) (v2 : Nat) (v3 : Nat) (v4 : Int) (v5 : Int) (t0 : Nat) (t1 : Int) (t2 : Int) (t3 : Int) (h : gaH) (kc ks : Nat), w_L_law_J2452 G K27 v0 v1 v2 v3 v4 v5 t0 t1 t2 t3 h kc ks → gaP p l e room_1 s m args below meth c G 7 Z 2452 [some (.ref v0), some (.ref v1), some (.ref v2), some (.ref v3), some (gi v4), some (gi v5), none] [gi t3, gi t2, gi t1, .ref t0] h kc ks := by
  intro K27 hK27
  intro v0 v1 v2 v3 v4 v5 t0 t1 t2 t3 h kc ks hw
  unfold w_L_law_J2452 at hw
  obtain ⟨hb, hw⟩ := hw
  obtain ⟨fb, hb⟩ := hb
  refine g_callV (C := RX7) (T := TX7) (N := 8) (st := []) V (k_X7_spread hst hw) ww_6_198 ww_6_199 ww_6_200 ww_1_5 ww_6_201 hd_X7_spread ⟨by decide, by decide⟩ rfl (by decide) hb rfl rfl (ga_cat rfl) dL_law_2452 (Nat.zero_le _) (Nat.zero_le _) rfl ga_none (ga_ki (fun r2 hp1 hw => ?_))
  refine g_istore (lv2 := [some (.ref v0), some (.ref v1), some (.ref v2), some (.ref v3), some (gi v4), some (gi v5), some (gi r2)]) V dL_law_2455 (by decide) rfl rfl rfl ?_
  refine g_aload_n V dL_law_2457 rfl rfl ?_
  obtain ⟨hb, hw⟩ := hw
  obtain ⟨fb, hb⟩ := hb
  refine g_callV (C := RX7) (T := TX7) (N := 8) (st := []) V (k_X7_thrown hst hw) ww_5_206 ww_5_207 ww_5_208 ww_1_5 ww_5_209 hd_X7_thrown ⟨by decide, by decide⟩ rfl (by decide) hb rfl rfl (ga_cat rfl) dL_law_2458 (Nat.zero_le _) (Nat.zero_le _) rfl ga_none (ga_ki (fun r4 hp3 hw => ?_))
  refine g_iload V dL_law_2461 rfl rfl ?_
  obtain ⟨hx0, hx1, hw⟩ := hw
  refine gi_icmp_eq V dL_law_2463 rfl rfl hx0 hx1 (fun q => ?_) (fun q => ?_)
  · have hw := ga_t q hw
    refine g_iload V dL_law_2468 rfl rfl ?_
    obtain ⟨hx0, hw⟩ := hw
    refine gi_if_ne V dL_law_2470 rfl rfl hx0 (fun q => ?_) (fun q => ?_)
    · have hw := ga_f q hw
      refine g_goto V dL_law_2486 rfl ?_
      refine g_less (bs := [true, true, true, true, true, false, false]) (lv2 := [some (.ref v0), some (.ref v1), some (.ref v2), some (.ref v3), some (gi v4), none, none]) rfl ?_
      exact hl_L_law_J3472 hst V hend K27 hK27 v0 v1 v2 v3 v4 hp3 kc ks hw
    · have hw := ga_t q hw
      refine g_aload_n V dL_law_2473 rfl rfl ?_
      obtain ⟨fs, r5, ha, hv, hw⟩ := hw
      refine g_getN (C := RX6) (T := TX6) (N := 2) (host := "WordgardenLaw") V 0 rfl hin_RX6 (by decide) (by decide) gn_22 rfl ha hv dL_law_2474 rfl ?_
      refine g_iload V dL_law_2477 rfl rfl ?_
      refine gi_i2l V dL_law_2479 rfl ?_
      refine gi_lcmp V dL_law_2480 rfl ?_
      obtain ⟨hx0, hw⟩ := hw
      refine gi_if_eq V dL_law_2481 rfl rfl hx0 (fun q => ?_) (fun q => ?_)
      · have hw := ga_t q hw
        refine g_goto V dL_law_2486 rfl ?_
        refine g_less (bs := [true, true, true, true, true, false, false]) (lv2 := [some (.ref v0), some (.ref v1), some (.ref v2), some (.ref v3), some (gi v4), none, none]) rfl ?_
        exact hl_L_law_J3472 hst V hend K27 hK27 v0 v1 v2 v3 v4 hp3 kc ks hw
      · have hw := ga_f q hw
        refine g_iconst V (Int32.ofInt 0) dL_law_2484 rfl rfl ?_
        exact hw.elim
  · have hw := ga_f q hw
    refine g_iconst V (Int32.ofInt 0) dL_law_2466 rfl rfl ?_
    exact hw.elim
theorem hl_L_law_J2419 {p : Program} {l : Launch} {e : Env} {s : State} {m : MethodId} {args : Array Value} {below : List Frame} {meth : Method} {c : Code} {G : gaG} {nm : String} {Z : State → Prop} (hst : l.stackTraces = false) (V : gaV p l s m args meth c G code RL 7 gaW ret nm) (hend : ∀ (pc : Nat) (lv : List (Option Value)) (h : gaH) (k j : Nat), decode code pc = .ok (.ireturn, 1) → gaP p l e room_1 s m args below meth c G 7 Z pc lv [gi 1] h k j) : ∀ (K27 : Nat → Nat → Nat → Nat → Int → gaH → Nat → Nat → Prop), ∀ (hK27 : ∀ (v0 : Nat) (v1 : Nat) (v2 : Nat) (v3 : Nat) (v4 : Int) (h : gaH) (kc ks : Nat), K27 v0 v1 v2 v3 v4 h kc ks → gaP p l e room_1 s m args below meth c G 7 Z 27 [some (.ref v0), some (.ref v1), some (.ref v2), some (.ref v3), some (gi v4), none, none] [] h kc ks), ∀ (v0 : Nat) (v1 : Nat) (v2 : Nat) (v3 : Nat) (v4 : Int) (t0 : Nat) (t1 : Int) (t2 : Int) (t3 : Int) (h : gaH) (kc ks : Nat), w_L_law_J2419 G K27 v0 v1 v2 v3 v4 t0 t1 t2 t3 h kc ks → gaP p l e room_1 s m args below meth c G 7 Z 2419 [some (.ref v0), some (.ref v1), some (.ref v2), some (.ref v3), some (gi v4), none, none] [gi t3, gi t2, gi t1, .ref t0] h kc ks := by
  intro K27 hK27
  intro v0 v1 v2 v3 v4 t0 t1 t2 t3 h kc ks hw
  unfold w_L_law_J2419 at hw
  refine g_aload_n V dL_law_2419 rfl rfl ?_
  obtain ⟨hk, hj, c3, s4, ec, es, hw⟩ := hw
  refine g_callSX (st := []) V (k_L_spread hst hw) ww_5_75 ww_5_76 ww_1_0 ww_5_77 hd_L_spread ⟨by decide, by decide⟩ rfl rfl (ga_cat rfl) dL_law_2420 hk hj rfl ga_none (ga_ki (fun r2 hp1 hw => ?_))
  refine ga_re ec es ?_
  refine g_istore (lv2 := [some (.ref v0), some (.ref v1), some (.ref v2), some (.ref v3), some (gi v4), some (gi r2), none]) V dL_law_2423 (by decide) rfl rfl rfl ?_
  refine g_aload_n V dL_law_2425 rfl rfl ?_
  refine g_aload_n V dL_law_2426 rfl rfl ?_
  refine g_iload V dL_law_2427 rfl rfl ?_
  refine g_iconst V (Int32.ofInt 1) dL_law_2429 rfl rfl ?_
  refine gi_iadd V dL_law_2430 rfl ?_
  obtain ⟨t9, vs, r5, ha, ht, h0, h9, hv, hw⟩ := hw
  refine gi_iaload V ha ht h0 h9 hv dL_law_2431 rfl ?_
  refine g_aload_n V dL_law_2432 rfl rfl ?_
  refine g_iload V dL_law_2433 rfl rfl ?_
  refine g_iconst V (Int32.ofInt 2) dL_law_2435 rfl rfl ?_
  refine gi_iadd V dL_law_2436 rfl ?_
  obtain ⟨t9, vs, r6, ha, ht, h0, h9, hv, hw⟩ := hw
  refine gi_iaload V ha ht h0 h9 hv dL_law_2437 rfl ?_
  refine g_aload_n V dL_law_2438 rfl rfl ?_
  refine g_iload V dL_law_2439 rfl rfl ?_
  refine g_iconst V (Int32.ofInt 3) dL_law_2441 rfl rfl ?_
  refine gi_iadd V dL_law_2442 rfl ?_
  obtain ⟨t9, vs, r7, ha, ht, h0, h9, hv, hw⟩ := hw
  refine gi_iaload V ha ht h0 h9 hv dL_law_2443 rfl ?_
  obtain ⟨hx0, hw⟩ := hw
  refine gi_if_eq V dL_law_2444 rfl rfl hx0 (fun q => ?_) (fun q => ?_)
  · have hw := ga_t q hw
    refine g_iconst V (Int32.ofInt 0) dL_law_2451 rfl rfl ?_
    exact hl_L_law_J2452 hst V hend K27 hK27 v0 v1 v2 v3 v4 r2 v2 r5 r6 0 hp1 c3 s4 hw
  · have hw := ga_f q hw
    refine g_iconst V (Int32.ofInt 1) dL_law_2447 rfl rfl ?_
    refine g_goto V dL_law_2448 rfl ?_
    exact hl_L_law_J2452 hst V hend K27 hK27 v0 v1 v2 v3 v4 r2 v2 r5 r6 1 hp1 c3 s4 hw
theorem hl_L_law_J2392 {p : Program} {l : Launch} {e : Env} {s : State} {m : MethodId} {args : Array Value} {below : List Frame} {meth : Method} {c : Code} {G : gaG} {nm : String} {Z : State → Prop} (hst : l.stackTraces = false) (V : gaV p l s m args meth c G code RL 7 gaW ret nm) (hend : ∀ (pc : Nat) (lv : List (Option Value)) (h : gaH) (k j : Nat), decode code pc = .ok (.ireturn, 1) → gaP p l e room_1 s m args below meth c G 7 Z pc lv [gi 1] h k j) : ∀ (K27 : Nat → Nat → Nat → Nat → Int → gaH → Nat → Nat → Prop), ∀ (hK27 : ∀ (v0 : Nat) (v1 : Nat) (v2 : Nat) (v3 : Nat) (v4 : Int) (h : gaH) (kc ks : Nat), K27 v0 v1 v2 v3 v4 h kc ks → gaP p l e room_1 s m args below meth c G 7 Z 27 [some (.ref v0), some (.ref v1), some (.ref v2), some (.ref v3), some (gi v4), none, none] [] h kc ks), ∀ (v0 : Nat) (v1 : Nat) (v2 : Nat) (v3 : Nat) (v4 : Int) (h : gaH) (kc ks : Nat), w_L_law_J2392 G K27 v0 v1 v2 v3 v4 h kc ks → gaP p l e room_1 s m args below meth c G 7 Z 2392 [some (.ref v0), some (.ref v1), some (.ref v2), some (.ref v3), some (gi v4), none, none] [] h kc ks := by
  intro K27 hK27
  intro v0 v1 v2 v3 v4 h kc ks hw
  unfold w_L_law_J2392 at hw
  refine g_aload_n V dL_law_2392 rfl rfl ?_
  refine g_aload_n V dL_law_2393 rfl rfl ?_
  refine g_iload V dL_law_2394 rfl rfl ?_
  refine g_iconst V (Int32.ofInt 1) dL_law_2396 rfl rfl ?_
  refine gi_iadd V dL_law_2397 rfl ?_
  obtain ⟨t9, vs, r1, ha, ht, h0, h9, hv, hw⟩ := hw
  refine gi_iaload V ha ht h0 h9 hv dL_law_2398 rfl ?_
  refine g_aload_n V dL_law_2399 rfl rfl ?_
  refine g_iload V dL_law_2400 rfl rfl ?_
  refine g_iconst V (Int32.ofInt 2) dL_law_2402 rfl rfl ?_
  refine gi_iadd V dL_law_2403 rfl ?_
  obtain ⟨t9, vs, r2, ha, ht, h0, h9, hv, hw⟩ := hw
  refine gi_iaload V ha ht h0 h9 hv dL_law_2404 rfl ?_
  refine g_aload_n V dL_law_2405 rfl rfl ?_
  refine g_iload V dL_law_2406 rfl rfl ?_
  refine g_iconst V (Int32.ofInt 3) dL_law_2408 rfl rfl ?_
  refine gi_iadd V dL_law_2409 rfl ?_
  obtain ⟨t9, vs, r3, ha, ht, h0, h9, hv, hw⟩ := hw
  refine gi_iaload V ha ht h0 h9 hv dL_law_2410 rfl ?_
  obtain ⟨hx0, hw⟩ := hw
  refine gi_if_eq V dL_law_2411 rfl rfl hx0 (fun q => ?_) (fun q => ?_)
  · have hw := ga_t q hw
    refine g_iconst V (Int32.ofInt 0) dL_law_2418 rfl rfl ?_
    exact hl_L_law_J2419 hst V hend K27 hK27 v0 v1 v2 v3 v4 v1 r1 r2 0 h kc ks hw
  · have hw := ga_f q hw
    refine g_iconst V (Int32.ofInt 1) dL_law_2414 rfl rfl ?_
    refine g_goto V dL_law_2415 rfl ?_
    exact hl_L_law_J2419 hst V hend K27 hK27 v0 v1 v2 v3 v4 v1 r1 r2 1 h kc ks hw
theorem hl_L_law_J2383 {p : Program} {l : Launch} {e : Env} {s : State} {m : MethodId} {args : Array Value} {below : List Frame} {meth : Method} {c : Code} {G : gaG} {nm : String} {Z : State → Prop} (hst : l.stackTraces = false) (V : gaV p l s m args meth c G code RL 7 gaW ret nm) (hend : ∀ (pc : Nat) (lv : List (Option Value)) (h : gaH) (k j : Nat), decode code pc = .ok (.ireturn, 1) → gaP p l e room_1 s m args below meth c G 7 Z pc lv [gi 1] h k j) : ∀ (K27 : Nat → Nat → Nat → Nat → Int → gaH → Nat → Nat → Prop), ∀ (hK27 : ∀ (v0 : Nat) (v1 : Nat) (v2 : Nat) (v3 : Nat) (v4 : Int) (h : gaH) (kc ks : Nat), K27 v0 v1 v2 v3 v4 h kc ks → gaP p l e room_1 s m args below meth c G 7 Z 27 [some (.ref v0), some (.ref v1), some (.ref v2), some (.ref v3), some (gi v4), none, none] [] h kc ks), ∀ (v0 : Nat) (v1 : Nat) (v2 : Nat) (v3 : Nat) (v4 : Int) (t0 : Int64) (t1 : Int64) (h : gaH) (kc ks : Nat), w_L_law_J2383 G K27 v0 v1 v2 v3 v4 t0 t1 h kc ks → gaP p l e room_1 s m args below meth c G 7 Z 2383 [some (.ref v0), some (.ref v1), some (.ref v2), some (.ref v3), some (gi v4), none, none] [.long t1, .long t0] h kc ks := by
  intro K27 hK27
  intro v0 v1 v2 v3 v4 t0 t1 h kc ks hw
  unfold w_L_law_J2383 at hw
  refine gi_lcmp V dL_law_2383 rfl ?_
  obtain ⟨hx0, hw⟩ := hw
  refine gi_if_eq V dL_law_2384 rfl rfl hx0 (fun q => ?_) (fun q => ?_)
  · have hw := ga_t q hw
    refine g_goto V dL_law_2389 rfl ?_
    exact hl_L_law_J3472 hst V hend K27 hK27 v0 v1 v2 v3 v4 h kc ks hw
  · have hw := ga_f q hw
    refine g_iconst V (Int32.ofInt 0) dL_law_2387 rfl rfl ?_
    exact hw.elim
theorem hl_L_law_J2328 {p : Program} {l : Launch} {e : Env} {s : State} {m : MethodId} {args : Array Value} {below : List Frame} {meth : Method} {c : Code} {G : gaG} {nm : String} {Z : State → Prop} (hst : l.stackTraces = false) (V : gaV p l s m args meth c G code RL 7 gaW ret nm) (hend : ∀ (pc : Nat) (lv : List (Option Value)) (h : gaH) (k j : Nat), decode code pc = .ok (.ireturn, 1) → gaP p l e room_1 s m args below meth c G 7 Z pc lv [gi 1] h k j) : ∀ (K27 : Nat → Nat → Nat → Nat → Int → gaH → Nat → Nat → Prop), ∀ (hK27 : ∀ (v0 : Nat) (v1 : Nat) (v2 : Nat) (v3 : Nat) (v4 : Int) (h : gaH) (kc ks : Nat), K27 v0 v1 v2 v3 v4 h kc ks → gaP p l e room_1 s m args below meth c G 7 Z 27 [some (.ref v0), some (.ref v1), some (.ref v2), some (.ref v3), some (gi v4), none, none] [] h kc ks), ∀ (v0 : Nat) (v1 : Nat) (v2 : Nat) (v3 : Nat) (v4 : Int) (h : gaH) (kc ks : Nat), w_L_law_J2328 G K27 v0 v1 v2 v3 v4 h kc ks → gaP p l e room_1 s m args below meth c G 7 Z 2328 [some (.ref v0), some (.ref v1), some (.ref v2), some (.ref v3), some (gi v4), none, none] [] h kc ks := by
  intro K27 hK27
  intro v0 v1 v2 v3 v4 h kc ks hw
  unfold w_L_law_J2328 at hw
  refine g_aload_n V dL_law_2328 rfl rfl ?_
  refine g_aload_n V dL_law_2329 rfl rfl ?_
  refine g_iload V dL_law_2330 rfl rfl ?_
  refine g_iconst V (Int32.ofInt 1) dL_law_2332 rfl rfl ?_
  refine gi_iadd V dL_law_2333 rfl ?_
  obtain ⟨t9, vs, r1, ha, ht, h0, h9, hv, hw⟩ := hw
  refine gi_iaload V ha ht h0 h9 hv dL_law_2334 rfl ?_
  refine g_aload_n V dL_law_2335 rfl rfl ?_
  obtain ⟨hk, hj, c4, s5, ec, es, hw⟩ := hw
  refine g_callSX (st := []) V (k_L_isMirrored hst hw) ww_5_71 ww_5_72 ww_1_0 ww_5_73 hd_L_isMirrored ⟨by decide, by decide⟩ rfl rfl (ga_cat rfl) dL_law_2336 hk hj rfl ga_none (ga_ki (fun r3 hp2 hw => ?_))
  refine ga_re ec es ?_
  refine g_istore (lv2 := [some (.ref v0), some (.ref v1), some (.ref v2), some (.ref v3), some (gi v4), some (gi r3), none]) V dL_law_2339 (by decide) rfl rfl rfl ?_
  refine g_aload_n V dL_law_2341 rfl rfl ?_
  refine g_aload_n V dL_law_2342 rfl rfl ?_
  refine g_iload V dL_law_2343 rfl rfl ?_
  refine g_iconst V (Int32.ofInt 1) dL_law_2345 rfl rfl ?_
  refine gi_iadd V dL_law_2346 rfl ?_
  obtain ⟨t9, vs, r6, ha, ht, h0, h9, hv, hw⟩ := hw
  refine gi_iaload V ha ht h0 h9 hv dL_law_2347 rfl ?_
  obtain ⟨hb, hw⟩ := hw
  obtain ⟨fb, hb⟩ := hb
  refine g_callV (C := RX7) (T := TX7) (N := 8) (st := []) V (k_X7_isMirrored_ hst hw) ww_6_191 ww_6_192 ww_6_193 ww_1_5 ww_6_194 hd_X7_isMirrored_ ⟨by decide, by decide⟩ rfl (by decide) hb rfl rfl (ga_cat rfl) dL_law_2348 (Nat.zero_le _) (Nat.zero_le _) rfl ga_none (ga_ki (fun r8 hp7 hw => ?_))
  refine g_istore (lv2 := [some (.ref v0), some (.ref v1), some (.ref v2), some (.ref v3), some (gi v4), some (gi r3), some (gi r8)]) V dL_law_2351 (by decide) rfl rfl rfl ?_
  refine g_aload_n V dL_law_2353 rfl rfl ?_
  obtain ⟨hb, hw⟩ := hw
  obtain ⟨fb, hb⟩ := hb
  refine g_callV (C := RX7) (T := TX7) (N := 8) (st := []) V (k_X7_thrown hst hw) ww_5_206 ww_5_207 ww_5_208 ww_1_5 ww_5_209 hd_X7_thrown ⟨by decide, by decide⟩ rfl (by decide) hb rfl rfl (ga_cat rfl) dL_law_2354 (Nat.zero_le _) (Nat.zero_le _) rfl ga_none (ga_ki (fun r10 hp9 hw => ?_))
  refine g_iload V dL_law_2357 rfl rfl ?_
  obtain ⟨hx0, hx1, hw⟩ := hw
  refine gi_icmp_eq V dL_law_2359 rfl rfl hx0 hx1 (fun q => ?_) (fun q => ?_)
  · have hw := ga_t q hw
    refine g_iload V dL_law_2364 rfl rfl ?_
    obtain ⟨hx0, hw⟩ := hw
    refine gi_if_ne V dL_law_2366 rfl rfl hx0 (fun q => ?_) (fun q => ?_)
    · have hw := ga_f q hw
      refine g_goto V dL_law_2389 rfl ?_
      refine g_less (bs := [true, true, true, true, true, false, false]) (lv2 := [some (.ref v0), some (.ref v1), some (.ref v2), some (.ref v3), some (gi v4), none, none]) rfl ?_
      exact hl_L_law_J3472 hst V hend K27 hK27 v0 v1 v2 v3 v4 hp9 c4 s5 hw
    · have hw := ga_t q hw
      refine g_aload_n V dL_law_2369 rfl rfl ?_
      obtain ⟨fs, r11, ha, hv, hw⟩ := hw
      refine g_getN (C := RX6) (T := TX6) (N := 2) (host := "WordgardenLaw") V 0 rfl hin_RX6 (by decide) (by decide) gn_22 rfl ha hv dL_law_2370 rfl ?_
      refine g_iload V dL_law_2373 rfl rfl ?_
      obtain ⟨hx0, hw⟩ := hw
      refine gi_if_eq V dL_law_2375 rfl rfl hx0 (fun q => ?_) (fun q => ?_)
      · have hw := ga_t q hw
        refine g_lconst V (0 : Int64) dL_law_2382 rfl rfl ?_
        refine g_less (bs := [true, true, true, true, true, false, false]) (lv2 := [some (.ref v0), some (.ref v1), some (.ref v2), some (.ref v3), some (gi v4), none, none]) rfl ?_
        exact hl_L_law_J2383 hst V hend K27 hK27 v0 v1 v2 v3 v4 r11 (0 : Int64) hp9 c4 s5 hw
      · have hw := ga_f q hw
        refine g_lconst V (1 : Int64) dL_law_2378 rfl rfl ?_
        refine g_goto V dL_law_2379 rfl ?_
        refine g_less (bs := [true, true, true, true, true, false, false]) (lv2 := [some (.ref v0), some (.ref v1), some (.ref v2), some (.ref v3), some (gi v4), none, none]) rfl ?_
        exact hl_L_law_J2383 hst V hend K27 hK27 v0 v1 v2 v3 v4 r11 (1 : Int64) hp9 c4 s5 hw
  · have hw := ga_f q hw
    refine g_iconst V (Int32.ofInt 0) dL_law_2362 rfl rfl ?_
    exact hw.elim
theorem hl_L_law_J2259 {p : Program} {l : Launch} {e : Env} {s : State} {m : MethodId} {args : Array Value} {below : List Frame} {meth : Method} {c : Code} {G : gaG} {nm : String} {Z : State → Prop} (hst : l.stackTraces = false) (V : gaV p l s m args meth c G code RL 7 gaW ret nm) (hend : ∀ (pc : Nat) (lv : List (Option Value)) (h : gaH) (k j : Nat), decode code pc = .ok (.ireturn, 1) → gaP p l e room_1 s m args below meth c G 7 Z pc lv [gi 1] h k j) : ∀ (K27 : Nat → Nat → Nat → Nat → Int → gaH → Nat → Nat → Prop), ∀ (hK27 : ∀ (v0 : Nat) (v1 : Nat) (v2 : Nat) (v3 : Nat) (v4 : Int) (h : gaH) (kc ks : Nat), K27 v0 v1 v2 v3 v4 h kc ks → gaP p l e room_1 s m args below meth c G 7 Z 27 [some (.ref v0), some (.ref v1), some (.ref v2), some (.ref v3), some (gi v4), none, none] [] h kc ks), ∀ (v0 : Nat) (v1 : Nat) (v2 : Nat) (v3 : Nat) (v4 : Int) (h : gaH) (kc ks : Nat), w_L_law_J2259 G K27 v0 v1 v2 v3 v4 h kc ks → gaP p l e room_1 s m args below meth c G 7 Z 2259 [some (.ref v0), some (.ref v1), some (.ref v2), some (.ref v3), some (gi v4), none, none] [] h kc ks := by
  intro K27 hK27
  intro v0 v1 v2 v3 v4 h kc ks hw
  unfold w_L_law_J2259 at hw
  refine g_aload_n V dL_law_2259 rfl rfl ?_
  refine g_aload_n V dL_law_2260 rfl rfl ?_
  refine g_iload V dL_law_2261 rfl rfl ?_
  refine g_iconst V (Int32.ofInt 1) dL_law_2263 rfl rfl ?_
  refine gi_iadd V dL_law_2264 rfl ?_
  obtain ⟨t9, vs, r1, ha, ht, h0, h9, hv, hw⟩ := hw
  refine gi_iaload V ha ht h0 h9 hv dL_law_2265 rfl ?_
  refine g_aload_n V dL_law_2266 rfl rfl ?_
  refine g_iload V dL_law_2267 rfl rfl ?_
  refine g_iconst V (Int32.ofInt 2) dL_law_2269 rfl rfl ?_
  refine gi_iadd V dL_law_2270 rfl ?_
  obtain ⟨t9, vs, r2, ha, ht, h0, h9, hv, hw⟩ := hw
  refine gi_iaload V ha ht h0 h9 hv dL_law_2271 rfl ?_
  refine g_aload_n V dL_law_2272 rfl rfl ?_
  obtain ⟨hk, hj, c5, s6, ec, es, hw⟩ := hw
  refine g_callSX (st := []) V (k_L_order hst hw) ww_5_64 ww_5_65 ww_1_0 ww_5_66 hd_L_order ⟨by decide, by decide⟩ rfl rfl (ga_cat rfl) dL_law_2273 hk hj rfl ga_none (ga_ki (fun r4 hp3 hw => ?_))
  refine ga_re ec es ?_
  refine g_istore (lv2 := [some (.ref v0), some (.ref v1), some (.ref v2), some (.ref v3), some (gi v4), some (gi r4), none]) V dL_law_2276 (by decide) rfl rfl rfl ?_
  refine g_aload_n V dL_law_2278 rfl rfl ?_
  refine g_aload_n V dL_law_2279 rfl rfl ?_
  refine g_iload V dL_law_2280 rfl rfl ?_
  refine g_iconst V (Int32.ofInt 1) dL_law_2282 rfl rfl ?_
  refine gi_iadd V dL_law_2283 rfl ?_
  obtain ⟨t9, vs, r7, ha, ht, h0, h9, hv, hw⟩ := hw
  refine gi_iaload V ha ht h0 h9 hv dL_law_2284 rfl ?_
  refine g_aload_n V dL_law_2285 rfl rfl ?_
  refine g_iload V dL_law_2286 rfl rfl ?_
  refine g_iconst V (Int32.ofInt 2) dL_law_2288 rfl rfl ?_
  refine gi_iadd V dL_law_2289 rfl ?_
  obtain ⟨t9, vs, r8, ha, ht, h0, h9, hv, hw⟩ := hw
  refine gi_iaload V ha ht h0 h9 hv dL_law_2290 rfl ?_
  obtain ⟨hb, hw⟩ := hw
  obtain ⟨fb, hb⟩ := hb
  refine g_callV (C := RX7) (T := TX7) (N := 8) (st := []) V (k_X7_order hst hw) ww_6_187 ww_6_188 ww_6_189 ww_1_5 ww_6_190 hd_X7_order ⟨by decide, by decide⟩ rfl (by decide) hb rfl rfl (ga_cat rfl) dL_law_2291 (Nat.zero_le _) (Nat.zero_le _) rfl ga_none (ga_ki (fun r10 hp9 hw => ?_))
  refine g_istore (lv2 := [some (.ref v0), some (.ref v1), some (.ref v2), some (.ref v3), some (gi v4), some (gi r4), some (gi r10)]) V dL_law_2294 (by decide) rfl rfl rfl ?_
  refine g_aload_n V dL_law_2296 rfl rfl ?_
  obtain ⟨hb, hw⟩ := hw
  obtain ⟨fb, hb⟩ := hb
  refine g_callV (C := RX7) (T := TX7) (N := 8) (st := []) V (k_X7_thrown hst hw) ww_5_206 ww_5_207 ww_5_208 ww_1_5 ww_5_209 hd_X7_thrown ⟨by decide, by decide⟩ rfl (by decide) hb rfl rfl (ga_cat rfl) dL_law_2297 (Nat.zero_le _) (Nat.zero_le _) rfl ga_none (ga_ki (fun r12 hp11 hw => ?_))
  refine g_iload V dL_law_2300 rfl rfl ?_
  obtain ⟨hx0, hx1, hw⟩ := hw
  refine gi_icmp_eq V dL_law_2302 rfl rfl hx0 hx1 (fun q => ?_) (fun q => ?_)
  · have hw := ga_t q hw
    refine g_iload V dL_law_2307 rfl rfl ?_
    obtain ⟨hx0, hw⟩ := hw
    refine gi_if_ne V dL_law_2309 rfl rfl hx0 (fun q => ?_) (fun q => ?_)
    · have hw := ga_f q hw
      refine g_goto V dL_law_2325 rfl ?_
      refine g_less (bs := [true, true, true, true, true, false, false]) (lv2 := [some (.ref v0), some (.ref v1), some (.ref v2), some (.ref v3), some (gi v4), none, none]) rfl ?_
      exact hl_L_law_J3472 hst V hend K27 hK27 v0 v1 v2 v3 v4 hp11 c5 s6 hw
    · have hw := ga_t q hw
      refine g_aload_n V dL_law_2312 rfl rfl ?_
      obtain ⟨fs, r13, ha, hv, hw⟩ := hw
      refine g_getN (C := RX6) (T := TX6) (N := 2) (host := "WordgardenLaw") V 0 rfl hin_RX6 (by decide) (by decide) gn_22 rfl ha hv dL_law_2313 rfl ?_
      refine g_iload V dL_law_2316 rfl rfl ?_
      refine gi_i2l V dL_law_2318 rfl ?_
      refine gi_lcmp V dL_law_2319 rfl ?_
      obtain ⟨hx0, hw⟩ := hw
      refine gi_if_eq V dL_law_2320 rfl rfl hx0 (fun q => ?_) (fun q => ?_)
      · have hw := ga_t q hw
        refine g_goto V dL_law_2325 rfl ?_
        refine g_less (bs := [true, true, true, true, true, false, false]) (lv2 := [some (.ref v0), some (.ref v1), some (.ref v2), some (.ref v3), some (gi v4), none, none]) rfl ?_
        exact hl_L_law_J3472 hst V hend K27 hK27 v0 v1 v2 v3 v4 hp11 c5 s6 hw
      · have hw := ga_f q hw
        refine g_iconst V (Int32.ofInt 0) dL_law_2323 rfl rfl ?_
        exact hw.elim
  · have hw := ga_f q hw
    refine g_iconst V (Int32.ofInt 0) dL_law_2305 rfl rfl ?_
    exact hw.elim
theorem hl_L_law_J2178 {p : Program} {l : Launch} {e : Env} {s : State} {m : MethodId} {args : Array Value} {below : List Frame} {meth : Method} {c : Code} {G : gaG} {nm : String} {Z : State → Prop} (hst : l.stackTraces = false) (V : gaV p l s m args meth c G code RL 7 gaW ret nm) (hend : ∀ (pc : Nat) (lv : List (Option Value)) (h : gaH) (k j : Nat), decode code pc = .ok (.ireturn, 1) → gaP p l e room_1 s m args below meth c G 7 Z pc lv [gi 1] h k j) : ∀ (K27 : Nat → Nat → Nat → Nat → Int → gaH → Nat → Nat → Prop), ∀ (hK27 : ∀ (v0 : Nat) (v1 : Nat) (v2 : Nat) (v3 : Nat) (v4 : Int) (h : gaH) (kc ks : Nat), K27 v0 v1 v2 v3 v4 h kc ks → gaP p l e room_1 s m args below meth c G 7 Z 27 [some (.ref v0), some (.ref v1), some (.ref v2), some (.ref v3), some (gi v4), none, none] [] h kc ks), ∀ (v0 : Nat) (v1 : Nat) (v2 : Nat) (v3 : Nat) (v4 : Int) (h : gaH) (kc ks : Nat), w_L_law_J2178 G K27 v0 v1 v2 v3 v4 h kc ks → gaP p l e room_1 s m args below meth c G 7 Z 2178 [some (.ref v0), some (.ref v1), some (.ref v2), some (.ref v3), some (gi v4), none, none] [] h kc ks := by
  intro K27 hK27
  intro v0 v1 v2 v3 v4 h kc ks hw
  unfold w_L_law_J2178 at hw
  refine g_aload_n V dL_law_2178 rfl rfl ?_
  refine g_aload_n V dL_law_2179 rfl rfl ?_
  refine g_iload V dL_law_2180 rfl rfl ?_
  refine g_iconst V (Int32.ofInt 1) dL_law_2182 rfl rfl ?_
  refine gi_iadd V dL_law_2183 rfl ?_
  obtain ⟨t9, vs, r1, ha, ht, h0, h9, hv, hw⟩ := hw
  refine gi_iaload V ha ht h0 h9 hv dL_law_2184 rfl ?_
  refine g_aload_n V dL_law_2185 rfl rfl ?_
  refine g_iload V dL_law_2186 rfl rfl ?_
  refine g_iconst V (Int32.ofInt 2) dL_law_2188 rfl rfl ?_
  refine gi_iadd V dL_law_2189 rfl ?_
  obtain ⟨t9, vs, r2, ha, ht, h0, h9, hv, hw⟩ := hw
  refine gi_iaload V ha ht h0 h9 hv dL_law_2190 rfl ?_
  refine g_aload_n V dL_law_2191 rfl rfl ?_
  refine g_iload V dL_law_2192 rfl rfl ?_
  refine g_iconst V (Int32.ofInt 3) dL_law_2194 rfl rfl ?_
  refine gi_iadd V dL_law_2195 rfl ?_
  obtain ⟨t9, vs, r3, ha, ht, h0, h9, hv, hw⟩ := hw
  refine gi_iaload V ha ht h0 h9 hv dL_law_2196 rfl ?_
  refine g_aload_n V dL_law_2197 rfl rfl ?_
  obtain ⟨hk, hj, c6, s7, ec, es, hw⟩ := hw
  refine g_callSX (st := []) V (k_L_findLast hst hw) ww_5_57 ww_5_58 ww_1_0 ww_5_59 hd_L_findLast ⟨by decide, by decide⟩ rfl rfl (ga_cat rfl) dL_law_2198 hk hj rfl ga_none (ga_ki (fun r5 hp4 hw => ?_))
  refine ga_re ec es ?_
  refine g_istore (lv2 := [some (.ref v0), some (.ref v1), some (.ref v2), some (.ref v3), some (gi v4), some (gi r5), none]) V dL_law_2201 (by decide) rfl rfl rfl ?_
  refine g_aload_n V dL_law_2203 rfl rfl ?_
  refine g_aload_n V dL_law_2204 rfl rfl ?_
  refine g_iload V dL_law_2205 rfl rfl ?_
  refine g_iconst V (Int32.ofInt 1) dL_law_2207 rfl rfl ?_
  refine gi_iadd V dL_law_2208 rfl ?_
  obtain ⟨t9, vs, r8, ha, ht, h0, h9, hv, hw⟩ := hw
  refine gi_iaload V ha ht h0 h9 hv dL_law_2209 rfl ?_
  refine g_aload_n V dL_law_2210 rfl rfl ?_
  refine g_iload V dL_law_2211 rfl rfl ?_
  refine g_iconst V (Int32.ofInt 2) dL_law_2213 rfl rfl ?_
  refine gi_iadd V dL_law_2214 rfl ?_
  obtain ⟨t9, vs, r9, ha, ht, h0, h9, hv, hw⟩ := hw
  refine gi_iaload V ha ht h0 h9 hv dL_law_2215 rfl ?_
  refine g_aload_n V dL_law_2216 rfl rfl ?_
  refine g_iload V dL_law_2217 rfl rfl ?_
  refine g_iconst V (Int32.ofInt 3) dL_law_2219 rfl rfl ?_
  refine gi_iadd V dL_law_2220 rfl ?_
  obtain ⟨t9, vs, r10, ha, ht, h0, h9, hv, hw⟩ := hw
  refine gi_iaload V ha ht h0 h9 hv dL_law_2221 rfl ?_
  obtain ⟨hb, hw⟩ := hw
  obtain ⟨fb, hb⟩ := hb
  refine g_callV (C := RX7) (T := TX7) (N := 8) (st := []) V (k_X7_findLast hst hw) ww_6_183 ww_6_184 ww_6_185 ww_1_5 ww_6_186 hd_X7_findLast ⟨by decide, by decide⟩ rfl (by decide) hb rfl rfl (ga_cat rfl) dL_law_2222 (Nat.zero_le _) (Nat.zero_le _) rfl ga_none (ga_ki (fun r12 hp11 hw => ?_))
  refine g_istore (lv2 := [some (.ref v0), some (.ref v1), some (.ref v2), some (.ref v3), some (gi v4), some (gi r5), some (gi r12)]) V dL_law_2225 (by decide) rfl rfl rfl ?_
  refine g_aload_n V dL_law_2227 rfl rfl ?_
  obtain ⟨hb, hw⟩ := hw
  obtain ⟨fb, hb⟩ := hb
  refine g_callV (C := RX7) (T := TX7) (N := 8) (st := []) V (k_X7_thrown hst hw) ww_5_206 ww_5_207 ww_5_208 ww_1_5 ww_5_209 hd_X7_thrown ⟨by decide, by decide⟩ rfl (by decide) hb rfl rfl (ga_cat rfl) dL_law_2228 (Nat.zero_le _) (Nat.zero_le _) rfl ga_none (ga_ki (fun r14 hp13 hw => ?_))
  refine g_iload V dL_law_2231 rfl rfl ?_
  obtain ⟨hx0, hx1, hw⟩ := hw
  refine gi_icmp_eq V dL_law_2233 rfl rfl hx0 hx1 (fun q => ?_) (fun q => ?_)
  · have hw := ga_t q hw
    refine g_iload V dL_law_2238 rfl rfl ?_
    obtain ⟨hx0, hw⟩ := hw
    refine gi_if_ne V dL_law_2240 rfl rfl hx0 (fun q => ?_) (fun q => ?_)
    · have hw := ga_f q hw
      refine g_goto V dL_law_2256 rfl ?_
      refine g_less (bs := [true, true, true, true, true, false, false]) (lv2 := [some (.ref v0), some (.ref v1), some (.ref v2), some (.ref v3), some (gi v4), none, none]) rfl ?_
      exact hl_L_law_J3472 hst V hend K27 hK27 v0 v1 v2 v3 v4 hp13 c6 s7 hw
    · have hw := ga_t q hw
      refine g_aload_n V dL_law_2243 rfl rfl ?_
      obtain ⟨fs, r15, ha, hv, hw⟩ := hw
      refine g_getN (C := RX6) (T := TX6) (N := 2) (host := "WordgardenLaw") V 0 rfl hin_RX6 (by decide) (by decide) gn_22 rfl ha hv dL_law_2244 rfl ?_
      refine g_iload V dL_law_2247 rfl rfl ?_
      refine gi_i2l V dL_law_2249 rfl ?_
      refine gi_lcmp V dL_law_2250 rfl ?_
      obtain ⟨hx0, hw⟩ := hw
      refine gi_if_eq V dL_law_2251 rfl rfl hx0 (fun q => ?_) (fun q => ?_)
      · have hw := ga_t q hw
        refine g_goto V dL_law_2256 rfl ?_
        refine g_less (bs := [true, true, true, true, true, false, false]) (lv2 := [some (.ref v0), some (.ref v1), some (.ref v2), some (.ref v3), some (gi v4), none, none]) rfl ?_
        exact hl_L_law_J3472 hst V hend K27 hK27 v0 v1 v2 v3 v4 hp13 c6 s7 hw
      · have hw := ga_f q hw
        refine g_iconst V (Int32.ofInt 0) dL_law_2254 rfl rfl ?_
        exact hw.elim
  · have hw := ga_f q hw
    refine g_iconst V (Int32.ofInt 0) dL_law_2236 rfl rfl ?_
    exact hw.elim
theorem hl_L_law_J2097 {p : Program} {l : Launch} {e : Env} {s : State} {m : MethodId} {args : Array Value} {below : List Frame} {meth : Method} {c : Code} {G : gaG} {nm : String} {Z : State → Prop} (hst : l.stackTraces = false) (V : gaV p l s m args meth c G code RL 7 gaW ret nm) (hend : ∀ (pc : Nat) (lv : List (Option Value)) (h : gaH) (k j : Nat), decode code pc = .ok (.ireturn, 1) → gaP p l e room_1 s m args below meth c G 7 Z pc lv [gi 1] h k j) : ∀ (K27 : Nat → Nat → Nat → Nat → Int → gaH → Nat → Nat → Prop), ∀ (hK27 : ∀ (v0 : Nat) (v1 : Nat) (v2 : Nat) (v3 : Nat) (v4 : Int) (h : gaH) (kc ks : Nat), K27 v0 v1 v2 v3 v4 h kc ks → gaP p l e room_1 s m args below meth c G 7 Z 27 [some (.ref v0), some (.ref v1), some (.ref v2), some (.ref v3), some (gi v4), none, none] [] h kc ks), ∀ (v0 : Nat) (v1 : Nat) (v2 : Nat) (v3 : Nat) (v4 : Int) (h : gaH) (kc ks : Nat), w_L_law_J2097 G K27 v0 v1 v2 v3 v4 h kc ks → gaP p l e room_1 s m args below meth c G 7 Z 2097 [some (.ref v0), some (.ref v1), some (.ref v2), some (.ref v3), some (gi v4), none, none] [] h kc ks := by
  intro K27 hK27
  intro v0 v1 v2 v3 v4 h kc ks hw
  unfold w_L_law_J2097 at hw
  refine g_aload_n V dL_law_2097 rfl rfl ?_
  refine g_aload_n V dL_law_2098 rfl rfl ?_
  refine g_iload V dL_law_2099 rfl rfl ?_
  refine g_iconst V (Int32.ofInt 1) dL_law_2101 rfl rfl ?_
  refine gi_iadd V dL_law_2102 rfl ?_
  obtain ⟨t9, vs, r1, ha, ht, h0, h9, hv, hw⟩ := hw
  refine gi_iaload V ha ht h0 h9 hv dL_law_2103 rfl ?_
  refine g_aload_n V dL_law_2104 rfl rfl ?_
  refine g_iload V dL_law_2105 rfl rfl ?_
  refine g_iconst V (Int32.ofInt 2) dL_law_2107 rfl rfl ?_
  refine gi_iadd V dL_law_2108 rfl ?_
  obtain ⟨t9, vs, r2, ha, ht, h0, h9, hv, hw⟩ := hw
  refine gi_iaload V ha ht h0 h9 hv dL_law_2109 rfl ?_
  refine g_aload_n V dL_law_2110 rfl rfl ?_
  refine g_iload V dL_law_2111 rfl rfl ?_
  refine g_iconst V (Int32.ofInt 3) dL_law_2113 rfl rfl ?_
  refine gi_iadd V dL_law_2114 rfl ?_
  obtain ⟨t9, vs, r3, ha, ht, h0, h9, hv, hw⟩ := hw
  refine gi_iaload V ha ht h0 h9 hv dL_law_2115 rfl ?_
  refine g_aload_n V dL_law_2116 rfl rfl ?_
  obtain ⟨hk, hj, c6, s7, ec, es, hw⟩ := hw
  refine g_callSX (st := []) V (k_L_find hst hw) ww_5_49 ww_5_50 ww_1_0 ww_5_51 hd_L_find ⟨by decide, by decide⟩ rfl rfl (ga_cat rfl) dL_law_2117 hk hj rfl ga_none (ga_ki (fun r5 hp4 hw => ?_))
  refine ga_re ec es ?_
  refine g_istore (lv2 := [some (.ref v0), some (.ref v1), some (.ref v2), some (.ref v3), some (gi v4), some (gi r5), none]) V dL_law_2120 (by decide) rfl rfl rfl ?_
  refine g_aload_n V dL_law_2122 rfl rfl ?_
  refine g_aload_n V dL_law_2123 rfl rfl ?_
  refine g_iload V dL_law_2124 rfl rfl ?_
  refine g_iconst V (Int32.ofInt 1) dL_law_2126 rfl rfl ?_
  refine gi_iadd V dL_law_2127 rfl ?_
  obtain ⟨t9, vs, r8, ha, ht, h0, h9, hv, hw⟩ := hw
  refine gi_iaload V ha ht h0 h9 hv dL_law_2128 rfl ?_
  refine g_aload_n V dL_law_2129 rfl rfl ?_
  refine g_iload V dL_law_2130 rfl rfl ?_
  refine g_iconst V (Int32.ofInt 2) dL_law_2132 rfl rfl ?_
  refine gi_iadd V dL_law_2133 rfl ?_
  obtain ⟨t9, vs, r9, ha, ht, h0, h9, hv, hw⟩ := hw
  refine gi_iaload V ha ht h0 h9 hv dL_law_2134 rfl ?_
  refine g_aload_n V dL_law_2135 rfl rfl ?_
  refine g_iload V dL_law_2136 rfl rfl ?_
  refine g_iconst V (Int32.ofInt 3) dL_law_2138 rfl rfl ?_
  refine gi_iadd V dL_law_2139 rfl ?_
  obtain ⟨t9, vs, r10, ha, ht, h0, h9, hv, hw⟩ := hw
  refine gi_iaload V ha ht h0 h9 hv dL_law_2140 rfl ?_
  obtain ⟨hb, hw⟩ := hw
  obtain ⟨fb, hb⟩ := hb
  refine g_callV (C := RX7) (T := TX7) (N := 8) (st := []) V (k_X7_find hst hw) ww_6_179 ww_6_180 ww_6_181 ww_1_5 ww_6_182 hd_X7_find ⟨by decide, by decide⟩ rfl (by decide) hb rfl rfl (ga_cat rfl) dL_law_2141 (Nat.zero_le _) (Nat.zero_le _) rfl ga_none (ga_ki (fun r12 hp11 hw => ?_))
  refine g_istore (lv2 := [some (.ref v0), some (.ref v1), some (.ref v2), some (.ref v3), some (gi v4), some (gi r5), some (gi r12)]) V dL_law_2144 (by decide) rfl rfl rfl ?_
  refine g_aload_n V dL_law_2146 rfl rfl ?_
  obtain ⟨hb, hw⟩ := hw
  obtain ⟨fb, hb⟩ := hb
  refine g_callV (C := RX7) (T := TX7) (N := 8) (st := []) V (k_X7_thrown hst hw) ww_5_206 ww_5_207 ww_5_208 ww_1_5 ww_5_209 hd_X7_thrown ⟨by decide, by decide⟩ rfl (by decide) hb rfl rfl (ga_cat rfl) dL_law_2147 (Nat.zero_le _) (Nat.zero_le _) rfl ga_none (ga_ki (fun r14 hp13 hw => ?_))
  refine g_iload V dL_law_2150 rfl rfl ?_
  obtain ⟨hx0, hx1, hw⟩ := hw
  refine gi_icmp_eq V dL_law_2152 rfl rfl hx0 hx1 (fun q => ?_) (fun q => ?_)
  · have hw := ga_t q hw
    refine g_iload V dL_law_2157 rfl rfl ?_
    obtain ⟨hx0, hw⟩ := hw
    refine gi_if_ne V dL_law_2159 rfl rfl hx0 (fun q => ?_) (fun q => ?_)
    · have hw := ga_f q hw
      refine g_goto V dL_law_2175 rfl ?_
      refine g_less (bs := [true, true, true, true, true, false, false]) (lv2 := [some (.ref v0), some (.ref v1), some (.ref v2), some (.ref v3), some (gi v4), none, none]) rfl ?_
      exact hl_L_law_J3472 hst V hend K27 hK27 v0 v1 v2 v3 v4 hp13 c6 s7 hw
    · have hw := ga_t q hw
      refine g_aload_n V dL_law_2162 rfl rfl ?_
      obtain ⟨fs, r15, ha, hv, hw⟩ := hw
      refine g_getN (C := RX6) (T := TX6) (N := 2) (host := "WordgardenLaw") V 0 rfl hin_RX6 (by decide) (by decide) gn_22 rfl ha hv dL_law_2163 rfl ?_
      refine g_iload V dL_law_2166 rfl rfl ?_
      refine gi_i2l V dL_law_2168 rfl ?_
      refine gi_lcmp V dL_law_2169 rfl ?_
      obtain ⟨hx0, hw⟩ := hw
      refine gi_if_eq V dL_law_2170 rfl rfl hx0 (fun q => ?_) (fun q => ?_)
      · have hw := ga_t q hw
        refine g_goto V dL_law_2175 rfl ?_
        refine g_less (bs := [true, true, true, true, true, false, false]) (lv2 := [some (.ref v0), some (.ref v1), some (.ref v2), some (.ref v3), some (gi v4), none, none]) rfl ?_
        exact hl_L_law_J3472 hst V hend K27 hK27 v0 v1 v2 v3 v4 hp13 c6 s7 hw
      · have hw := ga_f q hw
        refine g_iconst V (Int32.ofInt 0) dL_law_2173 rfl rfl ?_
        exact hw.elim
  · have hw := ga_f q hw
    refine g_iconst V (Int32.ofInt 0) dL_law_2155 rfl rfl ?_
    exact hw.elim
theorem hl_L_law_J2060 {p : Program} {l : Launch} {e : Env} {s : State} {m : MethodId} {args : Array Value} {below : List Frame} {meth : Method} {c : Code} {G : gaG} {nm : String} {Z : State → Prop} (hst : l.stackTraces = false) (V : gaV p l s m args meth c G code RL 7 gaW ret nm) (hend : ∀ (pc : Nat) (lv : List (Option Value)) (h : gaH) (k j : Nat), decode code pc = .ok (.ireturn, 1) → gaP p l e room_1 s m args below meth c G 7 Z pc lv [gi 1] h k j) : ∀ (K27 : Nat → Nat → Nat → Nat → Int → gaH → Nat → Nat → Prop), ∀ (hK27 : ∀ (v0 : Nat) (v1 : Nat) (v2 : Nat) (v3 : Nat) (v4 : Int) (h : gaH) (kc ks : Nat), K27 v0 v1 v2 v3 v4 h kc ks → gaP p l e room_1 s m args below meth c G 7 Z 27 [some (.ref v0), some (.ref v1), some (.ref v2), some (.ref v3), some (gi v4), none, none] [] h kc ks), ∀ (v0 : Nat) (v1 : Nat) (v2 : Nat) (v3 : Nat) (v4 : Int) (v5 : Int) (t0 : Nat) (t1 : Int) (t2 : Int) (h : gaH) (kc ks : Nat), w_L_law_J2060 G K27 v0 v1 v2 v3 v4 v5 t0 t1 t2 h kc ks → gaP p l e room_1 s m args below meth c G 7 Z 2060 [some (.ref v0), some (.ref v1), some (.ref v2), some (.ref v3), some (gi v4), some (gi v5), none] [gi t2, gi t1, .ref t0] h kc ks := by
  intro K27 hK27
  intro v0 v1 v2 v3 v4 v5 t0 t1 t2 h kc ks hw
  unfold w_L_law_J2060 at hw
  obtain ⟨hb, hw⟩ := hw
  obtain ⟨fb, hb⟩ := hb
  refine g_callV (C := RX7) (T := TX7) (N := 8) (st := []) V (k_X7_count hst hw) ww_6_175 ww_6_176 ww_6_177 ww_1_5 ww_6_178 hd_X7_count ⟨by decide, by decide⟩ rfl (by decide) hb rfl rfl (ga_cat rfl) dL_law_2060 (Nat.zero_le _) (Nat.zero_le _) rfl ga_none (ga_ki (fun r2 hp1 hw => ?_))
  refine g_istore (lv2 := [some (.ref v0), some (.ref v1), some (.ref v2), some (.ref v3), some (gi v4), some (gi v5), some (gi r2)]) V dL_law_2063 (by decide) rfl rfl rfl ?_
  refine g_aload_n V dL_law_2065 rfl rfl ?_
  obtain ⟨hb, hw⟩ := hw
  obtain ⟨fb, hb⟩ := hb
  refine g_callV (C := RX7) (T := TX7) (N := 8) (st := []) V (k_X7_thrown hst hw) ww_5_206 ww_5_207 ww_5_208 ww_1_5 ww_5_209 hd_X7_thrown ⟨by decide, by decide⟩ rfl (by decide) hb rfl rfl (ga_cat rfl) dL_law_2066 (Nat.zero_le _) (Nat.zero_le _) rfl ga_none (ga_ki (fun r4 hp3 hw => ?_))
  refine g_iload V dL_law_2069 rfl rfl ?_
  obtain ⟨hx0, hx1, hw⟩ := hw
  refine gi_icmp_eq V dL_law_2071 rfl rfl hx0 hx1 (fun q => ?_) (fun q => ?_)
  · have hw := ga_t q hw
    refine g_iload V dL_law_2076 rfl rfl ?_
    obtain ⟨hx0, hw⟩ := hw
    refine gi_if_ne V dL_law_2078 rfl rfl hx0 (fun q => ?_) (fun q => ?_)
    · have hw := ga_f q hw
      refine g_goto V dL_law_2094 rfl ?_
      refine g_less (bs := [true, true, true, true, true, false, false]) (lv2 := [some (.ref v0), some (.ref v1), some (.ref v2), some (.ref v3), some (gi v4), none, none]) rfl ?_
      exact hl_L_law_J3472 hst V hend K27 hK27 v0 v1 v2 v3 v4 hp3 kc ks hw
    · have hw := ga_t q hw
      refine g_aload_n V dL_law_2081 rfl rfl ?_
      obtain ⟨fs, r5, ha, hv, hw⟩ := hw
      refine g_getN (C := RX6) (T := TX6) (N := 2) (host := "WordgardenLaw") V 0 rfl hin_RX6 (by decide) (by decide) gn_22 rfl ha hv dL_law_2082 rfl ?_
      refine g_iload V dL_law_2085 rfl rfl ?_
      refine gi_i2l V dL_law_2087 rfl ?_
      refine gi_lcmp V dL_law_2088 rfl ?_
      obtain ⟨hx0, hw⟩ := hw
      refine gi_if_eq V dL_law_2089 rfl rfl hx0 (fun q => ?_) (fun q => ?_)
      · have hw := ga_t q hw
        refine g_goto V dL_law_2094 rfl ?_
        refine g_less (bs := [true, true, true, true, true, false, false]) (lv2 := [some (.ref v0), some (.ref v1), some (.ref v2), some (.ref v3), some (gi v4), none, none]) rfl ?_
        exact hl_L_law_J3472 hst V hend K27 hK27 v0 v1 v2 v3 v4 hp3 kc ks hw
      · have hw := ga_f q hw
        refine g_iconst V (Int32.ofInt 0) dL_law_2092 rfl rfl ?_
        exact hw.elim
  · have hw := ga_f q hw
    refine g_iconst V (Int32.ofInt 0) dL_law_2074 rfl rfl ?_
    exact hw.elim
theorem hl_L_law_J2033 {p : Program} {l : Launch} {e : Env} {s : State} {m : MethodId} {args : Array Value} {below : List Frame} {meth : Method} {c : Code} {G : gaG} {nm : String} {Z : State → Prop} (hst : l.stackTraces = false) (V : gaV p l s m args meth c G code RL 7 gaW ret nm) (hend : ∀ (pc : Nat) (lv : List (Option Value)) (h : gaH) (k j : Nat), decode code pc = .ok (.ireturn, 1) → gaP p l e room_1 s m args below meth c G 7 Z pc lv [gi 1] h k j) : ∀ (K27 : Nat → Nat → Nat → Nat → Int → gaH → Nat → Nat → Prop), ∀ (hK27 : ∀ (v0 : Nat) (v1 : Nat) (v2 : Nat) (v3 : Nat) (v4 : Int) (h : gaH) (kc ks : Nat), K27 v0 v1 v2 v3 v4 h kc ks → gaP p l e room_1 s m args below meth c G 7 Z 27 [some (.ref v0), some (.ref v1), some (.ref v2), some (.ref v3), some (gi v4), none, none] [] h kc ks), ∀ (v0 : Nat) (v1 : Nat) (v2 : Nat) (v3 : Nat) (v4 : Int) (t0 : Nat) (t1 : Int) (t2 : Int) (h : gaH) (kc ks : Nat), w_L_law_J2033 G K27 v0 v1 v2 v3 v4 t0 t1 t2 h kc ks → gaP p l e room_1 s m args below meth c G 7 Z 2033 [some (.ref v0), some (.ref v1), some (.ref v2), some (.ref v3), some (gi v4), none, none] [gi t2, gi t1, .ref t0] h kc ks := by
  intro K27 hK27
  intro v0 v1 v2 v3 v4 t0 t1 t2 h kc ks hw
  unfold w_L_law_J2033 at hw
  refine g_aload_n V dL_law_2033 rfl rfl ?_
  obtain ⟨hk, hj, c3, s4, ec, es, hw⟩ := hw
  refine g_callSX (st := []) V (k_L_count hst hw) ww_5_45 ww_5_46 ww_1_0 ww_5_47 hd_L_count ⟨by decide, by decide⟩ rfl rfl (ga_cat rfl) dL_law_2034 hk hj rfl ga_none (ga_ki (fun r2 hp1 hw => ?_))
  refine ga_re ec es ?_
  refine g_istore (lv2 := [some (.ref v0), some (.ref v1), some (.ref v2), some (.ref v3), some (gi v4), some (gi r2), none]) V dL_law_2037 (by decide) rfl rfl rfl ?_
  refine g_aload_n V dL_law_2039 rfl rfl ?_
  refine g_aload_n V dL_law_2040 rfl rfl ?_
  refine g_iload V dL_law_2041 rfl rfl ?_
  refine g_iconst V (Int32.ofInt 1) dL_law_2043 rfl rfl ?_
  refine gi_iadd V dL_law_2044 rfl ?_
  obtain ⟨t9, vs, r5, ha, ht, h0, h9, hv, hw⟩ := hw
  refine gi_iaload V ha ht h0 h9 hv dL_law_2045 rfl ?_
  refine g_aload_n V dL_law_2046 rfl rfl ?_
  refine g_iload V dL_law_2047 rfl rfl ?_
  refine g_iconst V (Int32.ofInt 2) dL_law_2049 rfl rfl ?_
  refine gi_iadd V dL_law_2050 rfl ?_
  obtain ⟨t9, vs, r6, ha, ht, h0, h9, hv, hw⟩ := hw
  refine gi_iaload V ha ht h0 h9 hv dL_law_2051 rfl ?_
  obtain ⟨hx0, hw⟩ := hw
  refine gi_if_eq V dL_law_2052 rfl rfl hx0 (fun q => ?_) (fun q => ?_)
  · have hw := ga_t q hw
    refine g_iconst V (Int32.ofInt 0) dL_law_2059 rfl rfl ?_
    exact hl_L_law_J2060 hst V hend K27 hK27 v0 v1 v2 v3 v4 r2 v2 r5 0 hp1 c3 s4 hw
  · have hw := ga_f q hw
    refine g_iconst V (Int32.ofInt 1) dL_law_2055 rfl rfl ?_
    refine g_goto V dL_law_2056 rfl ?_
    exact hl_L_law_J2060 hst V hend K27 hK27 v0 v1 v2 v3 v4 r2 v2 r5 1 hp1 c3 s4 hw
theorem hl_L_law_J2012 {p : Program} {l : Launch} {e : Env} {s : State} {m : MethodId} {args : Array Value} {below : List Frame} {meth : Method} {c : Code} {G : gaG} {nm : String} {Z : State → Prop} (hst : l.stackTraces = false) (V : gaV p l s m args meth c G code RL 7 gaW ret nm) (hend : ∀ (pc : Nat) (lv : List (Option Value)) (h : gaH) (k j : Nat), decode code pc = .ok (.ireturn, 1) → gaP p l e room_1 s m args below meth c G 7 Z pc lv [gi 1] h k j) : ∀ (K27 : Nat → Nat → Nat → Nat → Int → gaH → Nat → Nat → Prop), ∀ (hK27 : ∀ (v0 : Nat) (v1 : Nat) (v2 : Nat) (v3 : Nat) (v4 : Int) (h : gaH) (kc ks : Nat), K27 v0 v1 v2 v3 v4 h kc ks → gaP p l e room_1 s m args below meth c G 7 Z 27 [some (.ref v0), some (.ref v1), some (.ref v2), some (.ref v3), some (gi v4), none, none] [] h kc ks), ∀ (v0 : Nat) (v1 : Nat) (v2 : Nat) (v3 : Nat) (v4 : Int) (h : gaH) (kc ks : Nat), w_L_law_J2012 G K27 v0 v1 v2 v3 v4 h kc ks → gaP p l e room_1 s m args below meth c G 7 Z 2012 [some (.ref v0), some (.ref v1), some (.ref v2), some (.ref v3), some (gi v4), none, none] [] h kc ks := by
  intro K27 hK27
  intro v0 v1 v2 v3 v4 h kc ks hw
  unfold w_L_law_J2012 at hw
  refine g_aload_n V dL_law_2012 rfl rfl ?_
  refine g_aload_n V dL_law_2013 rfl rfl ?_
  refine g_iload V dL_law_2014 rfl rfl ?_
  refine g_iconst V (Int32.ofInt 1) dL_law_2016 rfl rfl ?_
  refine gi_iadd V dL_law_2017 rfl ?_
  obtain ⟨t9, vs, r1, ha, ht, h0, h9, hv, hw⟩ := hw
  refine gi_iaload V ha ht h0 h9 hv dL_law_2018 rfl ?_
  refine g_aload_n V dL_law_2019 rfl rfl ?_
  refine g_iload V dL_law_2020 rfl rfl ?_
  refine g_iconst V (Int32.ofInt 2) dL_law_2022 rfl rfl ?_
  refine gi_iadd V dL_law_2023 rfl ?_
  obtain ⟨t9, vs, r2, ha, ht, h0, h9, hv, hw⟩ := hw
  refine gi_iaload V ha ht h0 h9 hv dL_law_2024 rfl ?_
  obtain ⟨hx0, hw⟩ := hw
  refine gi_if_eq V dL_law_2025 rfl rfl hx0 (fun q => ?_) (fun q => ?_)
  · have hw := ga_t q hw
    refine g_iconst V (Int32.ofInt 0) dL_law_2032 rfl rfl ?_
    exact hl_L_law_J2033 hst V hend K27 hK27 v0 v1 v2 v3 v4 v1 r1 0 h kc ks hw
  · have hw := ga_f q hw
    refine g_iconst V (Int32.ofInt 1) dL_law_2028 rfl rfl ?_
    refine g_goto V dL_law_2029 rfl ?_
    exact hl_L_law_J2033 hst V hend K27 hK27 v0 v1 v2 v3 v4 v1 r1 1 h kc ks hw
theorem hl_L_law_J1954 {p : Program} {l : Launch} {e : Env} {s : State} {m : MethodId} {args : Array Value} {below : List Frame} {meth : Method} {c : Code} {G : gaG} {nm : String} {Z : State → Prop} (hst : l.stackTraces = false) (V : gaV p l s m args meth c G code RL 7 gaW ret nm) (hend : ∀ (pc : Nat) (lv : List (Option Value)) (h : gaH) (k j : Nat), decode code pc = .ok (.ireturn, 1) → gaP p l e room_1 s m args below meth c G 7 Z pc lv [gi 1] h k j) : ∀ (K27 : Nat → Nat → Nat → Nat → Int → gaH → Nat → Nat → Prop), ∀ (hK27 : ∀ (v0 : Nat) (v1 : Nat) (v2 : Nat) (v3 : Nat) (v4 : Int) (h : gaH) (kc ks : Nat), K27 v0 v1 v2 v3 v4 h kc ks → gaP p l e room_1 s m args below meth c G 7 Z 27 [some (.ref v0), some (.ref v1), some (.ref v2), some (.ref v3), some (gi v4), none, none] [] h kc ks), ∀ (v0 : Nat) (v1 : Nat) (v2 : Nat) (v3 : Nat) (v4 : Int) (h : gaH) (kc ks : Nat), w_L_law_J1954 G K27 v0 v1 v2 v3 v4 h kc ks → gaP p l e room_1 s m args below meth c G 7 Z 1954 [some (.ref v0), some (.ref v1), some (.ref v2), some (.ref v3), some (gi v4), none, none] [] h kc ks := by
  intro K27 hK27
  intro v0 v1 v2 v3 v4 h kc ks hw
  unfold w_L_law_J1954 at hw
  refine g_aload_n V dL_law_1954 rfl rfl ?_
  refine g_aload_n V dL_law_1955 rfl rfl ?_
  refine g_iload V dL_law_1956 rfl rfl ?_
  refine g_iconst V (Int32.ofInt 1) dL_law_1958 rfl rfl ?_
  refine gi_iadd V dL_law_1959 rfl ?_
  obtain ⟨t9, vs, r1, ha, ht, h0, h9, hv, hw⟩ := hw
  refine gi_iaload V ha ht h0 h9 hv dL_law_1960 rfl ?_
  refine g_aload_n V dL_law_1961 rfl rfl ?_
  obtain ⟨hk, hj, c4, s5, ec, es, hw⟩ := hw
  refine g_callSX (st := []) V (k_L_text hst hw) ww_4_15 ww_4_16 ww_1_0 ww_4_17 hd_L_text ⟨by decide, by decide⟩ rfl rfl (ga_cat rfl) dL_law_1962 hk hj rfl ga_none (ga_ki (fun r3 hp2 hw => ?_))
  refine ga_re ec es ?_
  refine g_istore (lv2 := [some (.ref v0), some (.ref v1), some (.ref v2), some (.ref v3), some (gi v4), some (gi r3), none]) V dL_law_1965 (by decide) rfl rfl rfl ?_
  refine g_aload_n V dL_law_1967 rfl rfl ?_
  refine g_aload_n V dL_law_1968 rfl rfl ?_
  refine g_iload V dL_law_1969 rfl rfl ?_
  refine g_iconst V (Int32.ofInt 1) dL_law_1971 rfl rfl ?_
  refine gi_iadd V dL_law_1972 rfl ?_
  obtain ⟨t9, vs, r6, ha, ht, h0, h9, hv, hw⟩ := hw
  refine gi_iaload V ha ht h0 h9 hv dL_law_1973 rfl ?_
  obtain ⟨hb, hw⟩ := hw
  obtain ⟨fb, hb⟩ := hb
  obtain ⟨hk, hj, c9, s10, ec, es, hw⟩ := hw
  refine g_callV (C := RX7) (T := TX7) (N := 8) (st := []) V (k_X7_text hst hw) ww_6_163 ww_6_164 ww_6_165 ww_1_5 ww_6_166 hd_X7_text ⟨by decide, by decide⟩ rfl (by decide) hb rfl rfl (ga_cat rfl) dL_law_1974 hk hj rfl ga_none (ga_ka (fun r8 hp7 hw => ?_))
  refine ga_re ec es ?_
  refine g_astore (lv2 := [some (.ref v0), some (.ref v1), some (.ref v2), some (.ref v3), some (gi v4), some (gi r3), some (.ref r8)]) V dL_law_1977 (by decide) rfl rfl rfl ?_
  refine g_aload_n V dL_law_1979 rfl rfl ?_
  obtain ⟨hb, hw⟩ := hw
  obtain ⟨fb, hb⟩ := hb
  refine g_callV (C := RX7) (T := TX7) (N := 8) (st := []) V (k_X7_thrown hst hw) ww_5_206 ww_5_207 ww_5_208 ww_1_5 ww_5_209 hd_X7_thrown ⟨by decide, by decide⟩ rfl (by decide) hb rfl rfl (ga_cat rfl) dL_law_1980 (Nat.zero_le _) (Nat.zero_le _) rfl ga_none (ga_ki (fun r12 hp11 hw => ?_))
  refine g_iload V dL_law_1983 rfl rfl ?_
  obtain ⟨hx0, hx1, hw⟩ := hw
  refine gi_icmp_eq V dL_law_1985 rfl rfl hx0 hx1 (fun q => ?_) (fun q => ?_)
  · have hw := ga_t q hw
    refine g_iload V dL_law_1990 rfl rfl ?_
    obtain ⟨hx0, hw⟩ := hw
    refine gi_if_ne V dL_law_1992 rfl rfl hx0 (fun q => ?_) (fun q => ?_)
    · have hw := ga_f q hw
      refine g_goto V dL_law_2009 rfl ?_
      refine g_less (bs := [true, true, true, true, true, false, false]) (lv2 := [some (.ref v0), some (.ref v1), some (.ref v2), some (.ref v3), some (gi v4), none, none]) rfl ?_
      exact hl_L_law_J3472 hst V hend K27 hK27 v0 v1 v2 v3 v4 hp11 c9 s10 hw
    · have hw := ga_t q hw
      refine g_aload_n V dL_law_1995 rfl rfl ?_
      obtain ⟨fs, r13, ha, hv, hw⟩ := hw
      refine g_getN (C := RX6) (T := TX6) (N := 2) (host := "WordgardenLaw") V 1 rfl hin_RX6 (by decide) (by decide) gn_23 rfl ha hv dL_law_1996 rfl ?_
      refine g_aload V dL_law_1999 rfl rfl ?_
      obtain ⟨hb, hw⟩ := hw
      obtain ⟨fb, hb⟩ := hb
      refine g_callV (C := RJ0) (T := TJ0) (N := 4) (st := []) V (k_J0_equals_9ea2d hst hw) ww_7_78 ww_7_79 ww_7_80 ww_1_19 ww_7_81 hd_J0_equals_9ea2d ⟨by decide, by decide⟩ rfl (by decide) hb rfl rfl (ga_cat rfl) dL_law_2001 (Nat.zero_le _) (Nat.zero_le _) rfl ga_none (ga_ki (fun r15 hp14 hw => ?_))
      obtain ⟨hx0, hw⟩ := hw
      refine gi_if_ne V dL_law_2004 rfl rfl hx0 (fun q => ?_) (fun q => ?_)
      · have hw := ga_f q hw
        refine g_goto V dL_law_2009 rfl ?_
        refine g_less (bs := [true, true, true, true, true, false, false]) (lv2 := [some (.ref v0), some (.ref v1), some (.ref v2), some (.ref v3), some (gi v4), none, none]) rfl ?_
        exact hl_L_law_J3472 hst V hend K27 hK27 v0 v1 v2 v3 v4 hp14 c9 s10 hw
      · have hw := ga_t q hw
        refine g_iconst V (Int32.ofInt 0) dL_law_2007 rfl rfl ?_
        exact hw.elim
  · have hw := ga_f q hw
    refine g_iconst V (Int32.ofInt 0) dL_law_1988 rfl rfl ?_
    exact hw.elim
theorem hl_L_law_J1945 {p : Program} {l : Launch} {e : Env} {s : State} {m : MethodId} {args : Array Value} {below : List Frame} {meth : Method} {c : Code} {G : gaG} {nm : String} {Z : State → Prop} (hst : l.stackTraces = false) (V : gaV p l s m args meth c G code RL 7 gaW ret nm) (hend : ∀ (pc : Nat) (lv : List (Option Value)) (h : gaH) (k j : Nat), decode code pc = .ok (.ireturn, 1) → gaP p l e room_1 s m args below meth c G 7 Z pc lv [gi 1] h k j) : ∀ (K27 : Nat → Nat → Nat → Nat → Int → gaH → Nat → Nat → Prop), ∀ (hK27 : ∀ (v0 : Nat) (v1 : Nat) (v2 : Nat) (v3 : Nat) (v4 : Int) (h : gaH) (kc ks : Nat), K27 v0 v1 v2 v3 v4 h kc ks → gaP p l e room_1 s m args below meth c G 7 Z 27 [some (.ref v0), some (.ref v1), some (.ref v2), some (.ref v3), some (gi v4), none, none] [] h kc ks), ∀ (v0 : Nat) (v1 : Nat) (v2 : Nat) (v3 : Nat) (v4 : Int) (t0 : Int64) (t1 : Int64) (h : gaH) (kc ks : Nat), w_L_law_J1945 G K27 v0 v1 v2 v3 v4 t0 t1 h kc ks → gaP p l e room_1 s m args below meth c G 7 Z 1945 [some (.ref v0), some (.ref v1), some (.ref v2), some (.ref v3), some (gi v4), none, none] [.long t1, .long t0] h kc ks := by
  intro K27 hK27
  intro v0 v1 v2 v3 v4 t0 t1 h kc ks hw
  unfold w_L_law_J1945 at hw
  refine gi_lcmp V dL_law_1945 rfl ?_
  obtain ⟨hx0, hw⟩ := hw
  refine gi_if_eq V dL_law_1946 rfl rfl hx0 (fun q => ?_) (fun q => ?_)
  · have hw := ga_t q hw
    refine g_goto V dL_law_1951 rfl ?_
    exact hl_L_law_J3472 hst V hend K27 hK27 v0 v1 v2 v3 v4 h kc ks hw
  · have hw := ga_f q hw
    refine g_iconst V (Int32.ofInt 0) dL_law_1949 rfl rfl ?_
    exact hw.elim
theorem hl_L_law_J1878 {p : Program} {l : Launch} {e : Env} {s : State} {m : MethodId} {args : Array Value} {below : List Frame} {meth : Method} {c : Code} {G : gaG} {nm : String} {Z : State → Prop} (hst : l.stackTraces = false) (V : gaV p l s m args meth c G code RL 7 gaW ret nm) (hend : ∀ (pc : Nat) (lv : List (Option Value)) (h : gaH) (k j : Nat), decode code pc = .ok (.ireturn, 1) → gaP p l e room_1 s m args below meth c G 7 Z pc lv [gi 1] h k j) : ∀ (K27 : Nat → Nat → Nat → Nat → Int → gaH → Nat → Nat → Prop), ∀ (hK27 : ∀ (v0 : Nat) (v1 : Nat) (v2 : Nat) (v3 : Nat) (v4 : Int) (h : gaH) (kc ks : Nat), K27 v0 v1 v2 v3 v4 h kc ks → gaP p l e room_1 s m args below meth c G 7 Z 27 [some (.ref v0), some (.ref v1), some (.ref v2), some (.ref v3), some (gi v4), none, none] [] h kc ks), ∀ (v0 : Nat) (v1 : Nat) (v2 : Nat) (v3 : Nat) (v4 : Int) (h : gaH) (kc ks : Nat), w_L_law_J1878 G K27 v0 v1 v2 v3 v4 h kc ks → gaP p l e room_1 s m args below meth c G 7 Z 1878 [some (.ref v0), some (.ref v1), some (.ref v2), some (.ref v3), some (gi v4), none, none] [] h kc ks := by
  intro K27 hK27
  intro v0 v1 v2 v3 v4 h kc ks hw
  unfold w_L_law_J1878 at hw
  refine g_aload_n V dL_law_1878 rfl rfl ?_
  refine g_aload_n V dL_law_1879 rfl rfl ?_
  refine g_iload V dL_law_1880 rfl rfl ?_
  refine g_iconst V (Int32.ofInt 1) dL_law_1882 rfl rfl ?_
  refine gi_iadd V dL_law_1883 rfl ?_
  obtain ⟨t9, vs, r1, ha, ht, h0, h9, hv, hw⟩ := hw
  refine gi_iaload V ha ht h0 h9 hv dL_law_1884 rfl ?_
  refine g_aload_n V dL_law_1885 rfl rfl ?_
  refine g_iload V dL_law_1886 rfl rfl ?_
  refine g_iconst V (Int32.ofInt 2) dL_law_1888 rfl rfl ?_
  refine gi_iadd V dL_law_1889 rfl ?_
  obtain ⟨t9, vs, r2, ha, ht, h0, h9, hv, hw⟩ := hw
  refine gi_iaload V ha ht h0 h9 hv dL_law_1890 rfl ?_
  refine g_aload_n V dL_law_1891 rfl rfl ?_
  obtain ⟨hk, hj, c5, s6, ec, es, hw⟩ := hw
  refine g_callSX (st := []) V (k_L_isB hst hw) ww_4_8 ww_4_9 ww_1_0 ww_4_10 hd_L_isB ⟨by decide, by decide⟩ rfl rfl (ga_cat rfl) dL_law_1892 hk hj rfl ga_none (ga_ki (fun r4 hp3 hw => ?_))
  refine ga_re ec es ?_
  refine g_istore (lv2 := [some (.ref v0), some (.ref v1), some (.ref v2), some (.ref v3), some (gi v4), some (gi r4), none]) V dL_law_1895 (by decide) rfl rfl rfl ?_
  refine g_aload_n V dL_law_1897 rfl rfl ?_
  refine g_aload_n V dL_law_1898 rfl rfl ?_
  refine g_iload V dL_law_1899 rfl rfl ?_
  refine g_iconst V (Int32.ofInt 1) dL_law_1901 rfl rfl ?_
  refine gi_iadd V dL_law_1902 rfl ?_
  obtain ⟨t9, vs, r7, ha, ht, h0, h9, hv, hw⟩ := hw
  refine gi_iaload V ha ht h0 h9 hv dL_law_1903 rfl ?_
  refine g_aload_n V dL_law_1904 rfl rfl ?_
  refine g_iload V dL_law_1905 rfl rfl ?_
  refine g_iconst V (Int32.ofInt 2) dL_law_1907 rfl rfl ?_
  refine gi_iadd V dL_law_1908 rfl ?_
  obtain ⟨t9, vs, r8, ha, ht, h0, h9, hv, hw⟩ := hw
  refine gi_iaload V ha ht h0 h9 hv dL_law_1909 rfl ?_
  obtain ⟨hb, hw⟩ := hw
  obtain ⟨fb, hb⟩ := hb
  refine g_callV (C := RX7) (T := TX7) (N := 8) (st := []) V (k_X7_isB hst hw) ww_6_159 ww_6_160 ww_6_161 ww_1_5 ww_6_162 hd_X7_isB ⟨by decide, by decide⟩ rfl (by decide) hb rfl rfl (ga_cat rfl) dL_law_1910 (Nat.zero_le _) (Nat.zero_le _) rfl ga_none (ga_ki (fun r10 hp9 hw => ?_))
  refine g_istore (lv2 := [some (.ref v0), some (.ref v1), some (.ref v2), some (.ref v3), some (gi v4), some (gi r4), some (gi r10)]) V dL_law_1913 (by decide) rfl rfl rfl ?_
  refine g_aload_n V dL_law_1915 rfl rfl ?_
  obtain ⟨hb, hw⟩ := hw
  obtain ⟨fb, hb⟩ := hb
  refine g_callV (C := RX7) (T := TX7) (N := 8) (st := []) V (k_X7_thrown hst hw) ww_5_206 ww_5_207 ww_5_208 ww_1_5 ww_5_209 hd_X7_thrown ⟨by decide, by decide⟩ rfl (by decide) hb rfl rfl (ga_cat rfl) dL_law_1916 (Nat.zero_le _) (Nat.zero_le _) rfl ga_none (ga_ki (fun r12 hp11 hw => ?_))
  refine g_iload V dL_law_1919 rfl rfl ?_
  obtain ⟨hx0, hx1, hw⟩ := hw
  refine gi_icmp_eq V dL_law_1921 rfl rfl hx0 hx1 (fun q => ?_) (fun q => ?_)
  · have hw := ga_t q hw
    refine g_iload V dL_law_1926 rfl rfl ?_
    obtain ⟨hx0, hw⟩ := hw
    refine gi_if_ne V dL_law_1928 rfl rfl hx0 (fun q => ?_) (fun q => ?_)
    · have hw := ga_f q hw
      refine g_goto V dL_law_1951 rfl ?_
      refine g_less (bs := [true, true, true, true, true, false, false]) (lv2 := [some (.ref v0), some (.ref v1), some (.ref v2), some (.ref v3), some (gi v4), none, none]) rfl ?_
      exact hl_L_law_J3472 hst V hend K27 hK27 v0 v1 v2 v3 v4 hp11 c5 s6 hw
    · have hw := ga_t q hw
      refine g_aload_n V dL_law_1931 rfl rfl ?_
      obtain ⟨fs, r13, ha, hv, hw⟩ := hw
      refine g_getN (C := RX6) (T := TX6) (N := 2) (host := "WordgardenLaw") V 0 rfl hin_RX6 (by decide) (by decide) gn_22 rfl ha hv dL_law_1932 rfl ?_
      refine g_iload V dL_law_1935 rfl rfl ?_
      obtain ⟨hx0, hw⟩ := hw
      refine gi_if_eq V dL_law_1937 rfl rfl hx0 (fun q => ?_) (fun q => ?_)
      · have hw := ga_t q hw
        refine g_lconst V (0 : Int64) dL_law_1944 rfl rfl ?_
        refine g_less (bs := [true, true, true, true, true, false, false]) (lv2 := [some (.ref v0), some (.ref v1), some (.ref v2), some (.ref v3), some (gi v4), none, none]) rfl ?_
        exact hl_L_law_J1945 hst V hend K27 hK27 v0 v1 v2 v3 v4 r13 (0 : Int64) hp11 c5 s6 hw
      · have hw := ga_f q hw
        refine g_lconst V (1 : Int64) dL_law_1940 rfl rfl ?_
        refine g_goto V dL_law_1941 rfl ?_
        refine g_less (bs := [true, true, true, true, true, false, false]) (lv2 := [some (.ref v0), some (.ref v1), some (.ref v2), some (.ref v3), some (gi v4), none, none]) rfl ?_
        exact hl_L_law_J1945 hst V hend K27 hK27 v0 v1 v2 v3 v4 r13 (1 : Int64) hp11 c5 s6 hw
  · have hw := ga_f q hw
    refine g_iconst V (Int32.ofInt 0) dL_law_1924 rfl rfl ?_
    exact hw.elim
theorem hl_L_law_J1821 {p : Program} {l : Launch} {e : Env} {s : State} {m : MethodId} {args : Array Value} {below : List Frame} {meth : Method} {c : Code} {G : gaG} {nm : String} {Z : State → Prop} (hst : l.stackTraces = false) (V : gaV p l s m args meth c G code RL 7 gaW ret nm) (hend : ∀ (pc : Nat) (lv : List (Option Value)) (h : gaH) (k j : Nat), decode code pc = .ok (.ireturn, 1) → gaP p l e room_1 s m args below meth c G 7 Z pc lv [gi 1] h k j) : ∀ (K27 : Nat → Nat → Nat → Nat → Int → gaH → Nat → Nat → Prop), ∀ (hK27 : ∀ (v0 : Nat) (v1 : Nat) (v2 : Nat) (v3 : Nat) (v4 : Int) (h : gaH) (kc ks : Nat), K27 v0 v1 v2 v3 v4 h kc ks → gaP p l e room_1 s m args below meth c G 7 Z 27 [some (.ref v0), some (.ref v1), some (.ref v2), some (.ref v3), some (gi v4), none, none] [] h kc ks), ∀ (v0 : Nat) (v1 : Nat) (v2 : Nat) (v3 : Nat) (v4 : Int) (h : gaH) (kc ks : Nat), w_L_law_J1821 G K27 v0 v1 v2 v3 v4 h kc ks → gaP p l e room_1 s m args below meth c G 7 Z 1821 [some (.ref v0), some (.ref v1), some (.ref v2), some (.ref v3), some (gi v4), none, none] [] h kc ks := by
  intro K27 hK27
  intro v0 v1 v2 v3 v4 h kc ks hw
  unfold w_L_law_J1821 at hw
  refine g_aload_n V dL_law_1821 rfl rfl ?_
  refine g_aload_n V dL_law_1822 rfl rfl ?_
  refine g_iload V dL_law_1823 rfl rfl ?_
  refine g_iconst V (Int32.ofInt 1) dL_law_1825 rfl rfl ?_
  refine gi_iadd V dL_law_1826 rfl ?_
  obtain ⟨t9, vs, r1, ha, ht, h0, h9, hv, hw⟩ := hw
  refine gi_iaload V ha ht h0 h9 hv dL_law_1827 rfl ?_
  refine g_aload_n V dL_law_1828 rfl rfl ?_
  obtain ⟨hk, hj, c4, s5, ec, es, hw⟩ := hw
  refine g_callSX (st := []) V (k_L_length hst hw) ww_4_1 ww_4_2 ww_1_0 ww_4_3 hd_L_length ⟨by decide, by decide⟩ rfl rfl (ga_cat rfl) dL_law_1829 hk hj rfl ga_none (ga_ki (fun r3 hp2 hw => ?_))
  refine ga_re ec es ?_
  refine g_istore (lv2 := [some (.ref v0), some (.ref v1), some (.ref v2), some (.ref v3), some (gi v4), some (gi r3), none]) V dL_law_1832 (by decide) rfl rfl rfl ?_
  refine g_aload_n V dL_law_1834 rfl rfl ?_
  refine g_aload_n V dL_law_1835 rfl rfl ?_
  refine g_iload V dL_law_1836 rfl rfl ?_
  refine g_iconst V (Int32.ofInt 1) dL_law_1838 rfl rfl ?_
  refine gi_iadd V dL_law_1839 rfl ?_
  obtain ⟨t9, vs, r6, ha, ht, h0, h9, hv, hw⟩ := hw
  refine gi_iaload V ha ht h0 h9 hv dL_law_1840 rfl ?_
  obtain ⟨hb, hw⟩ := hw
  obtain ⟨fb, hb⟩ := hb
  refine g_callV (C := RX7) (T := TX7) (N := 8) (st := []) V (k_X7_length hst hw) ww_6_155 ww_6_156 ww_6_157 ww_1_5 ww_6_158 hd_X7_length ⟨by decide, by decide⟩ rfl (by decide) hb rfl rfl (ga_cat rfl) dL_law_1841 (Nat.zero_le _) (Nat.zero_le _) rfl ga_none (ga_ki (fun r8 hp7 hw => ?_))
  refine g_istore (lv2 := [some (.ref v0), some (.ref v1), some (.ref v2), some (.ref v3), some (gi v4), some (gi r3), some (gi r8)]) V dL_law_1844 (by decide) rfl rfl rfl ?_
  refine g_aload_n V dL_law_1846 rfl rfl ?_
  obtain ⟨hb, hw⟩ := hw
  obtain ⟨fb, hb⟩ := hb
  refine g_callV (C := RX7) (T := TX7) (N := 8) (st := []) V (k_X7_thrown hst hw) ww_5_206 ww_5_207 ww_5_208 ww_1_5 ww_5_209 hd_X7_thrown ⟨by decide, by decide⟩ rfl (by decide) hb rfl rfl (ga_cat rfl) dL_law_1847 (Nat.zero_le _) (Nat.zero_le _) rfl ga_none (ga_ki (fun r10 hp9 hw => ?_))
  refine g_iload V dL_law_1850 rfl rfl ?_
  obtain ⟨hx0, hx1, hw⟩ := hw
  refine gi_icmp_eq V dL_law_1852 rfl rfl hx0 hx1 (fun q => ?_) (fun q => ?_)
  · have hw := ga_t q hw
    refine g_iload V dL_law_1857 rfl rfl ?_
    obtain ⟨hx0, hw⟩ := hw
    refine gi_if_ne V dL_law_1859 rfl rfl hx0 (fun q => ?_) (fun q => ?_)
    · have hw := ga_f q hw
      refine g_goto V dL_law_1875 rfl ?_
      refine g_less (bs := [true, true, true, true, true, false, false]) (lv2 := [some (.ref v0), some (.ref v1), some (.ref v2), some (.ref v3), some (gi v4), none, none]) rfl ?_
      exact hl_L_law_J3472 hst V hend K27 hK27 v0 v1 v2 v3 v4 hp9 c4 s5 hw
    · have hw := ga_t q hw
      refine g_aload_n V dL_law_1862 rfl rfl ?_
      obtain ⟨fs, r11, ha, hv, hw⟩ := hw
      refine g_getN (C := RX6) (T := TX6) (N := 2) (host := "WordgardenLaw") V 0 rfl hin_RX6 (by decide) (by decide) gn_22 rfl ha hv dL_law_1863 rfl ?_
      refine g_iload V dL_law_1866 rfl rfl ?_
      refine gi_i2l V dL_law_1868 rfl ?_
      refine gi_lcmp V dL_law_1869 rfl ?_
      obtain ⟨hx0, hw⟩ := hw
      refine gi_if_eq V dL_law_1870 rfl rfl hx0 (fun q => ?_) (fun q => ?_)
      · have hw := ga_t q hw
        refine g_goto V dL_law_1875 rfl ?_
        refine g_less (bs := [true, true, true, true, true, false, false]) (lv2 := [some (.ref v0), some (.ref v1), some (.ref v2), some (.ref v3), some (gi v4), none, none]) rfl ?_
        exact hl_L_law_J3472 hst V hend K27 hK27 v0 v1 v2 v3 v4 hp9 c4 s5 hw
      · have hw := ga_f q hw
        refine g_iconst V (Int32.ofInt 0) dL_law_1873 rfl rfl ?_
        exact hw.elim
  · have hw := ga_f q hw
    refine g_iconst V (Int32.ofInt 0) dL_law_1855 rfl rfl ?_
    exact hw.elim
theorem hl_L_law_J1764 {p : Program} {l : Launch} {e : Env} {s : State} {m : MethodId} {args : Array Value} {below : List Frame} {meth : Method} {c : Code} {G : gaG} {nm : String} {Z : State → Prop} (hst : l.stackTraces = false) (V : gaV p l s m args meth c G code RL 7 gaW ret nm) (hend : ∀ (pc : Nat) (lv : List (Option Value)) (h : gaH) (k j : Nat), decode code pc = .ok (.ireturn, 1) → gaP p l e room_1 s m args below meth c G 7 Z pc lv [gi 1] h k j) : ∀ (K27 : Nat → Nat → Nat → Nat → Int → gaH → Nat → Nat → Prop), ∀ (hK27 : ∀ (v0 : Nat) (v1 : Nat) (v2 : Nat) (v3 : Nat) (v4 : Int) (h : gaH) (kc ks : Nat), K27 v0 v1 v2 v3 v4 h kc ks → gaP p l e room_1 s m args below meth c G 7 Z 27 [some (.ref v0), some (.ref v1), some (.ref v2), some (.ref v3), some (gi v4), none, none] [] h kc ks), ∀ (v0 : Nat) (v1 : Nat) (v2 : Nat) (v3 : Nat) (v4 : Int) (h : gaH) (kc ks : Nat), w_L_law_J1764 G K27 v0 v1 v2 v3 v4 h kc ks → gaP p l e room_1 s m args below meth c G 7 Z 1764 [some (.ref v0), some (.ref v1), some (.ref v2), some (.ref v3), some (gi v4), none, none] [] h kc ks := by
  intro K27 hK27
  intro v0 v1 v2 v3 v4 h kc ks hw
  unfold w_L_law_J1764 at hw
  refine g_aload_n V dL_law_1764 rfl rfl ?_
  refine g_aload_n V dL_law_1765 rfl rfl ?_
  refine g_iload V dL_law_1766 rfl rfl ?_
  refine g_iconst V (Int32.ofInt 1) dL_law_1768 rfl rfl ?_
  refine gi_iadd V dL_law_1769 rfl ?_
  obtain ⟨t9, vs, r1, ha, ht, h0, h9, hv, hw⟩ := hw
  refine gi_iaload V ha ht h0 h9 hv dL_law_1770 rfl ?_
  refine g_aload_n V dL_law_1771 rfl rfl ?_
  obtain ⟨hk, hj, c4, s5, ec, es, hw⟩ := hw
  refine g_callSX (st := []) V (k_L_fresh hst hw) ww_3_233 ww_3_234 ww_1_0 ww_3_235 hd_L_fresh ⟨by decide, by decide⟩ rfl rfl (ga_cat rfl) dL_law_1772 hk hj rfl ga_none (ga_ki (fun r3 hp2 hw => ?_))
  refine ga_re ec es ?_
  refine g_istore (lv2 := [some (.ref v0), some (.ref v1), some (.ref v2), some (.ref v3), some (gi v4), some (gi r3), none]) V dL_law_1775 (by decide) rfl rfl rfl ?_
  refine g_aload_n V dL_law_1777 rfl rfl ?_
  refine g_aload_n V dL_law_1778 rfl rfl ?_
  refine g_iload V dL_law_1779 rfl rfl ?_
  refine g_iconst V (Int32.ofInt 1) dL_law_1781 rfl rfl ?_
  refine gi_iadd V dL_law_1782 rfl ?_
  obtain ⟨t9, vs, r6, ha, ht, h0, h9, hv, hw⟩ := hw
  refine gi_iaload V ha ht h0 h9 hv dL_law_1783 rfl ?_
  obtain ⟨hb, hw⟩ := hw
  obtain ⟨fb, hb⟩ := hb
  refine g_callV (C := RX7) (T := TX7) (N := 8) (st := []) V (k_X7_fresh hst hw) ww_6_151 ww_6_152 ww_6_153 ww_1_5 ww_6_154 hd_X7_fresh ⟨by decide, by decide⟩ rfl (by decide) hb rfl rfl (ga_cat rfl) dL_law_1784 (Nat.zero_le _) (Nat.zero_le _) rfl ga_none (ga_ki (fun r8 hp7 hw => ?_))
  refine g_istore (lv2 := [some (.ref v0), some (.ref v1), some (.ref v2), some (.ref v3), some (gi v4), some (gi r3), some (gi r8)]) V dL_law_1787 (by decide) rfl rfl rfl ?_
  refine g_aload_n V dL_law_1789 rfl rfl ?_
  obtain ⟨hb, hw⟩ := hw
  obtain ⟨fb, hb⟩ := hb
  refine g_callV (C := RX7) (T := TX7) (N := 8) (st := []) V (k_X7_thrown hst hw) ww_5_206 ww_5_207 ww_5_208 ww_1_5 ww_5_209 hd_X7_thrown ⟨by decide, by decide⟩ rfl (by decide) hb rfl rfl (ga_cat rfl) dL_law_1790 (Nat.zero_le _) (Nat.zero_le _) rfl ga_none (ga_ki (fun r10 hp9 hw => ?_))
  refine g_iload V dL_law_1793 rfl rfl ?_
  obtain ⟨hx0, hx1, hw⟩ := hw
  refine gi_icmp_eq V dL_law_1795 rfl rfl hx0 hx1 (fun q => ?_) (fun q => ?_)
  · have hw := ga_t q hw
    refine g_iload V dL_law_1800 rfl rfl ?_
    obtain ⟨hx0, hw⟩ := hw
    refine gi_if_ne V dL_law_1802 rfl rfl hx0 (fun q => ?_) (fun q => ?_)
    · have hw := ga_f q hw
      refine g_goto V dL_law_1818 rfl ?_
      refine g_less (bs := [true, true, true, true, true, false, false]) (lv2 := [some (.ref v0), some (.ref v1), some (.ref v2), some (.ref v3), some (gi v4), none, none]) rfl ?_
      exact hl_L_law_J3472 hst V hend K27 hK27 v0 v1 v2 v3 v4 hp9 c4 s5 hw
    · have hw := ga_t q hw
      refine g_aload_n V dL_law_1805 rfl rfl ?_
      obtain ⟨fs, r11, ha, hv, hw⟩ := hw
      refine g_getN (C := RX6) (T := TX6) (N := 2) (host := "WordgardenLaw") V 0 rfl hin_RX6 (by decide) (by decide) gn_22 rfl ha hv dL_law_1806 rfl ?_
      refine g_iload V dL_law_1809 rfl rfl ?_
      refine gi_i2l V dL_law_1811 rfl ?_
      refine gi_lcmp V dL_law_1812 rfl ?_
      obtain ⟨hx0, hw⟩ := hw
      refine gi_if_eq V dL_law_1813 rfl rfl hx0 (fun q => ?_) (fun q => ?_)
      · have hw := ga_t q hw
        refine g_goto V dL_law_1818 rfl ?_
        refine g_less (bs := [true, true, true, true, true, false, false]) (lv2 := [some (.ref v0), some (.ref v1), some (.ref v2), some (.ref v3), some (gi v4), none, none]) rfl ?_
        exact hl_L_law_J3472 hst V hend K27 hK27 v0 v1 v2 v3 v4 hp9 c4 s5 hw
      · have hw := ga_f q hw
        refine g_iconst V (Int32.ofInt 0) dL_law_1816 rfl rfl ?_
        exact hw.elim
  · have hw := ga_f q hw
    refine g_iconst V (Int32.ofInt 0) dL_law_1798 rfl rfl ?_
    exact hw.elim
theorem hl_L_law_J1707 {p : Program} {l : Launch} {e : Env} {s : State} {m : MethodId} {args : Array Value} {below : List Frame} {meth : Method} {c : Code} {G : gaG} {nm : String} {Z : State → Prop} (hst : l.stackTraces = false) (V : gaV p l s m args meth c G code RL 7 gaW ret nm) (hend : ∀ (pc : Nat) (lv : List (Option Value)) (h : gaH) (k j : Nat), decode code pc = .ok (.ireturn, 1) → gaP p l e room_1 s m args below meth c G 7 Z pc lv [gi 1] h k j) : ∀ (K27 : Nat → Nat → Nat → Nat → Int → gaH → Nat → Nat → Prop), ∀ (hK27 : ∀ (v0 : Nat) (v1 : Nat) (v2 : Nat) (v3 : Nat) (v4 : Int) (h : gaH) (kc ks : Nat), K27 v0 v1 v2 v3 v4 h kc ks → gaP p l e room_1 s m args below meth c G 7 Z 27 [some (.ref v0), some (.ref v1), some (.ref v2), some (.ref v3), some (gi v4), none, none] [] h kc ks), ∀ (v0 : Nat) (v1 : Nat) (v2 : Nat) (v3 : Nat) (v4 : Int) (h : gaH) (kc ks : Nat), w_L_law_J1707 G K27 v0 v1 v2 v3 v4 h kc ks → gaP p l e room_1 s m args below meth c G 7 Z 1707 [some (.ref v0), some (.ref v1), some (.ref v2), some (.ref v3), some (gi v4), none, none] [] h kc ks := by
  intro K27 hK27
  intro v0 v1 v2 v3 v4 h kc ks hw
  unfold w_L_law_J1707 at hw
  refine g_aload_n V dL_law_1707 rfl rfl ?_
  refine g_aload_n V dL_law_1708 rfl rfl ?_
  refine g_iload V dL_law_1709 rfl rfl ?_
  refine g_iconst V (Int32.ofInt 1) dL_law_1711 rfl rfl ?_
  refine gi_iadd V dL_law_1712 rfl ?_
  obtain ⟨t9, vs, r1, ha, ht, h0, h9, hv, hw⟩ := hw
  refine gi_iaload V ha ht h0 h9 hv dL_law_1713 rfl ?_
  refine g_aload_n V dL_law_1714 rfl rfl ?_
  obtain ⟨hk, hj, c4, s5, ec, es, hw⟩ := hw
  refine g_callSX (st := []) V (k_L_shrink hst hw) ww_3_222 ww_3_223 ww_1_0 ww_3_224 hd_L_shrink ⟨by decide, by decide⟩ rfl rfl (ga_cat rfl) dL_law_1715 hk hj rfl ga_none (ga_ki (fun r3 hp2 hw => ?_))
  refine ga_re ec es ?_
  refine g_istore (lv2 := [some (.ref v0), some (.ref v1), some (.ref v2), some (.ref v3), some (gi v4), some (gi r3), none]) V dL_law_1718 (by decide) rfl rfl rfl ?_
  refine g_aload_n V dL_law_1720 rfl rfl ?_
  refine g_aload_n V dL_law_1721 rfl rfl ?_
  refine g_iload V dL_law_1722 rfl rfl ?_
  refine g_iconst V (Int32.ofInt 1) dL_law_1724 rfl rfl ?_
  refine gi_iadd V dL_law_1725 rfl ?_
  obtain ⟨t9, vs, r6, ha, ht, h0, h9, hv, hw⟩ := hw
  refine gi_iaload V ha ht h0 h9 hv dL_law_1726 rfl ?_
  obtain ⟨hb, hw⟩ := hw
  obtain ⟨fb, hb⟩ := hb
  refine g_callV (C := RX7) (T := TX7) (N := 8) (st := []) V (k_X7_shrink hst hw) ww_6_147 ww_6_148 ww_6_149 ww_1_5 ww_6_150 hd_X7_shrink ⟨by decide, by decide⟩ rfl (by decide) hb rfl rfl (ga_cat rfl) dL_law_1727 (Nat.zero_le _) (Nat.zero_le _) rfl ga_none (ga_ki (fun r8 hp7 hw => ?_))
  refine g_istore (lv2 := [some (.ref v0), some (.ref v1), some (.ref v2), some (.ref v3), some (gi v4), some (gi r3), some (gi r8)]) V dL_law_1730 (by decide) rfl rfl rfl ?_
  refine g_aload_n V dL_law_1732 rfl rfl ?_
  obtain ⟨hb, hw⟩ := hw
  obtain ⟨fb, hb⟩ := hb
  refine g_callV (C := RX7) (T := TX7) (N := 8) (st := []) V (k_X7_thrown hst hw) ww_5_206 ww_5_207 ww_5_208 ww_1_5 ww_5_209 hd_X7_thrown ⟨by decide, by decide⟩ rfl (by decide) hb rfl rfl (ga_cat rfl) dL_law_1733 (Nat.zero_le _) (Nat.zero_le _) rfl ga_none (ga_ki (fun r10 hp9 hw => ?_))
  refine g_iload V dL_law_1736 rfl rfl ?_
  obtain ⟨hx0, hx1, hw⟩ := hw
  refine gi_icmp_eq V dL_law_1738 rfl rfl hx0 hx1 (fun q => ?_) (fun q => ?_)
  · have hw := ga_t q hw
    refine g_iload V dL_law_1743 rfl rfl ?_
    obtain ⟨hx0, hw⟩ := hw
    refine gi_if_ne V dL_law_1745 rfl rfl hx0 (fun q => ?_) (fun q => ?_)
    · have hw := ga_f q hw
      refine g_goto V dL_law_1761 rfl ?_
      refine g_less (bs := [true, true, true, true, true, false, false]) (lv2 := [some (.ref v0), some (.ref v1), some (.ref v2), some (.ref v3), some (gi v4), none, none]) rfl ?_
      exact hl_L_law_J3472 hst V hend K27 hK27 v0 v1 v2 v3 v4 hp9 c4 s5 hw
    · have hw := ga_t q hw
      refine g_aload_n V dL_law_1748 rfl rfl ?_
      obtain ⟨fs, r11, ha, hv, hw⟩ := hw
      refine g_getN (C := RX6) (T := TX6) (N := 2) (host := "WordgardenLaw") V 0 rfl hin_RX6 (by decide) (by decide) gn_22 rfl ha hv dL_law_1749 rfl ?_
      refine g_iload V dL_law_1752 rfl rfl ?_
      refine gi_i2l V dL_law_1754 rfl ?_
      refine gi_lcmp V dL_law_1755 rfl ?_
      obtain ⟨hx0, hw⟩ := hw
      refine gi_if_eq V dL_law_1756 rfl rfl hx0 (fun q => ?_) (fun q => ?_)
      · have hw := ga_t q hw
        refine g_goto V dL_law_1761 rfl ?_
        refine g_less (bs := [true, true, true, true, true, false, false]) (lv2 := [some (.ref v0), some (.ref v1), some (.ref v2), some (.ref v3), some (gi v4), none, none]) rfl ?_
        exact hl_L_law_J3472 hst V hend K27 hK27 v0 v1 v2 v3 v4 hp9 c4 s5 hw
      · have hw := ga_f q hw
        refine g_iconst V (Int32.ofInt 0) dL_law_1759 rfl rfl ?_
        exact hw.elim
  · have hw := ga_f q hw
    refine g_iconst V (Int32.ofInt 0) dL_law_1741 rfl rfl ?_
    exact hw.elim
theorem hl_L_law_J1638 {p : Program} {l : Launch} {e : Env} {s : State} {m : MethodId} {args : Array Value} {below : List Frame} {meth : Method} {c : Code} {G : gaG} {nm : String} {Z : State → Prop} (hst : l.stackTraces = false) (V : gaV p l s m args meth c G code RL 7 gaW ret nm) (hend : ∀ (pc : Nat) (lv : List (Option Value)) (h : gaH) (k j : Nat), decode code pc = .ok (.ireturn, 1) → gaP p l e room_1 s m args below meth c G 7 Z pc lv [gi 1] h k j) : ∀ (K27 : Nat → Nat → Nat → Nat → Int → gaH → Nat → Nat → Prop), ∀ (hK27 : ∀ (v0 : Nat) (v1 : Nat) (v2 : Nat) (v3 : Nat) (v4 : Int) (h : gaH) (kc ks : Nat), K27 v0 v1 v2 v3 v4 h kc ks → gaP p l e room_1 s m args below meth c G 7 Z 27 [some (.ref v0), some (.ref v1), some (.ref v2), some (.ref v3), some (gi v4), none, none] [] h kc ks), ∀ (v0 : Nat) (v1 : Nat) (v2 : Nat) (v3 : Nat) (v4 : Int) (h : gaH) (kc ks : Nat), w_L_law_J1638 G K27 v0 v1 v2 v3 v4 h kc ks → gaP p l e room_1 s m args below meth c G 7 Z 1638 [some (.ref v0), some (.ref v1), some (.ref v2), some (.ref v3), some (gi v4), none, none] [] h kc ks := by
  intro K27 hK27
  intro v0 v1 v2 v3 v4 h kc ks hw
  unfold w_L_law_J1638 at hw
  refine g_aload_n V dL_law_1638 rfl rfl ?_
  refine g_aload_n V dL_law_1639 rfl rfl ?_
  refine g_iload V dL_law_1640 rfl rfl ?_
  refine g_iconst V (Int32.ofInt 1) dL_law_1642 rfl rfl ?_
  refine gi_iadd V dL_law_1643 rfl ?_
  obtain ⟨t9, vs, r1, ha, ht, h0, h9, hv, hw⟩ := hw
  refine gi_iaload V ha ht h0 h9 hv dL_law_1644 rfl ?_
  refine g_aload_n V dL_law_1645 rfl rfl ?_
  refine g_iload V dL_law_1646 rfl rfl ?_
  refine g_iconst V (Int32.ofInt 2) dL_law_1648 rfl rfl ?_
  refine gi_iadd V dL_law_1649 rfl ?_
  obtain ⟨t9, vs, r2, ha, ht, h0, h9, hv, hw⟩ := hw
  refine gi_iaload V ha ht h0 h9 hv dL_law_1650 rfl ?_
  refine g_aload_n V dL_law_1651 rfl rfl ?_
  obtain ⟨hk, hj, c5, s6, ec, es, hw⟩ := hw
  refine g_callSX (st := []) V (k_L_grow hst hw) ww_3_206 ww_3_207 ww_1_0 ww_3_208 hd_L_grow ⟨by decide, by decide⟩ rfl rfl (ga_cat rfl) dL_law_1652 hk hj rfl ga_none (ga_ki (fun r4 hp3 hw => ?_))
  refine ga_re ec es ?_
  refine g_istore (lv2 := [some (.ref v0), some (.ref v1), some (.ref v2), some (.ref v3), some (gi v4), some (gi r4), none]) V dL_law_1655 (by decide) rfl rfl rfl ?_
  refine g_aload_n V dL_law_1657 rfl rfl ?_
  refine g_aload_n V dL_law_1658 rfl rfl ?_
  refine g_iload V dL_law_1659 rfl rfl ?_
  refine g_iconst V (Int32.ofInt 1) dL_law_1661 rfl rfl ?_
  refine gi_iadd V dL_law_1662 rfl ?_
  obtain ⟨t9, vs, r7, ha, ht, h0, h9, hv, hw⟩ := hw
  refine gi_iaload V ha ht h0 h9 hv dL_law_1663 rfl ?_
  refine g_aload_n V dL_law_1664 rfl rfl ?_
  refine g_iload V dL_law_1665 rfl rfl ?_
  refine g_iconst V (Int32.ofInt 2) dL_law_1667 rfl rfl ?_
  refine gi_iadd V dL_law_1668 rfl ?_
  obtain ⟨t9, vs, r8, ha, ht, h0, h9, hv, hw⟩ := hw
  refine gi_iaload V ha ht h0 h9 hv dL_law_1669 rfl ?_
  obtain ⟨hb, hw⟩ := hw
  obtain ⟨fb, hb⟩ := hb
  obtain ⟨hk, hj, c11, s12, ec, es, hw⟩ := hw
  refine g_callV (C := RX7) (T := TX7) (N := 8) (st := []) V (k_X7_grow hst hw) ww_6_139 ww_6_140 ww_6_141 ww_1_5 ww_6_142 hd_X7_grow ⟨by decide, by decide⟩ rfl (by decide) hb rfl rfl (ga_cat rfl) dL_law_1670 hk hj rfl ga_none (ga_ki (fun r10 hp9 hw => ?_))
  refine ga_re ec es ?_
  refine g_istore (lv2 := [some (.ref v0), some (.ref v1), some (.ref v2), some (.ref v3), some (gi v4), some (gi r4), some (gi r10)]) V dL_law_1673 (by decide) rfl rfl rfl ?_
  refine g_aload_n V dL_law_1675 rfl rfl ?_
  obtain ⟨hb, hw⟩ := hw
  obtain ⟨fb, hb⟩ := hb
  refine g_callV (C := RX7) (T := TX7) (N := 8) (st := []) V (k_X7_thrown hst hw) ww_5_206 ww_5_207 ww_5_208 ww_1_5 ww_5_209 hd_X7_thrown ⟨by decide, by decide⟩ rfl (by decide) hb rfl rfl (ga_cat rfl) dL_law_1676 (Nat.zero_le _) (Nat.zero_le _) rfl ga_none (ga_ki (fun r14 hp13 hw => ?_))
  refine g_iload V dL_law_1679 rfl rfl ?_
  obtain ⟨hx0, hx1, hw⟩ := hw
  refine gi_icmp_eq V dL_law_1681 rfl rfl hx0 hx1 (fun q => ?_) (fun q => ?_)
  · have hw := ga_t q hw
    refine g_iload V dL_law_1686 rfl rfl ?_
    obtain ⟨hx0, hw⟩ := hw
    refine gi_if_ne V dL_law_1688 rfl rfl hx0 (fun q => ?_) (fun q => ?_)
    · have hw := ga_f q hw
      refine g_goto V dL_law_1704 rfl ?_
      refine g_less (bs := [true, true, true, true, true, false, false]) (lv2 := [some (.ref v0), some (.ref v1), some (.ref v2), some (.ref v3), some (gi v4), none, none]) rfl ?_
      exact hl_L_law_J3472 hst V hend K27 hK27 v0 v1 v2 v3 v4 hp13 c11 s12 hw
    · have hw := ga_t q hw
      refine g_aload_n V dL_law_1691 rfl rfl ?_
      obtain ⟨fs, r15, ha, hv, hw⟩ := hw
      refine g_getN (C := RX6) (T := TX6) (N := 2) (host := "WordgardenLaw") V 0 rfl hin_RX6 (by decide) (by decide) gn_22 rfl ha hv dL_law_1692 rfl ?_
      refine g_iload V dL_law_1695 rfl rfl ?_
      refine gi_i2l V dL_law_1697 rfl ?_
      refine gi_lcmp V dL_law_1698 rfl ?_
      obtain ⟨hx0, hw⟩ := hw
      refine gi_if_eq V dL_law_1699 rfl rfl hx0 (fun q => ?_) (fun q => ?_)
      · have hw := ga_t q hw
        refine g_goto V dL_law_1704 rfl ?_
        refine g_less (bs := [true, true, true, true, true, false, false]) (lv2 := [some (.ref v0), some (.ref v1), some (.ref v2), some (.ref v3), some (gi v4), none, none]) rfl ?_
        exact hl_L_law_J3472 hst V hend K27 hK27 v0 v1 v2 v3 v4 hp13 c11 s12 hw
      · have hw := ga_f q hw
        refine g_iconst V (Int32.ofInt 0) dL_law_1702 rfl rfl ?_
        exact hw.elim
  · have hw := ga_f q hw
    refine g_iconst V (Int32.ofInt 0) dL_law_1684 rfl rfl ?_
    exact hw.elim
theorem hl_L_law_J1545 {p : Program} {l : Launch} {e : Env} {s : State} {m : MethodId} {args : Array Value} {below : List Frame} {meth : Method} {c : Code} {G : gaG} {nm : String} {Z : State → Prop} (hst : l.stackTraces = false) (V : gaV p l s m args meth c G code RL 7 gaW ret nm) (hend : ∀ (pc : Nat) (lv : List (Option Value)) (h : gaH) (k j : Nat), decode code pc = .ok (.ireturn, 1) → gaP p l e room_1 s m args below meth c G 7 Z pc lv [gi 1] h k j) : ∀ (K27 : Nat → Nat → Nat → Nat → Int → gaH → Nat → Nat → Prop), ∀ (hK27 : ∀ (v0 : Nat) (v1 : Nat) (v2 : Nat) (v3 : Nat) (v4 : Int) (h : gaH) (kc ks : Nat), K27 v0 v1 v2 v3 v4 h kc ks → gaP p l e room_1 s m args below meth c G 7 Z 27 [some (.ref v0), some (.ref v1), some (.ref v2), some (.ref v3), some (gi v4), none, none] [] h kc ks), ∀ (v0 : Nat) (v1 : Nat) (v2 : Nat) (v3 : Nat) (v4 : Int) (h : gaH) (kc ks : Nat), w_L_law_J1545 G K27 v0 v1 v2 v3 v4 h kc ks → gaP p l e room_1 s m args below meth c G 7 Z 1545 [some (.ref v0), some (.ref v1), some (.ref v2), some (.ref v3), some (gi v4), none, none] [] h kc ks := by
  intro K27 hK27
  intro v0 v1 v2 v3 v4 h kc ks hw
  unfold w_L_law_J1545 at hw
  refine g_aload_n V dL_law_1545 rfl rfl ?_
  refine g_aload_n V dL_law_1546 rfl rfl ?_
  refine g_iload V dL_law_1547 rfl rfl ?_
  refine g_iconst V (Int32.ofInt 1) dL_law_1549 rfl rfl ?_
  refine gi_iadd V dL_law_1550 rfl ?_
  obtain ⟨t9, vs, r1, ha, ht, h0, h9, hv, hw⟩ := hw
  refine gi_iaload V ha ht h0 h9 hv dL_law_1551 rfl ?_
  refine g_aload_n V dL_law_1552 rfl rfl ?_
  refine g_iload V dL_law_1553 rfl rfl ?_
  refine g_iconst V (Int32.ofInt 2) dL_law_1555 rfl rfl ?_
  refine gi_iadd V dL_law_1556 rfl ?_
  obtain ⟨t9, vs, r2, ha, ht, h0, h9, hv, hw⟩ := hw
  refine gi_iaload V ha ht h0 h9 hv dL_law_1557 rfl ?_
  refine g_aload_n V dL_law_1558 rfl rfl ?_
  refine g_iload V dL_law_1559 rfl rfl ?_
  refine g_iconst V (Int32.ofInt 3) dL_law_1561 rfl rfl ?_
  refine gi_iadd V dL_law_1562 rfl ?_
  obtain ⟨t9, vs, r3, ha, ht, h0, h9, hv, hw⟩ := hw
  refine gi_iaload V ha ht h0 h9 hv dL_law_1563 rfl ?_
  refine g_aload_n V dL_law_1564 rfl rfl ?_
  refine g_iload V dL_law_1565 rfl rfl ?_
  refine g_iconst V (Int32.ofInt 4) dL_law_1567 rfl rfl ?_
  refine gi_iadd V dL_law_1568 rfl ?_
  obtain ⟨t9, vs, r4, ha, ht, h0, h9, hv, hw⟩ := hw
  refine gi_iaload V ha ht h0 h9 hv dL_law_1569 rfl ?_
  refine g_aload_n V dL_law_1570 rfl rfl ?_
  obtain ⟨hk, hj, c7, s8, ec, es, hw⟩ := hw
  refine g_callSX (st := []) V (k_L_line hst hw) ww_3_198 ww_3_199 ww_1_0 ww_3_200 hd_L_line ⟨by decide, by decide⟩ rfl rfl (ga_cat rfl) dL_law_1571 hk hj rfl ga_none (ga_ki (fun r6 hp5 hw => ?_))
  refine ga_re ec es ?_
  refine g_istore (lv2 := [some (.ref v0), some (.ref v1), some (.ref v2), some (.ref v3), some (gi v4), some (gi r6), none]) V dL_law_1574 (by decide) rfl rfl rfl ?_
  refine g_aload_n V dL_law_1576 rfl rfl ?_
  refine g_aload_n V dL_law_1577 rfl rfl ?_
  refine g_iload V dL_law_1578 rfl rfl ?_
  refine g_iconst V (Int32.ofInt 1) dL_law_1580 rfl rfl ?_
  refine gi_iadd V dL_law_1581 rfl ?_
  obtain ⟨t9, vs, r9, ha, ht, h0, h9, hv, hw⟩ := hw
  refine gi_iaload V ha ht h0 h9 hv dL_law_1582 rfl ?_
  refine g_aload_n V dL_law_1583 rfl rfl ?_
  refine g_iload V dL_law_1584 rfl rfl ?_
  refine g_iconst V (Int32.ofInt 2) dL_law_1586 rfl rfl ?_
  refine gi_iadd V dL_law_1587 rfl ?_
  obtain ⟨t9, vs, r10, ha, ht, h0, h9, hv, hw⟩ := hw
  refine gi_iaload V ha ht h0 h9 hv dL_law_1588 rfl ?_
  refine g_aload_n V dL_law_1589 rfl rfl ?_
  refine g_iload V dL_law_1590 rfl rfl ?_
  refine g_iconst V (Int32.ofInt 3) dL_law_1592 rfl rfl ?_
  refine gi_iadd V dL_law_1593 rfl ?_
  obtain ⟨t9, vs, r11, ha, ht, h0, h9, hv, hw⟩ := hw
  refine gi_iaload V ha ht h0 h9 hv dL_law_1594 rfl ?_
  refine g_aload_n V dL_law_1595 rfl rfl ?_
  refine g_iload V dL_law_1596 rfl rfl ?_
  refine g_iconst V (Int32.ofInt 4) dL_law_1598 rfl rfl ?_
  refine gi_iadd V dL_law_1599 rfl ?_
  obtain ⟨t9, vs, r12, ha, ht, h0, h9, hv, hw⟩ := hw
  refine gi_iaload V ha ht h0 h9 hv dL_law_1600 rfl ?_
  obtain ⟨hb, hw⟩ := hw
  obtain ⟨fb, hb⟩ := hb
  obtain ⟨hk, hj, c15, s16, ec, es, hw⟩ := hw
  refine g_callV (C := RX7) (T := TX7) (N := 8) (st := []) V (k_X7_line hst hw) ww_6_135 ww_6_136 ww_6_137 ww_1_5 ww_6_138 hd_X7_line ⟨by decide, by decide⟩ rfl (by decide) hb rfl rfl (ga_cat rfl) dL_law_1601 hk hj rfl ga_none (ga_ki (fun r14 hp13 hw => ?_))
  refine ga_re ec es ?_
  refine g_istore (lv2 := [some (.ref v0), some (.ref v1), some (.ref v2), some (.ref v3), some (gi v4), some (gi r6), some (gi r14)]) V dL_law_1604 (by decide) rfl rfl rfl ?_
  refine g_aload_n V dL_law_1606 rfl rfl ?_
  obtain ⟨hb, hw⟩ := hw
  obtain ⟨fb, hb⟩ := hb
  refine g_callV (C := RX7) (T := TX7) (N := 8) (st := []) V (k_X7_thrown hst hw) ww_5_206 ww_5_207 ww_5_208 ww_1_5 ww_5_209 hd_X7_thrown ⟨by decide, by decide⟩ rfl (by decide) hb rfl rfl (ga_cat rfl) dL_law_1607 (Nat.zero_le _) (Nat.zero_le _) rfl ga_none (ga_ki (fun r18 hp17 hw => ?_))
  refine g_iload V dL_law_1610 rfl rfl ?_
  obtain ⟨hx0, hx1, hw⟩ := hw
  refine gi_icmp_eq V dL_law_1612 rfl rfl hx0 hx1 (fun q => ?_) (fun q => ?_)
  · have hw := ga_t q hw
    refine g_iload V dL_law_1617 rfl rfl ?_
    obtain ⟨hx0, hw⟩ := hw
    refine gi_if_ne V dL_law_1619 rfl rfl hx0 (fun q => ?_) (fun q => ?_)
    · have hw := ga_f q hw
      refine g_goto V dL_law_1635 rfl ?_
      refine g_less (bs := [true, true, true, true, true, false, false]) (lv2 := [some (.ref v0), some (.ref v1), some (.ref v2), some (.ref v3), some (gi v4), none, none]) rfl ?_
      exact hl_L_law_J3472 hst V hend K27 hK27 v0 v1 v2 v3 v4 hp17 c15 s16 hw
    · have hw := ga_t q hw
      refine g_aload_n V dL_law_1622 rfl rfl ?_
      obtain ⟨fs, r19, ha, hv, hw⟩ := hw
      refine g_getN (C := RX6) (T := TX6) (N := 2) (host := "WordgardenLaw") V 0 rfl hin_RX6 (by decide) (by decide) gn_22 rfl ha hv dL_law_1623 rfl ?_
      refine g_iload V dL_law_1626 rfl rfl ?_
      refine gi_i2l V dL_law_1628 rfl ?_
      refine gi_lcmp V dL_law_1629 rfl ?_
      obtain ⟨hx0, hw⟩ := hw
      refine gi_if_eq V dL_law_1630 rfl rfl hx0 (fun q => ?_) (fun q => ?_)
      · have hw := ga_t q hw
        refine g_goto V dL_law_1635 rfl ?_
        refine g_less (bs := [true, true, true, true, true, false, false]) (lv2 := [some (.ref v0), some (.ref v1), some (.ref v2), some (.ref v3), some (gi v4), none, none]) rfl ?_
        exact hl_L_law_J3472 hst V hend K27 hK27 v0 v1 v2 v3 v4 hp17 c15 s16 hw
      · have hw := ga_f q hw
        refine g_iconst V (Int32.ofInt 0) dL_law_1633 rfl rfl ?_
        exact hw.elim
  · have hw := ga_f q hw
    refine g_iconst V (Int32.ofInt 0) dL_law_1615 rfl rfl ?_
    exact hw.elim
theorem hl_L_law_J1464 {p : Program} {l : Launch} {e : Env} {s : State} {m : MethodId} {args : Array Value} {below : List Frame} {meth : Method} {c : Code} {G : gaG} {nm : String} {Z : State → Prop} (hst : l.stackTraces = false) (V : gaV p l s m args meth c G code RL 7 gaW ret nm) (hend : ∀ (pc : Nat) (lv : List (Option Value)) (h : gaH) (k j : Nat), decode code pc = .ok (.ireturn, 1) → gaP p l e room_1 s m args below meth c G 7 Z pc lv [gi 1] h k j) : ∀ (K27 : Nat → Nat → Nat → Nat → Int → gaH → Nat → Nat → Prop), ∀ (hK27 : ∀ (v0 : Nat) (v1 : Nat) (v2 : Nat) (v3 : Nat) (v4 : Int) (h : gaH) (kc ks : Nat), K27 v0 v1 v2 v3 v4 h kc ks → gaP p l e room_1 s m args below meth c G 7 Z 27 [some (.ref v0), some (.ref v1), some (.ref v2), some (.ref v3), some (gi v4), none, none] [] h kc ks), ∀ (v0 : Nat) (v1 : Nat) (v2 : Nat) (v3 : Nat) (v4 : Int) (h : gaH) (kc ks : Nat), w_L_law_J1464 G K27 v0 v1 v2 v3 v4 h kc ks → gaP p l e room_1 s m args below meth c G 7 Z 1464 [some (.ref v0), some (.ref v1), some (.ref v2), some (.ref v3), some (gi v4), none, none] [] h kc ks := by
  intro K27 hK27
  intro v0 v1 v2 v3 v4 h kc ks hw
  unfold w_L_law_J1464 at hw
  refine g_aload_n V dL_law_1464 rfl rfl ?_
  refine g_aload_n V dL_law_1465 rfl rfl ?_
  refine g_iload V dL_law_1466 rfl rfl ?_
  refine g_iconst V (Int32.ofInt 1) dL_law_1468 rfl rfl ?_
  refine gi_iadd V dL_law_1469 rfl ?_
  obtain ⟨t9, vs, r1, ha, ht, h0, h9, hv, hw⟩ := hw
  refine gi_iaload V ha ht h0 h9 hv dL_law_1470 rfl ?_
  refine g_aload_n V dL_law_1471 rfl rfl ?_
  refine g_iload V dL_law_1472 rfl rfl ?_
  refine g_iconst V (Int32.ofInt 2) dL_law_1474 rfl rfl ?_
  refine gi_iadd V dL_law_1475 rfl ?_
  obtain ⟨t9, vs, r2, ha, ht, h0, h9, hv, hw⟩ := hw
  refine gi_iaload V ha ht h0 h9 hv dL_law_1476 rfl ?_
  refine g_aload_n V dL_law_1477 rfl rfl ?_
  refine g_iload V dL_law_1478 rfl rfl ?_
  refine g_iconst V (Int32.ofInt 3) dL_law_1480 rfl rfl ?_
  refine gi_iadd V dL_law_1481 rfl ?_
  obtain ⟨t9, vs, r3, ha, ht, h0, h9, hv, hw⟩ := hw
  refine gi_iaload V ha ht h0 h9 hv dL_law_1482 rfl ?_
  refine g_aload_n V dL_law_1483 rfl rfl ?_
  obtain ⟨hk, hj, c6, s7, ec, es, hw⟩ := hw
  refine g_callSX (st := []) V (k_L_twos hst hw) ww_3_170 ww_3_171 ww_1_0 ww_3_172 hd_L_twos ⟨by decide, by decide⟩ rfl rfl (ga_cat rfl) dL_law_1484 hk hj rfl ga_none (ga_ki (fun r5 hp4 hw => ?_))
  refine ga_re ec es ?_
  refine g_istore (lv2 := [some (.ref v0), some (.ref v1), some (.ref v2), some (.ref v3), some (gi v4), some (gi r5), none]) V dL_law_1487 (by decide) rfl rfl rfl ?_
  refine g_aload_n V dL_law_1489 rfl rfl ?_
  refine g_aload_n V dL_law_1490 rfl rfl ?_
  refine g_iload V dL_law_1491 rfl rfl ?_
  refine g_iconst V (Int32.ofInt 1) dL_law_1493 rfl rfl ?_
  refine gi_iadd V dL_law_1494 rfl ?_
  obtain ⟨t9, vs, r8, ha, ht, h0, h9, hv, hw⟩ := hw
  refine gi_iaload V ha ht h0 h9 hv dL_law_1495 rfl ?_
  refine g_aload_n V dL_law_1496 rfl rfl ?_
  refine g_iload V dL_law_1497 rfl rfl ?_
  refine g_iconst V (Int32.ofInt 2) dL_law_1499 rfl rfl ?_
  refine gi_iadd V dL_law_1500 rfl ?_
  obtain ⟨t9, vs, r9, ha, ht, h0, h9, hv, hw⟩ := hw
  refine gi_iaload V ha ht h0 h9 hv dL_law_1501 rfl ?_
  refine g_aload_n V dL_law_1502 rfl rfl ?_
  refine g_iload V dL_law_1503 rfl rfl ?_
  refine g_iconst V (Int32.ofInt 3) dL_law_1505 rfl rfl ?_
  refine gi_iadd V dL_law_1506 rfl ?_
  obtain ⟨t9, vs, r10, ha, ht, h0, h9, hv, hw⟩ := hw
  refine gi_iaload V ha ht h0 h9 hv dL_law_1507 rfl ?_
  obtain ⟨hb, hw⟩ := hw
  obtain ⟨fb, hb⟩ := hb
  obtain ⟨hk, hj, c13, s14, ec, es, hw⟩ := hw
  refine g_callV (C := RX7) (T := TX7) (N := 8) (st := []) V (k_X7_twos hst hw) ww_6_128 ww_6_129 ww_6_130 ww_1_5 ww_6_131 hd_X7_twos ⟨by decide, by decide⟩ rfl (by decide) hb rfl rfl (ga_cat rfl) dL_law_1508 hk hj rfl ga_none (ga_ki (fun r12 hp11 hw => ?_))
  refine ga_re ec es ?_
  refine g_istore (lv2 := [some (.ref v0), some (.ref v1), some (.ref v2), some (.ref v3), some (gi v4), some (gi r5), some (gi r12)]) V dL_law_1511 (by decide) rfl rfl rfl ?_
  refine g_aload_n V dL_law_1513 rfl rfl ?_
  obtain ⟨hb, hw⟩ := hw
  obtain ⟨fb, hb⟩ := hb
  refine g_callV (C := RX7) (T := TX7) (N := 8) (st := []) V (k_X7_thrown hst hw) ww_5_206 ww_5_207 ww_5_208 ww_1_5 ww_5_209 hd_X7_thrown ⟨by decide, by decide⟩ rfl (by decide) hb rfl rfl (ga_cat rfl) dL_law_1514 (Nat.zero_le _) (Nat.zero_le _) rfl ga_none (ga_ki (fun r16 hp15 hw => ?_))
  refine g_iload V dL_law_1517 rfl rfl ?_
  obtain ⟨hx0, hx1, hw⟩ := hw
  refine gi_icmp_eq V dL_law_1519 rfl rfl hx0 hx1 (fun q => ?_) (fun q => ?_)
  · have hw := ga_t q hw
    refine g_iload V dL_law_1524 rfl rfl ?_
    obtain ⟨hx0, hw⟩ := hw
    refine gi_if_ne V dL_law_1526 rfl rfl hx0 (fun q => ?_) (fun q => ?_)
    · have hw := ga_f q hw
      refine g_goto V dL_law_1542 rfl ?_
      refine g_less (bs := [true, true, true, true, true, false, false]) (lv2 := [some (.ref v0), some (.ref v1), some (.ref v2), some (.ref v3), some (gi v4), none, none]) rfl ?_
      exact hl_L_law_J3472 hst V hend K27 hK27 v0 v1 v2 v3 v4 hp15 c13 s14 hw
    · have hw := ga_t q hw
      refine g_aload_n V dL_law_1529 rfl rfl ?_
      obtain ⟨fs, r17, ha, hv, hw⟩ := hw
      refine g_getN (C := RX6) (T := TX6) (N := 2) (host := "WordgardenLaw") V 0 rfl hin_RX6 (by decide) (by decide) gn_22 rfl ha hv dL_law_1530 rfl ?_
      refine g_iload V dL_law_1533 rfl rfl ?_
      refine gi_i2l V dL_law_1535 rfl ?_
      refine gi_lcmp V dL_law_1536 rfl ?_
      obtain ⟨hx0, hw⟩ := hw
      refine gi_if_eq V dL_law_1537 rfl rfl hx0 (fun q => ?_) (fun q => ?_)
      · have hw := ga_t q hw
        refine g_goto V dL_law_1542 rfl ?_
        refine g_less (bs := [true, true, true, true, true, false, false]) (lv2 := [some (.ref v0), some (.ref v1), some (.ref v2), some (.ref v3), some (gi v4), none, none]) rfl ?_
        exact hl_L_law_J3472 hst V hend K27 hK27 v0 v1 v2 v3 v4 hp15 c13 s14 hw
      · have hw := ga_f q hw
        refine g_iconst V (Int32.ofInt 0) dL_law_1540 rfl rfl ?_
        exact hw.elim
  · have hw := ga_f q hw
    refine g_iconst V (Int32.ofInt 0) dL_law_1522 rfl rfl ?_
    exact hw.elim
theorem hl_L_law_J1383 {p : Program} {l : Launch} {e : Env} {s : State} {m : MethodId} {args : Array Value} {below : List Frame} {meth : Method} {c : Code} {G : gaG} {nm : String} {Z : State → Prop} (hst : l.stackTraces = false) (V : gaV p l s m args meth c G code RL 7 gaW ret nm) (hend : ∀ (pc : Nat) (lv : List (Option Value)) (h : gaH) (k j : Nat), decode code pc = .ok (.ireturn, 1) → gaP p l e room_1 s m args below meth c G 7 Z pc lv [gi 1] h k j) : ∀ (K27 : Nat → Nat → Nat → Nat → Int → gaH → Nat → Nat → Prop), ∀ (hK27 : ∀ (v0 : Nat) (v1 : Nat) (v2 : Nat) (v3 : Nat) (v4 : Int) (h : gaH) (kc ks : Nat), K27 v0 v1 v2 v3 v4 h kc ks → gaP p l e room_1 s m args below meth c G 7 Z 27 [some (.ref v0), some (.ref v1), some (.ref v2), some (.ref v3), some (gi v4), none, none] [] h kc ks), ∀ (v0 : Nat) (v1 : Nat) (v2 : Nat) (v3 : Nat) (v4 : Int) (h : gaH) (kc ks : Nat), w_L_law_J1383 G K27 v0 v1 v2 v3 v4 h kc ks → gaP p l e room_1 s m args below meth c G 7 Z 1383 [some (.ref v0), some (.ref v1), some (.ref v2), some (.ref v3), some (gi v4), none, none] [] h kc ks := by
  intro K27 hK27
  intro v0 v1 v2 v3 v4 h kc ks hw
  unfold w_L_law_J1383 at hw
  refine g_aload_n V dL_law_1383 rfl rfl ?_
  refine g_aload_n V dL_law_1384 rfl rfl ?_
  refine g_iload V dL_law_1385 rfl rfl ?_
  refine g_iconst V (Int32.ofInt 1) dL_law_1387 rfl rfl ?_
  refine gi_iadd V dL_law_1388 rfl ?_
  obtain ⟨t9, vs, r1, ha, ht, h0, h9, hv, hw⟩ := hw
  refine gi_iaload V ha ht h0 h9 hv dL_law_1389 rfl ?_
  refine g_aload_n V dL_law_1390 rfl rfl ?_
  refine g_iload V dL_law_1391 rfl rfl ?_
  refine g_iconst V (Int32.ofInt 2) dL_law_1393 rfl rfl ?_
  refine gi_iadd V dL_law_1394 rfl ?_
  obtain ⟨t9, vs, r2, ha, ht, h0, h9, hv, hw⟩ := hw
  refine gi_iaload V ha ht h0 h9 hv dL_law_1395 rfl ?_
  refine g_aload_n V dL_law_1396 rfl rfl ?_
  refine g_iload V dL_law_1397 rfl rfl ?_
  refine g_iconst V (Int32.ofInt 3) dL_law_1399 rfl rfl ?_
  refine gi_iadd V dL_law_1400 rfl ?_
  obtain ⟨t9, vs, r3, ha, ht, h0, h9, hv, hw⟩ := hw
  refine gi_iaload V ha ht h0 h9 hv dL_law_1401 rfl ?_
  refine g_aload_n V dL_law_1402 rfl rfl ?_
  obtain ⟨hk, hj, c6, s7, ec, es, hw⟩ := hw
  refine g_callSX (st := []) V (k_L_lay hst hw) ww_3_163 ww_3_164 ww_1_0 ww_3_165 hd_L_lay ⟨by decide, by decide⟩ rfl rfl (ga_cat rfl) dL_law_1403 hk hj rfl ga_none (ga_ki (fun r5 hp4 hw => ?_))
  refine ga_re ec es ?_
  refine g_istore (lv2 := [some (.ref v0), some (.ref v1), some (.ref v2), some (.ref v3), some (gi v4), some (gi r5), none]) V dL_law_1406 (by decide) rfl rfl rfl ?_
  refine g_aload_n V dL_law_1408 rfl rfl ?_
  refine g_aload_n V dL_law_1409 rfl rfl ?_
  refine g_iload V dL_law_1410 rfl rfl ?_
  refine g_iconst V (Int32.ofInt 1) dL_law_1412 rfl rfl ?_
  refine gi_iadd V dL_law_1413 rfl ?_
  obtain ⟨t9, vs, r8, ha, ht, h0, h9, hv, hw⟩ := hw
  refine gi_iaload V ha ht h0 h9 hv dL_law_1414 rfl ?_
  refine g_aload_n V dL_law_1415 rfl rfl ?_
  refine g_iload V dL_law_1416 rfl rfl ?_
  refine g_iconst V (Int32.ofInt 2) dL_law_1418 rfl rfl ?_
  refine gi_iadd V dL_law_1419 rfl ?_
  obtain ⟨t9, vs, r9, ha, ht, h0, h9, hv, hw⟩ := hw
  refine gi_iaload V ha ht h0 h9 hv dL_law_1420 rfl ?_
  refine g_aload_n V dL_law_1421 rfl rfl ?_
  refine g_iload V dL_law_1422 rfl rfl ?_
  refine g_iconst V (Int32.ofInt 3) dL_law_1424 rfl rfl ?_
  refine gi_iadd V dL_law_1425 rfl ?_
  obtain ⟨t9, vs, r10, ha, ht, h0, h9, hv, hw⟩ := hw
  refine gi_iaload V ha ht h0 h9 hv dL_law_1426 rfl ?_
  obtain ⟨hb, hw⟩ := hw
  obtain ⟨fb, hb⟩ := hb
  obtain ⟨hk, hj, c13, s14, ec, es, hw⟩ := hw
  refine g_callV (C := RX7) (T := TX7) (N := 8) (st := []) V (k_X7_lay hst hw) ww_6_106 ww_6_107 ww_6_108 ww_1_5 ww_6_109 hd_X7_lay ⟨by decide, by decide⟩ rfl (by decide) hb rfl rfl (ga_cat rfl) dL_law_1427 hk hj rfl ga_none (ga_ki (fun r12 hp11 hw => ?_))
  refine ga_re ec es ?_
  refine g_istore (lv2 := [some (.ref v0), some (.ref v1), some (.ref v2), some (.ref v3), some (gi v4), some (gi r5), some (gi r12)]) V dL_law_1430 (by decide) rfl rfl rfl ?_
  refine g_aload_n V dL_law_1432 rfl rfl ?_
  obtain ⟨hb, hw⟩ := hw
  obtain ⟨fb, hb⟩ := hb
  refine g_callV (C := RX7) (T := TX7) (N := 8) (st := []) V (k_X7_thrown hst hw) ww_5_206 ww_5_207 ww_5_208 ww_1_5 ww_5_209 hd_X7_thrown ⟨by decide, by decide⟩ rfl (by decide) hb rfl rfl (ga_cat rfl) dL_law_1433 (Nat.zero_le _) (Nat.zero_le _) rfl ga_none (ga_ki (fun r16 hp15 hw => ?_))
  refine g_iload V dL_law_1436 rfl rfl ?_
  obtain ⟨hx0, hx1, hw⟩ := hw
  refine gi_icmp_eq V dL_law_1438 rfl rfl hx0 hx1 (fun q => ?_) (fun q => ?_)
  · have hw := ga_t q hw
    refine g_iload V dL_law_1443 rfl rfl ?_
    obtain ⟨hx0, hw⟩ := hw
    refine gi_if_ne V dL_law_1445 rfl rfl hx0 (fun q => ?_) (fun q => ?_)
    · have hw := ga_f q hw
      refine g_goto V dL_law_1461 rfl ?_
      refine g_less (bs := [true, true, true, true, true, false, false]) (lv2 := [some (.ref v0), some (.ref v1), some (.ref v2), some (.ref v3), some (gi v4), none, none]) rfl ?_
      exact hl_L_law_J3472 hst V hend K27 hK27 v0 v1 v2 v3 v4 hp15 c13 s14 hw
    · have hw := ga_t q hw
      refine g_aload_n V dL_law_1448 rfl rfl ?_
      obtain ⟨fs, r17, ha, hv, hw⟩ := hw
      refine g_getN (C := RX6) (T := TX6) (N := 2) (host := "WordgardenLaw") V 0 rfl hin_RX6 (by decide) (by decide) gn_22 rfl ha hv dL_law_1449 rfl ?_
      refine g_iload V dL_law_1452 rfl rfl ?_
      refine gi_i2l V dL_law_1454 rfl ?_
      refine gi_lcmp V dL_law_1455 rfl ?_
      obtain ⟨hx0, hw⟩ := hw
      refine gi_if_eq V dL_law_1456 rfl rfl hx0 (fun q => ?_) (fun q => ?_)
      · have hw := ga_t q hw
        refine g_goto V dL_law_1461 rfl ?_
        refine g_less (bs := [true, true, true, true, true, false, false]) (lv2 := [some (.ref v0), some (.ref v1), some (.ref v2), some (.ref v3), some (gi v4), none, none]) rfl ?_
        exact hl_L_law_J3472 hst V hend K27 hK27 v0 v1 v2 v3 v4 hp15 c13 s14 hw
      · have hw := ga_f q hw
        refine g_iconst V (Int32.ofInt 0) dL_law_1459 rfl rfl ?_
        exact hw.elim
  · have hw := ga_f q hw
    refine g_iconst V (Int32.ofInt 0) dL_law_1441 rfl rfl ?_
    exact hw.elim
theorem hl_L_law_J1302 {p : Program} {l : Launch} {e : Env} {s : State} {m : MethodId} {args : Array Value} {below : List Frame} {meth : Method} {c : Code} {G : gaG} {nm : String} {Z : State → Prop} (hst : l.stackTraces = false) (V : gaV p l s m args meth c G code RL 7 gaW ret nm) (hend : ∀ (pc : Nat) (lv : List (Option Value)) (h : gaH) (k j : Nat), decode code pc = .ok (.ireturn, 1) → gaP p l e room_1 s m args below meth c G 7 Z pc lv [gi 1] h k j) : ∀ (K27 : Nat → Nat → Nat → Nat → Int → gaH → Nat → Nat → Prop), ∀ (hK27 : ∀ (v0 : Nat) (v1 : Nat) (v2 : Nat) (v3 : Nat) (v4 : Int) (h : gaH) (kc ks : Nat), K27 v0 v1 v2 v3 v4 h kc ks → gaP p l e room_1 s m args below meth c G 7 Z 27 [some (.ref v0), some (.ref v1), some (.ref v2), some (.ref v3), some (gi v4), none, none] [] h kc ks), ∀ (v0 : Nat) (v1 : Nat) (v2 : Nat) (v3 : Nat) (v4 : Int) (h : gaH) (kc ks : Nat), w_L_law_J1302 G K27 v0 v1 v2 v3 v4 h kc ks → gaP p l e room_1 s m args below meth c G 7 Z 1302 [some (.ref v0), some (.ref v1), some (.ref v2), some (.ref v3), some (gi v4), none, none] [] h kc ks := by
  intro K27 hK27
  intro v0 v1 v2 v3 v4 h kc ks hw
  unfold w_L_law_J1302 at hw
  refine g_aload_n V dL_law_1302 rfl rfl ?_
  refine g_aload_n V dL_law_1303 rfl rfl ?_
  refine g_iload V dL_law_1304 rfl rfl ?_
  refine g_iconst V (Int32.ofInt 1) dL_law_1306 rfl rfl ?_
  refine gi_iadd V dL_law_1307 rfl ?_
  obtain ⟨t9, vs, r1, ha, ht, h0, h9, hv, hw⟩ := hw
  refine gi_iaload V ha ht h0 h9 hv dL_law_1308 rfl ?_
  refine g_aload_n V dL_law_1309 rfl rfl ?_
  refine g_iload V dL_law_1310 rfl rfl ?_
  refine g_iconst V (Int32.ofInt 2) dL_law_1312 rfl rfl ?_
  refine gi_iadd V dL_law_1313 rfl ?_
  obtain ⟨t9, vs, r2, ha, ht, h0, h9, hv, hw⟩ := hw
  refine gi_iaload V ha ht h0 h9 hv dL_law_1314 rfl ?_
  refine g_aload_n V dL_law_1315 rfl rfl ?_
  refine g_iload V dL_law_1316 rfl rfl ?_
  refine g_iconst V (Int32.ofInt 3) dL_law_1318 rfl rfl ?_
  refine gi_iadd V dL_law_1319 rfl ?_
  obtain ⟨t9, vs, r3, ha, ht, h0, h9, hv, hw⟩ := hw
  refine gi_iaload V ha ht h0 h9 hv dL_law_1320 rfl ?_
  refine g_aload_n V dL_law_1321 rfl rfl ?_
  obtain ⟨hk, hj, c6, s7, ec, es, hw⟩ := hw
  refine g_callSX (st := []) V (k_L_undo hst hw) ww_3_111 ww_3_112 ww_1_0 ww_3_113 hd_L_undo ⟨by decide, by decide⟩ rfl rfl (ga_cat rfl) dL_law_1322 hk hj rfl ga_none (ga_ki (fun r5 hp4 hw => ?_))
  refine ga_re ec es ?_
  refine g_istore (lv2 := [some (.ref v0), some (.ref v1), some (.ref v2), some (.ref v3), some (gi v4), some (gi r5), none]) V dL_law_1325 (by decide) rfl rfl rfl ?_
  refine g_aload_n V dL_law_1327 rfl rfl ?_
  refine g_aload_n V dL_law_1328 rfl rfl ?_
  refine g_iload V dL_law_1329 rfl rfl ?_
  refine g_iconst V (Int32.ofInt 1) dL_law_1331 rfl rfl ?_
  refine gi_iadd V dL_law_1332 rfl ?_
  obtain ⟨t9, vs, r8, ha, ht, h0, h9, hv, hw⟩ := hw
  refine gi_iaload V ha ht h0 h9 hv dL_law_1333 rfl ?_
  refine g_aload_n V dL_law_1334 rfl rfl ?_
  refine g_iload V dL_law_1335 rfl rfl ?_
  refine g_iconst V (Int32.ofInt 2) dL_law_1337 rfl rfl ?_
  refine gi_iadd V dL_law_1338 rfl ?_
  obtain ⟨t9, vs, r9, ha, ht, h0, h9, hv, hw⟩ := hw
  refine gi_iaload V ha ht h0 h9 hv dL_law_1339 rfl ?_
  refine g_aload_n V dL_law_1340 rfl rfl ?_
  refine g_iload V dL_law_1341 rfl rfl ?_
  refine g_iconst V (Int32.ofInt 3) dL_law_1343 rfl rfl ?_
  refine gi_iadd V dL_law_1344 rfl ?_
  obtain ⟨t9, vs, r10, ha, ht, h0, h9, hv, hw⟩ := hw
  refine gi_iaload V ha ht h0 h9 hv dL_law_1345 rfl ?_
  obtain ⟨hb, hw⟩ := hw
  obtain ⟨fb, hb⟩ := hb
  obtain ⟨hk, hj, c13, s14, ec, es, hw⟩ := hw
  refine g_callV (C := RX7) (T := TX7) (N := 8) (st := []) V (k_X7_undo hst hw) ww_6_96 ww_6_97 ww_6_98 ww_1_5 ww_6_99 hd_X7_undo ⟨by decide, by decide⟩ rfl (by decide) hb rfl rfl (ga_cat rfl) dL_law_1346 hk hj rfl ga_none (ga_ki (fun r12 hp11 hw => ?_))
  refine ga_re ec es ?_
  refine g_istore (lv2 := [some (.ref v0), some (.ref v1), some (.ref v2), some (.ref v3), some (gi v4), some (gi r5), some (gi r12)]) V dL_law_1349 (by decide) rfl rfl rfl ?_
  refine g_aload_n V dL_law_1351 rfl rfl ?_
  obtain ⟨hb, hw⟩ := hw
  obtain ⟨fb, hb⟩ := hb
  refine g_callV (C := RX7) (T := TX7) (N := 8) (st := []) V (k_X7_thrown hst hw) ww_5_206 ww_5_207 ww_5_208 ww_1_5 ww_5_209 hd_X7_thrown ⟨by decide, by decide⟩ rfl (by decide) hb rfl rfl (ga_cat rfl) dL_law_1352 (Nat.zero_le _) (Nat.zero_le _) rfl ga_none (ga_ki (fun r16 hp15 hw => ?_))
  refine g_iload V dL_law_1355 rfl rfl ?_
  obtain ⟨hx0, hx1, hw⟩ := hw
  refine gi_icmp_eq V dL_law_1357 rfl rfl hx0 hx1 (fun q => ?_) (fun q => ?_)
  · have hw := ga_t q hw
    refine g_iload V dL_law_1362 rfl rfl ?_
    obtain ⟨hx0, hw⟩ := hw
    refine gi_if_ne V dL_law_1364 rfl rfl hx0 (fun q => ?_) (fun q => ?_)
    · have hw := ga_f q hw
      refine g_goto V dL_law_1380 rfl ?_
      refine g_less (bs := [true, true, true, true, true, false, false]) (lv2 := [some (.ref v0), some (.ref v1), some (.ref v2), some (.ref v3), some (gi v4), none, none]) rfl ?_
      exact hl_L_law_J3472 hst V hend K27 hK27 v0 v1 v2 v3 v4 hp15 c13 s14 hw
    · have hw := ga_t q hw
      refine g_aload_n V dL_law_1367 rfl rfl ?_
      obtain ⟨fs, r17, ha, hv, hw⟩ := hw
      refine g_getN (C := RX6) (T := TX6) (N := 2) (host := "WordgardenLaw") V 0 rfl hin_RX6 (by decide) (by decide) gn_22 rfl ha hv dL_law_1368 rfl ?_
      refine g_iload V dL_law_1371 rfl rfl ?_
      refine gi_i2l V dL_law_1373 rfl ?_
      refine gi_lcmp V dL_law_1374 rfl ?_
      obtain ⟨hx0, hw⟩ := hw
      refine gi_if_eq V dL_law_1375 rfl rfl hx0 (fun q => ?_) (fun q => ?_)
      · have hw := ga_t q hw
        refine g_goto V dL_law_1380 rfl ?_
        refine g_less (bs := [true, true, true, true, true, false, false]) (lv2 := [some (.ref v0), some (.ref v1), some (.ref v2), some (.ref v3), some (gi v4), none, none]) rfl ?_
        exact hl_L_law_J3472 hst V hend K27 hK27 v0 v1 v2 v3 v4 hp15 c13 s14 hw
      · have hw := ga_f q hw
        refine g_iconst V (Int32.ofInt 0) dL_law_1378 rfl rfl ?_
        exact hw.elim
  · have hw := ga_f q hw
    refine g_iconst V (Int32.ofInt 0) dL_law_1360 rfl rfl ?_
    exact hw.elim
theorem hl_L_law_J1221 {p : Program} {l : Launch} {e : Env} {s : State} {m : MethodId} {args : Array Value} {below : List Frame} {meth : Method} {c : Code} {G : gaG} {nm : String} {Z : State → Prop} (hst : l.stackTraces = false) (V : gaV p l s m args meth c G code RL 7 gaW ret nm) (hend : ∀ (pc : Nat) (lv : List (Option Value)) (h : gaH) (k j : Nat), decode code pc = .ok (.ireturn, 1) → gaP p l e room_1 s m args below meth c G 7 Z pc lv [gi 1] h k j) : ∀ (K27 : Nat → Nat → Nat → Nat → Int → gaH → Nat → Nat → Prop), ∀ (hK27 : ∀ (v0 : Nat) (v1 : Nat) (v2 : Nat) (v3 : Nat) (v4 : Int) (h : gaH) (kc ks : Nat), K27 v0 v1 v2 v3 v4 h kc ks → gaP p l e room_1 s m args below meth c G 7 Z 27 [some (.ref v0), some (.ref v1), some (.ref v2), some (.ref v3), some (gi v4), none, none] [] h kc ks), ∀ (v0 : Nat) (v1 : Nat) (v2 : Nat) (v3 : Nat) (v4 : Int) (h : gaH) (kc ks : Nat), w_L_law_J1221 G K27 v0 v1 v2 v3 v4 h kc ks → gaP p l e room_1 s m args below meth c G 7 Z 1221 [some (.ref v0), some (.ref v1), some (.ref v2), some (.ref v3), some (gi v4), none, none] [] h kc ks := by
  intro K27 hK27
  intro v0 v1 v2 v3 v4 h kc ks hw
  unfold w_L_law_J1221 at hw
  refine g_aload_n V dL_law_1221 rfl rfl ?_
  refine g_aload_n V dL_law_1222 rfl rfl ?_
  refine g_iload V dL_law_1223 rfl rfl ?_
  refine g_iconst V (Int32.ofInt 1) dL_law_1225 rfl rfl ?_
  refine gi_iadd V dL_law_1226 rfl ?_
  obtain ⟨t9, vs, r1, ha, ht, h0, h9, hv, hw⟩ := hw
  refine gi_iaload V ha ht h0 h9 hv dL_law_1227 rfl ?_
  refine g_aload_n V dL_law_1228 rfl rfl ?_
  refine g_iload V dL_law_1229 rfl rfl ?_
  refine g_iconst V (Int32.ofInt 2) dL_law_1231 rfl rfl ?_
  refine gi_iadd V dL_law_1232 rfl ?_
  obtain ⟨t9, vs, r2, ha, ht, h0, h9, hv, hw⟩ := hw
  refine gi_iaload V ha ht h0 h9 hv dL_law_1233 rfl ?_
  refine g_aload_n V dL_law_1234 rfl rfl ?_
  refine g_iload V dL_law_1235 rfl rfl ?_
  refine g_iconst V (Int32.ofInt 3) dL_law_1237 rfl rfl ?_
  refine gi_iadd V dL_law_1238 rfl ?_
  obtain ⟨t9, vs, r3, ha, ht, h0, h9, hv, hw⟩ := hw
  refine gi_iaload V ha ht h0 h9 hv dL_law_1239 rfl ?_
  refine g_aload_n V dL_law_1240 rfl rfl ?_
  obtain ⟨hk, hj, c6, s7, ec, es, hw⟩ := hw
  refine g_callSX (st := []) V (k_L_apply hst hw) ww_3_93 ww_3_94 ww_1_0 ww_3_95 hd_L_apply ⟨by decide, by decide⟩ rfl rfl (ga_cat rfl) dL_law_1241 hk hj rfl ga_none (ga_ki (fun r5 hp4 hw => ?_))
  refine ga_re ec es ?_
  refine g_istore (lv2 := [some (.ref v0), some (.ref v1), some (.ref v2), some (.ref v3), some (gi v4), some (gi r5), none]) V dL_law_1244 (by decide) rfl rfl rfl ?_
  refine g_aload_n V dL_law_1246 rfl rfl ?_
  refine g_aload_n V dL_law_1247 rfl rfl ?_
  refine g_iload V dL_law_1248 rfl rfl ?_
  refine g_iconst V (Int32.ofInt 1) dL_law_1250 rfl rfl ?_
  refine gi_iadd V dL_law_1251 rfl ?_
  obtain ⟨t9, vs, r8, ha, ht, h0, h9, hv, hw⟩ := hw
  refine gi_iaload V ha ht h0 h9 hv dL_law_1252 rfl ?_
  refine g_aload_n V dL_law_1253 rfl rfl ?_
  refine g_iload V dL_law_1254 rfl rfl ?_
  refine g_iconst V (Int32.ofInt 2) dL_law_1256 rfl rfl ?_
  refine gi_iadd V dL_law_1257 rfl ?_
  obtain ⟨t9, vs, r9, ha, ht, h0, h9, hv, hw⟩ := hw
  refine gi_iaload V ha ht h0 h9 hv dL_law_1258 rfl ?_
  refine g_aload_n V dL_law_1259 rfl rfl ?_
  refine g_iload V dL_law_1260 rfl rfl ?_
  refine g_iconst V (Int32.ofInt 3) dL_law_1262 rfl rfl ?_
  refine gi_iadd V dL_law_1263 rfl ?_
  obtain ⟨t9, vs, r10, ha, ht, h0, h9, hv, hw⟩ := hw
  refine gi_iaload V ha ht h0 h9 hv dL_law_1264 rfl ?_
  obtain ⟨hb, hw⟩ := hw
  obtain ⟨fb, hb⟩ := hb
  obtain ⟨hk, hj, c13, s14, ec, es, hw⟩ := hw
  refine g_callV (C := RX7) (T := TX7) (N := 8) (st := []) V (k_X7_apply hst hw) ww_6_89 ww_6_90 ww_6_91 ww_1_5 ww_6_92 hd_X7_apply ⟨by decide, by decide⟩ rfl (by decide) hb rfl rfl (ga_cat rfl) dL_law_1265 hk hj rfl ga_none (ga_ki (fun r12 hp11 hw => ?_))
  refine ga_re ec es ?_
  refine g_istore (lv2 := [some (.ref v0), some (.ref v1), some (.ref v2), some (.ref v3), some (gi v4), some (gi r5), some (gi r12)]) V dL_law_1268 (by decide) rfl rfl rfl ?_
  refine g_aload_n V dL_law_1270 rfl rfl ?_
  obtain ⟨hb, hw⟩ := hw
  obtain ⟨fb, hb⟩ := hb
  refine g_callV (C := RX7) (T := TX7) (N := 8) (st := []) V (k_X7_thrown hst hw) ww_5_206 ww_5_207 ww_5_208 ww_1_5 ww_5_209 hd_X7_thrown ⟨by decide, by decide⟩ rfl (by decide) hb rfl rfl (ga_cat rfl) dL_law_1271 (Nat.zero_le _) (Nat.zero_le _) rfl ga_none (ga_ki (fun r16 hp15 hw => ?_))
  refine g_iload V dL_law_1274 rfl rfl ?_
  obtain ⟨hx0, hx1, hw⟩ := hw
  refine gi_icmp_eq V dL_law_1276 rfl rfl hx0 hx1 (fun q => ?_) (fun q => ?_)
  · have hw := ga_t q hw
    refine g_iload V dL_law_1281 rfl rfl ?_
    obtain ⟨hx0, hw⟩ := hw
    refine gi_if_ne V dL_law_1283 rfl rfl hx0 (fun q => ?_) (fun q => ?_)
    · have hw := ga_f q hw
      refine g_goto V dL_law_1299 rfl ?_
      refine g_less (bs := [true, true, true, true, true, false, false]) (lv2 := [some (.ref v0), some (.ref v1), some (.ref v2), some (.ref v3), some (gi v4), none, none]) rfl ?_
      exact hl_L_law_J3472 hst V hend K27 hK27 v0 v1 v2 v3 v4 hp15 c13 s14 hw
    · have hw := ga_t q hw
      refine g_aload_n V dL_law_1286 rfl rfl ?_
      obtain ⟨fs, r17, ha, hv, hw⟩ := hw
      refine g_getN (C := RX6) (T := TX6) (N := 2) (host := "WordgardenLaw") V 0 rfl hin_RX6 (by decide) (by decide) gn_22 rfl ha hv dL_law_1287 rfl ?_
      refine g_iload V dL_law_1290 rfl rfl ?_
      refine gi_i2l V dL_law_1292 rfl ?_
      refine gi_lcmp V dL_law_1293 rfl ?_
      obtain ⟨hx0, hw⟩ := hw
      refine gi_if_eq V dL_law_1294 rfl rfl hx0 (fun q => ?_) (fun q => ?_)
      · have hw := ga_t q hw
        refine g_goto V dL_law_1299 rfl ?_
        refine g_less (bs := [true, true, true, true, true, false, false]) (lv2 := [some (.ref v0), some (.ref v1), some (.ref v2), some (.ref v3), some (gi v4), none, none]) rfl ?_
        exact hl_L_law_J3472 hst V hend K27 hK27 v0 v1 v2 v3 v4 hp15 c13 s14 hw
      · have hw := ga_f q hw
        refine g_iconst V (Int32.ofInt 0) dL_law_1297 rfl rfl ?_
        exact hw.elim
  · have hw := ga_f q hw
    refine g_iconst V (Int32.ofInt 0) dL_law_1279 rfl rfl ?_
    exact hw.elim
theorem hl_L_law_J1152 {p : Program} {l : Launch} {e : Env} {s : State} {m : MethodId} {args : Array Value} {below : List Frame} {meth : Method} {c : Code} {G : gaG} {nm : String} {Z : State → Prop} (hst : l.stackTraces = false) (V : gaV p l s m args meth c G code RL 7 gaW ret nm) (hend : ∀ (pc : Nat) (lv : List (Option Value)) (h : gaH) (k j : Nat), decode code pc = .ok (.ireturn, 1) → gaP p l e room_1 s m args below meth c G 7 Z pc lv [gi 1] h k j) : ∀ (K27 : Nat → Nat → Nat → Nat → Int → gaH → Nat → Nat → Prop), ∀ (hK27 : ∀ (v0 : Nat) (v1 : Nat) (v2 : Nat) (v3 : Nat) (v4 : Int) (h : gaH) (kc ks : Nat), K27 v0 v1 v2 v3 v4 h kc ks → gaP p l e room_1 s m args below meth c G 7 Z 27 [some (.ref v0), some (.ref v1), some (.ref v2), some (.ref v3), some (gi v4), none, none] [] h kc ks), ∀ (v0 : Nat) (v1 : Nat) (v2 : Nat) (v3 : Nat) (v4 : Int) (h : gaH) (kc ks : Nat), w_L_law_J1152 G K27 v0 v1 v2 v3 v4 h kc ks → gaP p l e room_1 s m args below meth c G 7 Z 1152 [some (.ref v0), some (.ref v1), some (.ref v2), some (.ref v3), some (gi v4), none, none] [] h kc ks := by
  intro K27 hK27
  intro v0 v1 v2 v3 v4 h kc ks hw
  unfold w_L_law_J1152 at hw
  refine g_aload_n V dL_law_1152 rfl rfl ?_
  refine g_aload_n V dL_law_1153 rfl rfl ?_
  refine g_iload V dL_law_1154 rfl rfl ?_
  refine g_iconst V (Int32.ofInt 1) dL_law_1156 rfl rfl ?_
  refine gi_iadd V dL_law_1157 rfl ?_
  obtain ⟨t9, vs, r1, ha, ht, h0, h9, hv, hw⟩ := hw
  refine gi_iaload V ha ht h0 h9 hv dL_law_1158 rfl ?_
  refine g_aload_n V dL_law_1159 rfl rfl ?_
  refine g_iload V dL_law_1160 rfl rfl ?_
  refine g_iconst V (Int32.ofInt 2) dL_law_1162 rfl rfl ?_
  refine gi_iadd V dL_law_1163 rfl ?_
  obtain ⟨t9, vs, r2, ha, ht, h0, h9, hv, hw⟩ := hw
  refine gi_iaload V ha ht h0 h9 hv dL_law_1164 rfl ?_
  refine g_aload_n V dL_law_1165 rfl rfl ?_
  obtain ⟨hk, hj, c5, s6, ec, es, hw⟩ := hw
  refine g_callSX (st := []) V (k_L_copy hst hw) ww_3_86 ww_3_87 ww_1_0 ww_3_88 hd_L_copy ⟨by decide, by decide⟩ rfl rfl (ga_cat rfl) dL_law_1166 hk hj rfl ga_none (ga_ki (fun r4 hp3 hw => ?_))
  refine ga_re ec es ?_
  refine g_istore (lv2 := [some (.ref v0), some (.ref v1), some (.ref v2), some (.ref v3), some (gi v4), some (gi r4), none]) V dL_law_1169 (by decide) rfl rfl rfl ?_
  refine g_aload_n V dL_law_1171 rfl rfl ?_
  refine g_aload_n V dL_law_1172 rfl rfl ?_
  refine g_iload V dL_law_1173 rfl rfl ?_
  refine g_iconst V (Int32.ofInt 1) dL_law_1175 rfl rfl ?_
  refine gi_iadd V dL_law_1176 rfl ?_
  obtain ⟨t9, vs, r7, ha, ht, h0, h9, hv, hw⟩ := hw
  refine gi_iaload V ha ht h0 h9 hv dL_law_1177 rfl ?_
  refine g_aload_n V dL_law_1178 rfl rfl ?_
  refine g_iload V dL_law_1179 rfl rfl ?_
  refine g_iconst V (Int32.ofInt 2) dL_law_1181 rfl rfl ?_
  refine gi_iadd V dL_law_1182 rfl ?_
  obtain ⟨t9, vs, r8, ha, ht, h0, h9, hv, hw⟩ := hw
  refine gi_iaload V ha ht h0 h9 hv dL_law_1183 rfl ?_
  obtain ⟨hb, hw⟩ := hw
  obtain ⟨fb, hb⟩ := hb
  refine g_callV (C := RX7) (T := TX7) (N := 8) (st := []) V (k_X7_copy hst hw) ww_6_85 ww_6_86 ww_6_87 ww_1_5 ww_6_88 hd_X7_copy ⟨by decide, by decide⟩ rfl (by decide) hb rfl rfl (ga_cat rfl) dL_law_1184 (Nat.zero_le _) (Nat.zero_le _) rfl ga_none (ga_ki (fun r10 hp9 hw => ?_))
  refine g_istore (lv2 := [some (.ref v0), some (.ref v1), some (.ref v2), some (.ref v3), some (gi v4), some (gi r4), some (gi r10)]) V dL_law_1187 (by decide) rfl rfl rfl ?_
  refine g_aload_n V dL_law_1189 rfl rfl ?_
  obtain ⟨hb, hw⟩ := hw
  obtain ⟨fb, hb⟩ := hb
  refine g_callV (C := RX7) (T := TX7) (N := 8) (st := []) V (k_X7_thrown hst hw) ww_5_206 ww_5_207 ww_5_208 ww_1_5 ww_5_209 hd_X7_thrown ⟨by decide, by decide⟩ rfl (by decide) hb rfl rfl (ga_cat rfl) dL_law_1190 (Nat.zero_le _) (Nat.zero_le _) rfl ga_none (ga_ki (fun r12 hp11 hw => ?_))
  refine g_iload V dL_law_1193 rfl rfl ?_
  obtain ⟨hx0, hx1, hw⟩ := hw
  refine gi_icmp_eq V dL_law_1195 rfl rfl hx0 hx1 (fun q => ?_) (fun q => ?_)
  · have hw := ga_t q hw
    refine g_iload V dL_law_1200 rfl rfl ?_
    obtain ⟨hx0, hw⟩ := hw
    refine gi_if_ne V dL_law_1202 rfl rfl hx0 (fun q => ?_) (fun q => ?_)
    · have hw := ga_f q hw
      refine g_goto V dL_law_1218 rfl ?_
      refine g_less (bs := [true, true, true, true, true, false, false]) (lv2 := [some (.ref v0), some (.ref v1), some (.ref v2), some (.ref v3), some (gi v4), none, none]) rfl ?_
      exact hl_L_law_J3472 hst V hend K27 hK27 v0 v1 v2 v3 v4 hp11 c5 s6 hw
    · have hw := ga_t q hw
      refine g_aload_n V dL_law_1205 rfl rfl ?_
      obtain ⟨fs, r13, ha, hv, hw⟩ := hw
      refine g_getN (C := RX6) (T := TX6) (N := 2) (host := "WordgardenLaw") V 0 rfl hin_RX6 (by decide) (by decide) gn_22 rfl ha hv dL_law_1206 rfl ?_
      refine g_iload V dL_law_1209 rfl rfl ?_
      refine gi_i2l V dL_law_1211 rfl ?_
      refine gi_lcmp V dL_law_1212 rfl ?_
      obtain ⟨hx0, hw⟩ := hw
      refine gi_if_eq V dL_law_1213 rfl rfl hx0 (fun q => ?_) (fun q => ?_)
      · have hw := ga_t q hw
        refine g_goto V dL_law_1218 rfl ?_
        refine g_less (bs := [true, true, true, true, true, false, false]) (lv2 := [some (.ref v0), some (.ref v1), some (.ref v2), some (.ref v3), some (gi v4), none, none]) rfl ?_
        exact hl_L_law_J3472 hst V hend K27 hK27 v0 v1 v2 v3 v4 hp11 c5 s6 hw
      · have hw := ga_f q hw
        refine g_iconst V (Int32.ofInt 0) dL_law_1216 rfl rfl ?_
        exact hw.elim
  · have hw := ga_f q hw
    refine g_iconst V (Int32.ofInt 0) dL_law_1198 rfl rfl ?_
    exact hw.elim
theorem hl_L_law_J1083 {p : Program} {l : Launch} {e : Env} {s : State} {m : MethodId} {args : Array Value} {below : List Frame} {meth : Method} {c : Code} {G : gaG} {nm : String} {Z : State → Prop} (hst : l.stackTraces = false) (V : gaV p l s m args meth c G code RL 7 gaW ret nm) (hend : ∀ (pc : Nat) (lv : List (Option Value)) (h : gaH) (k j : Nat), decode code pc = .ok (.ireturn, 1) → gaP p l e room_1 s m args below meth c G 7 Z pc lv [gi 1] h k j) : ∀ (K27 : Nat → Nat → Nat → Nat → Int → gaH → Nat → Nat → Prop), ∀ (hK27 : ∀ (v0 : Nat) (v1 : Nat) (v2 : Nat) (v3 : Nat) (v4 : Int) (h : gaH) (kc ks : Nat), K27 v0 v1 v2 v3 v4 h kc ks → gaP p l e room_1 s m args below meth c G 7 Z 27 [some (.ref v0), some (.ref v1), some (.ref v2), some (.ref v3), some (gi v4), none, none] [] h kc ks), ∀ (v0 : Nat) (v1 : Nat) (v2 : Nat) (v3 : Nat) (v4 : Int) (h : gaH) (kc ks : Nat), w_L_law_J1083 G K27 v0 v1 v2 v3 v4 h kc ks → gaP p l e room_1 s m args below meth c G 7 Z 1083 [some (.ref v0), some (.ref v1), some (.ref v2), some (.ref v3), some (gi v4), none, none] [] h kc ks := by
  intro K27 hK27
  intro v0 v1 v2 v3 v4 h kc ks hw
  unfold w_L_law_J1083 at hw
  refine g_aload_n V dL_law_1083 rfl rfl ?_
  refine g_aload_n V dL_law_1084 rfl rfl ?_
  refine g_iload V dL_law_1085 rfl rfl ?_
  refine g_iconst V (Int32.ofInt 1) dL_law_1087 rfl rfl ?_
  refine gi_iadd V dL_law_1088 rfl ?_
  obtain ⟨t9, vs, r1, ha, ht, h0, h9, hv, hw⟩ := hw
  refine gi_iaload V ha ht h0 h9 hv dL_law_1089 rfl ?_
  refine g_aload_n V dL_law_1090 rfl rfl ?_
  refine g_iload V dL_law_1091 rfl rfl ?_
  refine g_iconst V (Int32.ofInt 2) dL_law_1093 rfl rfl ?_
  refine gi_iadd V dL_law_1094 rfl ?_
  obtain ⟨t9, vs, r2, ha, ht, h0, h9, hv, hw⟩ := hw
  refine gi_iaload V ha ht h0 h9 hv dL_law_1095 rfl ?_
  refine g_aload_n V dL_law_1096 rfl rfl ?_
  obtain ⟨hk, hj, c5, s6, ec, es, hw⟩ := hw
  refine g_callSX (st := []) V (k_L_rotate hst hw) ww_3_79 ww_3_80 ww_1_0 ww_3_81 hd_L_rotate ⟨by decide, by decide⟩ rfl rfl (ga_cat rfl) dL_law_1097 hk hj rfl ga_none (ga_ki (fun r4 hp3 hw => ?_))
  refine ga_re ec es ?_
  refine g_istore (lv2 := [some (.ref v0), some (.ref v1), some (.ref v2), some (.ref v3), some (gi v4), some (gi r4), none]) V dL_law_1100 (by decide) rfl rfl rfl ?_
  refine g_aload_n V dL_law_1102 rfl rfl ?_
  refine g_aload_n V dL_law_1103 rfl rfl ?_
  refine g_iload V dL_law_1104 rfl rfl ?_
  refine g_iconst V (Int32.ofInt 1) dL_law_1106 rfl rfl ?_
  refine gi_iadd V dL_law_1107 rfl ?_
  obtain ⟨t9, vs, r7, ha, ht, h0, h9, hv, hw⟩ := hw
  refine gi_iaload V ha ht h0 h9 hv dL_law_1108 rfl ?_
  refine g_aload_n V dL_law_1109 rfl rfl ?_
  refine g_iload V dL_law_1110 rfl rfl ?_
  refine g_iconst V (Int32.ofInt 2) dL_law_1112 rfl rfl ?_
  refine gi_iadd V dL_law_1113 rfl ?_
  obtain ⟨t9, vs, r8, ha, ht, h0, h9, hv, hw⟩ := hw
  refine gi_iaload V ha ht h0 h9 hv dL_law_1114 rfl ?_
  obtain ⟨hb, hw⟩ := hw
  obtain ⟨fb, hb⟩ := hb
  obtain ⟨hk, hj, c11, s12, ec, es, hw⟩ := hw
  refine g_callV (C := RX7) (T := TX7) (N := 8) (st := []) V (k_X7_rotate hst hw) ww_6_81 ww_6_82 ww_6_83 ww_1_5 ww_6_84 hd_X7_rotate ⟨by decide, by decide⟩ rfl (by decide) hb rfl rfl (ga_cat rfl) dL_law_1115 hk hj rfl ga_none (ga_ki (fun r10 hp9 hw => ?_))
  refine ga_re ec es ?_
  refine g_istore (lv2 := [some (.ref v0), some (.ref v1), some (.ref v2), some (.ref v3), some (gi v4), some (gi r4), some (gi r10)]) V dL_law_1118 (by decide) rfl rfl rfl ?_
  refine g_aload_n V dL_law_1120 rfl rfl ?_
  obtain ⟨hb, hw⟩ := hw
  obtain ⟨fb, hb⟩ := hb
  refine g_callV (C := RX7) (T := TX7) (N := 8) (st := []) V (k_X7_thrown hst hw) ww_5_206 ww_5_207 ww_5_208 ww_1_5 ww_5_209 hd_X7_thrown ⟨by decide, by decide⟩ rfl (by decide) hb rfl rfl (ga_cat rfl) dL_law_1121 (Nat.zero_le _) (Nat.zero_le _) rfl ga_none (ga_ki (fun r14 hp13 hw => ?_))
  refine g_iload V dL_law_1124 rfl rfl ?_
  obtain ⟨hx0, hx1, hw⟩ := hw
  refine gi_icmp_eq V dL_law_1126 rfl rfl hx0 hx1 (fun q => ?_) (fun q => ?_)
  · have hw := ga_t q hw
    refine g_iload V dL_law_1131 rfl rfl ?_
    obtain ⟨hx0, hw⟩ := hw
    refine gi_if_ne V dL_law_1133 rfl rfl hx0 (fun q => ?_) (fun q => ?_)
    · have hw := ga_f q hw
      refine g_goto V dL_law_1149 rfl ?_
      refine g_less (bs := [true, true, true, true, true, false, false]) (lv2 := [some (.ref v0), some (.ref v1), some (.ref v2), some (.ref v3), some (gi v4), none, none]) rfl ?_
      exact hl_L_law_J3472 hst V hend K27 hK27 v0 v1 v2 v3 v4 hp13 c11 s12 hw
    · have hw := ga_t q hw
      refine g_aload_n V dL_law_1136 rfl rfl ?_
      obtain ⟨fs, r15, ha, hv, hw⟩ := hw
      refine g_getN (C := RX6) (T := TX6) (N := 2) (host := "WordgardenLaw") V 0 rfl hin_RX6 (by decide) (by decide) gn_22 rfl ha hv dL_law_1137 rfl ?_
      refine g_iload V dL_law_1140 rfl rfl ?_
      refine gi_i2l V dL_law_1142 rfl ?_
      refine gi_lcmp V dL_law_1143 rfl ?_
      obtain ⟨hx0, hw⟩ := hw
      refine gi_if_eq V dL_law_1144 rfl rfl hx0 (fun q => ?_) (fun q => ?_)
      · have hw := ga_t q hw
        refine g_goto V dL_law_1149 rfl ?_
        refine g_less (bs := [true, true, true, true, true, false, false]) (lv2 := [some (.ref v0), some (.ref v1), some (.ref v2), some (.ref v3), some (gi v4), none, none]) rfl ?_
        exact hl_L_law_J3472 hst V hend K27 hK27 v0 v1 v2 v3 v4 hp13 c11 s12 hw
      · have hw := ga_f q hw
        refine g_iconst V (Int32.ofInt 0) dL_law_1147 rfl rfl ?_
        exact hw.elim
  · have hw := ga_f q hw
    refine g_iconst V (Int32.ofInt 0) dL_law_1129 rfl rfl ?_
    exact hw.elim
theorem hl_L_law_J1026 {p : Program} {l : Launch} {e : Env} {s : State} {m : MethodId} {args : Array Value} {below : List Frame} {meth : Method} {c : Code} {G : gaG} {nm : String} {Z : State → Prop} (hst : l.stackTraces = false) (V : gaV p l s m args meth c G code RL 7 gaW ret nm) (hend : ∀ (pc : Nat) (lv : List (Option Value)) (h : gaH) (k j : Nat), decode code pc = .ok (.ireturn, 1) → gaP p l e room_1 s m args below meth c G 7 Z pc lv [gi 1] h k j) : ∀ (K27 : Nat → Nat → Nat → Nat → Int → gaH → Nat → Nat → Prop), ∀ (hK27 : ∀ (v0 : Nat) (v1 : Nat) (v2 : Nat) (v3 : Nat) (v4 : Int) (h : gaH) (kc ks : Nat), K27 v0 v1 v2 v3 v4 h kc ks → gaP p l e room_1 s m args below meth c G 7 Z 27 [some (.ref v0), some (.ref v1), some (.ref v2), some (.ref v3), some (gi v4), none, none] [] h kc ks), ∀ (v0 : Nat) (v1 : Nat) (v2 : Nat) (v3 : Nat) (v4 : Int) (h : gaH) (kc ks : Nat), w_L_law_J1026 G K27 v0 v1 v2 v3 v4 h kc ks → gaP p l e room_1 s m args below meth c G 7 Z 1026 [some (.ref v0), some (.ref v1), some (.ref v2), some (.ref v3), some (gi v4), none, none] [] h kc ks := by
  intro K27 hK27
  intro v0 v1 v2 v3 v4 h kc ks hw
  unfold w_L_law_J1026 at hw
  refine g_aload_n V dL_law_1026 rfl rfl ?_
  refine g_aload_n V dL_law_1027 rfl rfl ?_
  refine g_iload V dL_law_1028 rfl rfl ?_
  refine g_iconst V (Int32.ofInt 1) dL_law_1030 rfl rfl ?_
  refine gi_iadd V dL_law_1031 rfl ?_
  obtain ⟨t9, vs, r1, ha, ht, h0, h9, hv, hw⟩ := hw
  refine gi_iaload V ha ht h0 h9 hv dL_law_1032 rfl ?_
  refine g_aload_n V dL_law_1033 rfl rfl ?_
  obtain ⟨hk, hj, c4, s5, ec, es, hw⟩ := hw
  refine g_callSX (st := []) V (k_L_exchange hst hw) ww_3_72 ww_3_73 ww_1_0 ww_3_74 hd_L_exchange ⟨by decide, by decide⟩ rfl rfl (ga_cat rfl) dL_law_1034 hk hj rfl ga_none (ga_ki (fun r3 hp2 hw => ?_))
  refine ga_re ec es ?_
  refine g_istore (lv2 := [some (.ref v0), some (.ref v1), some (.ref v2), some (.ref v3), some (gi v4), some (gi r3), none]) V dL_law_1037 (by decide) rfl rfl rfl ?_
  refine g_aload_n V dL_law_1039 rfl rfl ?_
  refine g_aload_n V dL_law_1040 rfl rfl ?_
  refine g_iload V dL_law_1041 rfl rfl ?_
  refine g_iconst V (Int32.ofInt 1) dL_law_1043 rfl rfl ?_
  refine gi_iadd V dL_law_1044 rfl ?_
  obtain ⟨t9, vs, r6, ha, ht, h0, h9, hv, hw⟩ := hw
  refine gi_iaload V ha ht h0 h9 hv dL_law_1045 rfl ?_
  obtain ⟨hb, hw⟩ := hw
  obtain ⟨fb, hb⟩ := hb
  obtain ⟨hk, hj, c9, s10, ec, es, hw⟩ := hw
  refine g_callV (C := RX7) (T := TX7) (N := 8) (st := []) V (k_X7_exchange hst hw) ww_6_74 ww_6_75 ww_6_76 ww_1_5 ww_6_77 hd_X7_exchange ⟨by decide, by decide⟩ rfl (by decide) hb rfl rfl (ga_cat rfl) dL_law_1046 hk hj rfl ga_none (ga_ki (fun r8 hp7 hw => ?_))
  refine ga_re ec es ?_
  refine g_istore (lv2 := [some (.ref v0), some (.ref v1), some (.ref v2), some (.ref v3), some (gi v4), some (gi r3), some (gi r8)]) V dL_law_1049 (by decide) rfl rfl rfl ?_
  refine g_aload_n V dL_law_1051 rfl rfl ?_
  obtain ⟨hb, hw⟩ := hw
  obtain ⟨fb, hb⟩ := hb
  refine g_callV (C := RX7) (T := TX7) (N := 8) (st := []) V (k_X7_thrown hst hw) ww_5_206 ww_5_207 ww_5_208 ww_1_5 ww_5_209 hd_X7_thrown ⟨by decide, by decide⟩ rfl (by decide) hb rfl rfl (ga_cat rfl) dL_law_1052 (Nat.zero_le _) (Nat.zero_le _) rfl ga_none (ga_ki (fun r12 hp11 hw => ?_))
  refine g_iload V dL_law_1055 rfl rfl ?_
  obtain ⟨hx0, hx1, hw⟩ := hw
  refine gi_icmp_eq V dL_law_1057 rfl rfl hx0 hx1 (fun q => ?_) (fun q => ?_)
  · have hw := ga_t q hw
    refine g_iload V dL_law_1062 rfl rfl ?_
    obtain ⟨hx0, hw⟩ := hw
    refine gi_if_ne V dL_law_1064 rfl rfl hx0 (fun q => ?_) (fun q => ?_)
    · have hw := ga_f q hw
      refine g_goto V dL_law_1080 rfl ?_
      refine g_less (bs := [true, true, true, true, true, false, false]) (lv2 := [some (.ref v0), some (.ref v1), some (.ref v2), some (.ref v3), some (gi v4), none, none]) rfl ?_
      exact hl_L_law_J3472 hst V hend K27 hK27 v0 v1 v2 v3 v4 hp11 c9 s10 hw
    · have hw := ga_t q hw
      refine g_aload_n V dL_law_1067 rfl rfl ?_
      obtain ⟨fs, r13, ha, hv, hw⟩ := hw
      refine g_getN (C := RX6) (T := TX6) (N := 2) (host := "WordgardenLaw") V 0 rfl hin_RX6 (by decide) (by decide) gn_22 rfl ha hv dL_law_1068 rfl ?_
      refine g_iload V dL_law_1071 rfl rfl ?_
      refine gi_i2l V dL_law_1073 rfl ?_
      refine gi_lcmp V dL_law_1074 rfl ?_
      obtain ⟨hx0, hw⟩ := hw
      refine gi_if_eq V dL_law_1075 rfl rfl hx0 (fun q => ?_) (fun q => ?_)
      · have hw := ga_t q hw
        refine g_goto V dL_law_1080 rfl ?_
        refine g_less (bs := [true, true, true, true, true, false, false]) (lv2 := [some (.ref v0), some (.ref v1), some (.ref v2), some (.ref v3), some (gi v4), none, none]) rfl ?_
        exact hl_L_law_J3472 hst V hend K27 hK27 v0 v1 v2 v3 v4 hp11 c9 s10 hw
      · have hw := ga_f q hw
        refine g_iconst V (Int32.ofInt 0) dL_law_1078 rfl rfl ?_
        exact hw.elim
  · have hw := ga_f q hw
    refine g_iconst V (Int32.ofInt 0) dL_law_1060 rfl rfl ?_
    exact hw.elim
theorem hl_L_law_J969 {p : Program} {l : Launch} {e : Env} {s : State} {m : MethodId} {args : Array Value} {below : List Frame} {meth : Method} {c : Code} {G : gaG} {nm : String} {Z : State → Prop} (hst : l.stackTraces = false) (V : gaV p l s m args meth c G code RL 7 gaW ret nm) (hend : ∀ (pc : Nat) (lv : List (Option Value)) (h : gaH) (k j : Nat), decode code pc = .ok (.ireturn, 1) → gaP p l e room_1 s m args below meth c G 7 Z pc lv [gi 1] h k j) : ∀ (K27 : Nat → Nat → Nat → Nat → Int → gaH → Nat → Nat → Prop), ∀ (hK27 : ∀ (v0 : Nat) (v1 : Nat) (v2 : Nat) (v3 : Nat) (v4 : Int) (h : gaH) (kc ks : Nat), K27 v0 v1 v2 v3 v4 h kc ks → gaP p l e room_1 s m args below meth c G 7 Z 27 [some (.ref v0), some (.ref v1), some (.ref v2), some (.ref v3), some (gi v4), none, none] [] h kc ks), ∀ (v0 : Nat) (v1 : Nat) (v2 : Nat) (v3 : Nat) (v4 : Int) (h : gaH) (kc ks : Nat), w_L_law_J969 G K27 v0 v1 v2 v3 v4 h kc ks → gaP p l e room_1 s m args below meth c G 7 Z 969 [some (.ref v0), some (.ref v1), some (.ref v2), some (.ref v3), some (gi v4), none, none] [] h kc ks := by
  intro K27 hK27
  intro v0 v1 v2 v3 v4 h kc ks hw
  unfold w_L_law_J969 at hw
  refine g_aload_n V dL_law_969 rfl rfl ?_
  refine g_aload_n V dL_law_970 rfl rfl ?_
  refine g_iload V dL_law_971 rfl rfl ?_
  refine g_iconst V (Int32.ofInt 1) dL_law_973 rfl rfl ?_
  refine gi_iadd V dL_law_974 rfl ?_
  obtain ⟨t9, vs, r1, ha, ht, h0, h9, hv, hw⟩ := hw
  refine gi_iaload V ha ht h0 h9 hv dL_law_975 rfl ?_
  refine g_aload_n V dL_law_976 rfl rfl ?_
  obtain ⟨hk, hj, c4, s5, ec, es, hw⟩ := hw
  refine g_callSX (st := []) V (k_L_turn hst hw) ww_3_61 ww_3_62 ww_1_0 ww_3_63 hd_L_turn ⟨by decide, by decide⟩ rfl rfl (ga_cat rfl) dL_law_977 hk hj rfl ga_none (ga_ki (fun r3 hp2 hw => ?_))
  refine ga_re ec es ?_
  refine g_istore (lv2 := [some (.ref v0), some (.ref v1), some (.ref v2), some (.ref v3), some (gi v4), some (gi r3), none]) V dL_law_980 (by decide) rfl rfl rfl ?_
  refine g_aload_n V dL_law_982 rfl rfl ?_
  refine g_aload_n V dL_law_983 rfl rfl ?_
  refine g_iload V dL_law_984 rfl rfl ?_
  refine g_iconst V (Int32.ofInt 1) dL_law_986 rfl rfl ?_
  refine gi_iadd V dL_law_987 rfl ?_
  obtain ⟨t9, vs, r6, ha, ht, h0, h9, hv, hw⟩ := hw
  refine gi_iaload V ha ht h0 h9 hv dL_law_988 rfl ?_
  obtain ⟨hb, hw⟩ := hw
  obtain ⟨fb, hb⟩ := hb
  obtain ⟨hk, hj, c9, s10, ec, es, hw⟩ := hw
  refine g_callV (C := RX7) (T := TX7) (N := 8) (st := []) V (k_X7_turn hst hw) ww_6_57 ww_6_58 ww_6_59 ww_1_5 ww_6_60 hd_X7_turn ⟨by decide, by decide⟩ rfl (by decide) hb rfl rfl (ga_cat rfl) dL_law_989 hk hj rfl ga_none (ga_ki (fun r8 hp7 hw => ?_))
  refine ga_re ec es ?_
  refine g_istore (lv2 := [some (.ref v0), some (.ref v1), some (.ref v2), some (.ref v3), some (gi v4), some (gi r3), some (gi r8)]) V dL_law_992 (by decide) rfl rfl rfl ?_
  refine g_aload_n V dL_law_994 rfl rfl ?_
  obtain ⟨hb, hw⟩ := hw
  obtain ⟨fb, hb⟩ := hb
  refine g_callV (C := RX7) (T := TX7) (N := 8) (st := []) V (k_X7_thrown hst hw) ww_5_206 ww_5_207 ww_5_208 ww_1_5 ww_5_209 hd_X7_thrown ⟨by decide, by decide⟩ rfl (by decide) hb rfl rfl (ga_cat rfl) dL_law_995 (Nat.zero_le _) (Nat.zero_le _) rfl ga_none (ga_ki (fun r12 hp11 hw => ?_))
  refine g_iload V dL_law_998 rfl rfl ?_
  obtain ⟨hx0, hx1, hw⟩ := hw
  refine gi_icmp_eq V dL_law_1000 rfl rfl hx0 hx1 (fun q => ?_) (fun q => ?_)
  · have hw := ga_t q hw
    refine g_iload V dL_law_1005 rfl rfl ?_
    obtain ⟨hx0, hw⟩ := hw
    refine gi_if_ne V dL_law_1007 rfl rfl hx0 (fun q => ?_) (fun q => ?_)
    · have hw := ga_f q hw
      refine g_goto V dL_law_1023 rfl ?_
      refine g_less (bs := [true, true, true, true, true, false, false]) (lv2 := [some (.ref v0), some (.ref v1), some (.ref v2), some (.ref v3), some (gi v4), none, none]) rfl ?_
      exact hl_L_law_J3472 hst V hend K27 hK27 v0 v1 v2 v3 v4 hp11 c9 s10 hw
    · have hw := ga_t q hw
      refine g_aload_n V dL_law_1010 rfl rfl ?_
      obtain ⟨fs, r13, ha, hv, hw⟩ := hw
      refine g_getN (C := RX6) (T := TX6) (N := 2) (host := "WordgardenLaw") V 0 rfl hin_RX6 (by decide) (by decide) gn_22 rfl ha hv dL_law_1011 rfl ?_
      refine g_iload V dL_law_1014 rfl rfl ?_
      refine gi_i2l V dL_law_1016 rfl ?_
      refine gi_lcmp V dL_law_1017 rfl ?_
      obtain ⟨hx0, hw⟩ := hw
      refine gi_if_eq V dL_law_1018 rfl rfl hx0 (fun q => ?_) (fun q => ?_)
      · have hw := ga_t q hw
        refine g_goto V dL_law_1023 rfl ?_
        refine g_less (bs := [true, true, true, true, true, false, false]) (lv2 := [some (.ref v0), some (.ref v1), some (.ref v2), some (.ref v3), some (gi v4), none, none]) rfl ?_
        exact hl_L_law_J3472 hst V hend K27 hK27 v0 v1 v2 v3 v4 hp11 c9 s10 hw
      · have hw := ga_f q hw
        refine g_iconst V (Int32.ofInt 0) dL_law_1021 rfl rfl ?_
        exact hw.elim
  · have hw := ga_f q hw
    refine g_iconst V (Int32.ofInt 0) dL_law_1003 rfl rfl ?_
    exact hw.elim
theorem hl_L_law_J900 {p : Program} {l : Launch} {e : Env} {s : State} {m : MethodId} {args : Array Value} {below : List Frame} {meth : Method} {c : Code} {G : gaG} {nm : String} {Z : State → Prop} (hst : l.stackTraces = false) (V : gaV p l s m args meth c G code RL 7 gaW ret nm) (hend : ∀ (pc : Nat) (lv : List (Option Value)) (h : gaH) (k j : Nat), decode code pc = .ok (.ireturn, 1) → gaP p l e room_1 s m args below meth c G 7 Z pc lv [gi 1] h k j) : ∀ (K27 : Nat → Nat → Nat → Nat → Int → gaH → Nat → Nat → Prop), ∀ (hK27 : ∀ (v0 : Nat) (v1 : Nat) (v2 : Nat) (v3 : Nat) (v4 : Int) (h : gaH) (kc ks : Nat), K27 v0 v1 v2 v3 v4 h kc ks → gaP p l e room_1 s m args below meth c G 7 Z 27 [some (.ref v0), some (.ref v1), some (.ref v2), some (.ref v3), some (gi v4), none, none] [] h kc ks), ∀ (v0 : Nat) (v1 : Nat) (v2 : Nat) (v3 : Nat) (v4 : Int) (h : gaH) (kc ks : Nat), w_L_law_J900 G K27 v0 v1 v2 v3 v4 h kc ks → gaP p l e room_1 s m args below meth c G 7 Z 900 [some (.ref v0), some (.ref v1), some (.ref v2), some (.ref v3), some (gi v4), none, none] [] h kc ks := by
  intro K27 hK27
  intro v0 v1 v2 v3 v4 h kc ks hw
  unfold w_L_law_J900 at hw
  refine g_aload_n V dL_law_900 rfl rfl ?_
  refine g_aload_n V dL_law_901 rfl rfl ?_
  refine g_iload V dL_law_902 rfl rfl ?_
  refine g_iconst V (Int32.ofInt 1) dL_law_904 rfl rfl ?_
  refine gi_iadd V dL_law_905 rfl ?_
  obtain ⟨t9, vs, r1, ha, ht, h0, h9, hv, hw⟩ := hw
  refine gi_iaload V ha ht h0 h9 hv dL_law_906 rfl ?_
  refine g_aload_n V dL_law_907 rfl rfl ?_
  refine g_iload V dL_law_908 rfl rfl ?_
  refine g_iconst V (Int32.ofInt 2) dL_law_910 rfl rfl ?_
  refine gi_iadd V dL_law_911 rfl ?_
  obtain ⟨t9, vs, r2, ha, ht, h0, h9, hv, hw⟩ := hw
  refine gi_iaload V ha ht h0 h9 hv dL_law_912 rfl ?_
  refine g_aload_n V dL_law_913 rfl rfl ?_
  obtain ⟨hk, hj, c5, s6, ec, es, hw⟩ := hw
  refine g_callSX (st := []) V (k_L_cutTo hst hw) ww_3_53 ww_3_54 ww_1_0 ww_3_55 hd_L_cutTo ⟨by decide, by decide⟩ rfl rfl (ga_cat rfl) dL_law_914 hk hj rfl ga_none (ga_ki (fun r4 hp3 hw => ?_))
  refine ga_re ec es ?_
  refine g_istore (lv2 := [some (.ref v0), some (.ref v1), some (.ref v2), some (.ref v3), some (gi v4), some (gi r4), none]) V dL_law_917 (by decide) rfl rfl rfl ?_
  refine g_aload_n V dL_law_919 rfl rfl ?_
  refine g_aload_n V dL_law_920 rfl rfl ?_
  refine g_iload V dL_law_921 rfl rfl ?_
  refine g_iconst V (Int32.ofInt 1) dL_law_923 rfl rfl ?_
  refine gi_iadd V dL_law_924 rfl ?_
  obtain ⟨t9, vs, r7, ha, ht, h0, h9, hv, hw⟩ := hw
  refine gi_iaload V ha ht h0 h9 hv dL_law_925 rfl ?_
  refine g_aload_n V dL_law_926 rfl rfl ?_
  refine g_iload V dL_law_927 rfl rfl ?_
  refine g_iconst V (Int32.ofInt 2) dL_law_929 rfl rfl ?_
  refine gi_iadd V dL_law_930 rfl ?_
  obtain ⟨t9, vs, r8, ha, ht, h0, h9, hv, hw⟩ := hw
  refine gi_iaload V ha ht h0 h9 hv dL_law_931 rfl ?_
  obtain ⟨hb, hw⟩ := hw
  obtain ⟨fb, hb⟩ := hb
  obtain ⟨hk, hj, c11, s12, ec, es, hw⟩ := hw
  refine g_callV (C := RX7) (T := TX7) (N := 8) (st := []) V (k_X7_cutTo hst hw) ww_6_53 ww_6_54 ww_6_55 ww_1_5 ww_6_56 hd_X7_cutTo ⟨by decide, by decide⟩ rfl (by decide) hb rfl rfl (ga_cat rfl) dL_law_932 hk hj rfl ga_none (ga_ki (fun r10 hp9 hw => ?_))
  refine ga_re ec es ?_
  refine g_istore (lv2 := [some (.ref v0), some (.ref v1), some (.ref v2), some (.ref v3), some (gi v4), some (gi r4), some (gi r10)]) V dL_law_935 (by decide) rfl rfl rfl ?_
  refine g_aload_n V dL_law_937 rfl rfl ?_
  obtain ⟨hb, hw⟩ := hw
  obtain ⟨fb, hb⟩ := hb
  refine g_callV (C := RX7) (T := TX7) (N := 8) (st := []) V (k_X7_thrown hst hw) ww_5_206 ww_5_207 ww_5_208 ww_1_5 ww_5_209 hd_X7_thrown ⟨by decide, by decide⟩ rfl (by decide) hb rfl rfl (ga_cat rfl) dL_law_938 (Nat.zero_le _) (Nat.zero_le _) rfl ga_none (ga_ki (fun r14 hp13 hw => ?_))
  refine g_iload V dL_law_941 rfl rfl ?_
  obtain ⟨hx0, hx1, hw⟩ := hw
  refine gi_icmp_eq V dL_law_943 rfl rfl hx0 hx1 (fun q => ?_) (fun q => ?_)
  · have hw := ga_t q hw
    refine g_iload V dL_law_948 rfl rfl ?_
    obtain ⟨hx0, hw⟩ := hw
    refine gi_if_ne V dL_law_950 rfl rfl hx0 (fun q => ?_) (fun q => ?_)
    · have hw := ga_f q hw
      refine g_goto V dL_law_966 rfl ?_
      refine g_less (bs := [true, true, true, true, true, false, false]) (lv2 := [some (.ref v0), some (.ref v1), some (.ref v2), some (.ref v3), some (gi v4), none, none]) rfl ?_
      exact hl_L_law_J3472 hst V hend K27 hK27 v0 v1 v2 v3 v4 hp13 c11 s12 hw
    · have hw := ga_t q hw
      refine g_aload_n V dL_law_953 rfl rfl ?_
      obtain ⟨fs, r15, ha, hv, hw⟩ := hw
      refine g_getN (C := RX6) (T := TX6) (N := 2) (host := "WordgardenLaw") V 0 rfl hin_RX6 (by decide) (by decide) gn_22 rfl ha hv dL_law_954 rfl ?_
      refine g_iload V dL_law_957 rfl rfl ?_
      refine gi_i2l V dL_law_959 rfl ?_
      refine gi_lcmp V dL_law_960 rfl ?_
      obtain ⟨hx0, hw⟩ := hw
      refine gi_if_eq V dL_law_961 rfl rfl hx0 (fun q => ?_) (fun q => ?_)
      · have hw := ga_t q hw
        refine g_goto V dL_law_966 rfl ?_
        refine g_less (bs := [true, true, true, true, true, false, false]) (lv2 := [some (.ref v0), some (.ref v1), some (.ref v2), some (.ref v3), some (gi v4), none, none]) rfl ?_
        exact hl_L_law_J3472 hst V hend K27 hK27 v0 v1 v2 v3 v4 hp13 c11 s12 hw
      · have hw := ga_f q hw
        refine g_iconst V (Int32.ofInt 0) dL_law_964 rfl rfl ?_
        exact hw.elim
  · have hw := ga_f q hw
    refine g_iconst V (Int32.ofInt 0) dL_law_946 rfl rfl ?_
    exact hw.elim
theorem hl_L_law_J807 {p : Program} {l : Launch} {e : Env} {s : State} {m : MethodId} {args : Array Value} {below : List Frame} {meth : Method} {c : Code} {G : gaG} {nm : String} {Z : State → Prop} (hst : l.stackTraces = false) (V : gaV p l s m args meth c G code RL 7 gaW ret nm) (hend : ∀ (pc : Nat) (lv : List (Option Value)) (h : gaH) (k j : Nat), decode code pc = .ok (.ireturn, 1) → gaP p l e room_1 s m args below meth c G 7 Z pc lv [gi 1] h k j) : ∀ (K27 : Nat → Nat → Nat → Nat → Int → gaH → Nat → Nat → Prop), ∀ (hK27 : ∀ (v0 : Nat) (v1 : Nat) (v2 : Nat) (v3 : Nat) (v4 : Int) (h : gaH) (kc ks : Nat), K27 v0 v1 v2 v3 v4 h kc ks → gaP p l e room_1 s m args below meth c G 7 Z 27 [some (.ref v0), some (.ref v1), some (.ref v2), some (.ref v3), some (gi v4), none, none] [] h kc ks), ∀ (v0 : Nat) (v1 : Nat) (v2 : Nat) (v3 : Nat) (v4 : Int) (h : gaH) (kc ks : Nat), w_L_law_J807 G K27 v0 v1 v2 v3 v4 h kc ks → gaP p l e room_1 s m args below meth c G 7 Z 807 [some (.ref v0), some (.ref v1), some (.ref v2), some (.ref v3), some (gi v4), none, none] [] h kc ks := by
  intro K27 hK27
  intro v0 v1 v2 v3 v4 h kc ks hw
  unfold w_L_law_J807 at hw
  refine g_aload_n V dL_law_807 rfl rfl ?_
  refine g_aload_n V dL_law_808 rfl rfl ?_
  refine g_iload V dL_law_809 rfl rfl ?_
  refine g_iconst V (Int32.ofInt 1) dL_law_811 rfl rfl ?_
  refine gi_iadd V dL_law_812 rfl ?_
  obtain ⟨t9, vs, r1, ha, ht, h0, h9, hv, hw⟩ := hw
  refine gi_iaload V ha ht h0 h9 hv dL_law_813 rfl ?_
  refine g_aload_n V dL_law_814 rfl rfl ?_
  refine g_iload V dL_law_815 rfl rfl ?_
  refine g_iconst V (Int32.ofInt 2) dL_law_817 rfl rfl ?_
  refine gi_iadd V dL_law_818 rfl ?_
  obtain ⟨t9, vs, r2, ha, ht, h0, h9, hv, hw⟩ := hw
  refine gi_iaload V ha ht h0 h9 hv dL_law_819 rfl ?_
  refine g_aload_n V dL_law_820 rfl rfl ?_
  refine g_iload V dL_law_821 rfl rfl ?_
  refine g_iconst V (Int32.ofInt 3) dL_law_823 rfl rfl ?_
  refine gi_iadd V dL_law_824 rfl ?_
  obtain ⟨t9, vs, r3, ha, ht, h0, h9, hv, hw⟩ := hw
  refine gi_iaload V ha ht h0 h9 hv dL_law_825 rfl ?_
  refine g_aload_n V dL_law_826 rfl rfl ?_
  refine g_iload V dL_law_827 rfl rfl ?_
  refine g_iconst V (Int32.ofInt 4) dL_law_829 rfl rfl ?_
  refine gi_iadd V dL_law_830 rfl ?_
  obtain ⟨t9, vs, r4, ha, ht, h0, h9, hv, hw⟩ := hw
  refine gi_iaload V ha ht h0 h9 hv dL_law_831 rfl ?_
  refine g_aload_n V dL_law_832 rfl rfl ?_
  obtain ⟨hk, hj, c7, s8, ec, es, hw⟩ := hw
  refine g_callSX (st := []) V (k_L_replace hst hw) ww_3_46 ww_3_47 ww_1_0 ww_3_48 hd_L_replace ⟨by decide, by decide⟩ rfl rfl (ga_cat rfl) dL_law_833 hk hj rfl ga_none (ga_ki (fun r6 hp5 hw => ?_))
  refine ga_re ec es ?_
  refine g_istore (lv2 := [some (.ref v0), some (.ref v1), some (.ref v2), some (.ref v3), some (gi v4), some (gi r6), none]) V dL_law_836 (by decide) rfl rfl rfl ?_
  refine g_aload_n V dL_law_838 rfl rfl ?_
  refine g_aload_n V dL_law_839 rfl rfl ?_
  refine g_iload V dL_law_840 rfl rfl ?_
  refine g_iconst V (Int32.ofInt 1) dL_law_842 rfl rfl ?_
  refine gi_iadd V dL_law_843 rfl ?_
  obtain ⟨t9, vs, r9, ha, ht, h0, h9, hv, hw⟩ := hw
  refine gi_iaload V ha ht h0 h9 hv dL_law_844 rfl ?_
  refine g_aload_n V dL_law_845 rfl rfl ?_
  refine g_iload V dL_law_846 rfl rfl ?_
  refine g_iconst V (Int32.ofInt 2) dL_law_848 rfl rfl ?_
  refine gi_iadd V dL_law_849 rfl ?_
  obtain ⟨t9, vs, r10, ha, ht, h0, h9, hv, hw⟩ := hw
  refine gi_iaload V ha ht h0 h9 hv dL_law_850 rfl ?_
  refine g_aload_n V dL_law_851 rfl rfl ?_
  refine g_iload V dL_law_852 rfl rfl ?_
  refine g_iconst V (Int32.ofInt 3) dL_law_854 rfl rfl ?_
  refine gi_iadd V dL_law_855 rfl ?_
  obtain ⟨t9, vs, r11, ha, ht, h0, h9, hv, hw⟩ := hw
  refine gi_iaload V ha ht h0 h9 hv dL_law_856 rfl ?_
  refine g_aload_n V dL_law_857 rfl rfl ?_
  refine g_iload V dL_law_858 rfl rfl ?_
  refine g_iconst V (Int32.ofInt 4) dL_law_860 rfl rfl ?_
  refine gi_iadd V dL_law_861 rfl ?_
  obtain ⟨t9, vs, r12, ha, ht, h0, h9, hv, hw⟩ := hw
  refine gi_iaload V ha ht h0 h9 hv dL_law_862 rfl ?_
  obtain ⟨hb, hw⟩ := hw
  obtain ⟨fb, hb⟩ := hb
  obtain ⟨hk, hj, c15, s16, ec, es, hw⟩ := hw
  refine g_callV (C := RX7) (T := TX7) (N := 8) (st := []) V (k_X7_replace hst hw) ww_6_49 ww_6_50 ww_6_51 ww_1_5 ww_6_52 hd_X7_replace ⟨by decide, by decide⟩ rfl (by decide) hb rfl rfl (ga_cat rfl) dL_law_863 hk hj rfl ga_none (ga_ki (fun r14 hp13 hw => ?_))
  refine ga_re ec es ?_
  refine g_istore (lv2 := [some (.ref v0), some (.ref v1), some (.ref v2), some (.ref v3), some (gi v4), some (gi r6), some (gi r14)]) V dL_law_866 (by decide) rfl rfl rfl ?_
  refine g_aload_n V dL_law_868 rfl rfl ?_
  obtain ⟨hb, hw⟩ := hw
  obtain ⟨fb, hb⟩ := hb
  refine g_callV (C := RX7) (T := TX7) (N := 8) (st := []) V (k_X7_thrown hst hw) ww_5_206 ww_5_207 ww_5_208 ww_1_5 ww_5_209 hd_X7_thrown ⟨by decide, by decide⟩ rfl (by decide) hb rfl rfl (ga_cat rfl) dL_law_869 (Nat.zero_le _) (Nat.zero_le _) rfl ga_none (ga_ki (fun r18 hp17 hw => ?_))
  refine g_iload V dL_law_872 rfl rfl ?_
  obtain ⟨hx0, hx1, hw⟩ := hw
  refine gi_icmp_eq V dL_law_874 rfl rfl hx0 hx1 (fun q => ?_) (fun q => ?_)
  · have hw := ga_t q hw
    refine g_iload V dL_law_879 rfl rfl ?_
    obtain ⟨hx0, hw⟩ := hw
    refine gi_if_ne V dL_law_881 rfl rfl hx0 (fun q => ?_) (fun q => ?_)
    · have hw := ga_f q hw
      refine g_goto V dL_law_897 rfl ?_
      refine g_less (bs := [true, true, true, true, true, false, false]) (lv2 := [some (.ref v0), some (.ref v1), some (.ref v2), some (.ref v3), some (gi v4), none, none]) rfl ?_
      exact hl_L_law_J3472 hst V hend K27 hK27 v0 v1 v2 v3 v4 hp17 c15 s16 hw
    · have hw := ga_t q hw
      refine g_aload_n V dL_law_884 rfl rfl ?_
      obtain ⟨fs, r19, ha, hv, hw⟩ := hw
      refine g_getN (C := RX6) (T := TX6) (N := 2) (host := "WordgardenLaw") V 0 rfl hin_RX6 (by decide) (by decide) gn_22 rfl ha hv dL_law_885 rfl ?_
      refine g_iload V dL_law_888 rfl rfl ?_
      refine gi_i2l V dL_law_890 rfl ?_
      refine gi_lcmp V dL_law_891 rfl ?_
      obtain ⟨hx0, hw⟩ := hw
      refine gi_if_eq V dL_law_892 rfl rfl hx0 (fun q => ?_) (fun q => ?_)
      · have hw := ga_t q hw
        refine g_goto V dL_law_897 rfl ?_
        refine g_less (bs := [true, true, true, true, true, false, false]) (lv2 := [some (.ref v0), some (.ref v1), some (.ref v2), some (.ref v3), some (gi v4), none, none]) rfl ?_
        exact hl_L_law_J3472 hst V hend K27 hK27 v0 v1 v2 v3 v4 hp17 c15 s16 hw
      · have hw := ga_f q hw
        refine g_iconst V (Int32.ofInt 0) dL_law_895 rfl rfl ?_
        exact hw.elim
  · have hw := ga_f q hw
    refine g_iconst V (Int32.ofInt 0) dL_law_877 rfl rfl ?_
    exact hw.elim
theorem hl_L_law_J726 {p : Program} {l : Launch} {e : Env} {s : State} {m : MethodId} {args : Array Value} {below : List Frame} {meth : Method} {c : Code} {G : gaG} {nm : String} {Z : State → Prop} (hst : l.stackTraces = false) (V : gaV p l s m args meth c G code RL 7 gaW ret nm) (hend : ∀ (pc : Nat) (lv : List (Option Value)) (h : gaH) (k j : Nat), decode code pc = .ok (.ireturn, 1) → gaP p l e room_1 s m args below meth c G 7 Z pc lv [gi 1] h k j) : ∀ (K27 : Nat → Nat → Nat → Nat → Int → gaH → Nat → Nat → Prop), ∀ (hK27 : ∀ (v0 : Nat) (v1 : Nat) (v2 : Nat) (v3 : Nat) (v4 : Int) (h : gaH) (kc ks : Nat), K27 v0 v1 v2 v3 v4 h kc ks → gaP p l e room_1 s m args below meth c G 7 Z 27 [some (.ref v0), some (.ref v1), some (.ref v2), some (.ref v3), some (gi v4), none, none] [] h kc ks), ∀ (v0 : Nat) (v1 : Nat) (v2 : Nat) (v3 : Nat) (v4 : Int) (h : gaH) (kc ks : Nat), w_L_law_J726 G K27 v0 v1 v2 v3 v4 h kc ks → gaP p l e room_1 s m args below meth c G 7 Z 726 [some (.ref v0), some (.ref v1), some (.ref v2), some (.ref v3), some (gi v4), none, none] [] h kc ks := by
  intro K27 hK27
  intro v0 v1 v2 v3 v4 h kc ks hw
  unfold w_L_law_J726 at hw
  refine g_aload_n V dL_law_726 rfl rfl ?_
  refine g_aload_n V dL_law_727 rfl rfl ?_
  refine g_iload V dL_law_728 rfl rfl ?_
  refine g_iconst V (Int32.ofInt 1) dL_law_730 rfl rfl ?_
  refine gi_iadd V dL_law_731 rfl ?_
  obtain ⟨t9, vs, r1, ha, ht, h0, h9, hv, hw⟩ := hw
  refine gi_iaload V ha ht h0 h9 hv dL_law_732 rfl ?_
  refine g_aload_n V dL_law_733 rfl rfl ?_
  refine g_iload V dL_law_734 rfl rfl ?_
  refine g_iconst V (Int32.ofInt 2) dL_law_736 rfl rfl ?_
  refine gi_iadd V dL_law_737 rfl ?_
  obtain ⟨t9, vs, r2, ha, ht, h0, h9, hv, hw⟩ := hw
  refine gi_iaload V ha ht h0 h9 hv dL_law_738 rfl ?_
  refine g_aload_n V dL_law_739 rfl rfl ?_
  refine g_iload V dL_law_740 rfl rfl ?_
  refine g_iconst V (Int32.ofInt 3) dL_law_742 rfl rfl ?_
  refine gi_iadd V dL_law_743 rfl ?_
  obtain ⟨t9, vs, r3, ha, ht, h0, h9, hv, hw⟩ := hw
  refine gi_iaload V ha ht h0 h9 hv dL_law_744 rfl ?_
  refine g_aload_n V dL_law_745 rfl rfl ?_
  obtain ⟨hk, hj, c6, s7, ec, es, hw⟩ := hw
  refine g_callSX (st := []) V (k_L_remove hst hw) ww_3_39 ww_3_40 ww_1_0 ww_3_41 hd_L_remove ⟨by decide, by decide⟩ rfl rfl (ga_cat rfl) dL_law_746 hk hj rfl ga_none (ga_ki (fun r5 hp4 hw => ?_))
  refine ga_re ec es ?_
  refine g_istore (lv2 := [some (.ref v0), some (.ref v1), some (.ref v2), some (.ref v3), some (gi v4), some (gi r5), none]) V dL_law_749 (by decide) rfl rfl rfl ?_
  refine g_aload_n V dL_law_751 rfl rfl ?_
  refine g_aload_n V dL_law_752 rfl rfl ?_
  refine g_iload V dL_law_753 rfl rfl ?_
  refine g_iconst V (Int32.ofInt 1) dL_law_755 rfl rfl ?_
  refine gi_iadd V dL_law_756 rfl ?_
  obtain ⟨t9, vs, r8, ha, ht, h0, h9, hv, hw⟩ := hw
  refine gi_iaload V ha ht h0 h9 hv dL_law_757 rfl ?_
  refine g_aload_n V dL_law_758 rfl rfl ?_
  refine g_iload V dL_law_759 rfl rfl ?_
  refine g_iconst V (Int32.ofInt 2) dL_law_761 rfl rfl ?_
  refine gi_iadd V dL_law_762 rfl ?_
  obtain ⟨t9, vs, r9, ha, ht, h0, h9, hv, hw⟩ := hw
  refine gi_iaload V ha ht h0 h9 hv dL_law_763 rfl ?_
  refine g_aload_n V dL_law_764 rfl rfl ?_
  refine g_iload V dL_law_765 rfl rfl ?_
  refine g_iconst V (Int32.ofInt 3) dL_law_767 rfl rfl ?_
  refine gi_iadd V dL_law_768 rfl ?_
  obtain ⟨t9, vs, r10, ha, ht, h0, h9, hv, hw⟩ := hw
  refine gi_iaload V ha ht h0 h9 hv dL_law_769 rfl ?_
  obtain ⟨hb, hw⟩ := hw
  obtain ⟨fb, hb⟩ := hb
  obtain ⟨hk, hj, c13, s14, ec, es, hw⟩ := hw
  refine g_callV (C := RX7) (T := TX7) (N := 8) (st := []) V (k_X7_remove hst hw) ww_6_38 ww_6_39 ww_6_40 ww_1_5 ww_6_41 hd_X7_remove ⟨by decide, by decide⟩ rfl (by decide) hb rfl rfl (ga_cat rfl) dL_law_770 hk hj rfl ga_none (ga_ki (fun r12 hp11 hw => ?_))
  refine ga_re ec es ?_
  refine g_istore (lv2 := [some (.ref v0), some (.ref v1), some (.ref v2), some (.ref v3), some (gi v4), some (gi r5), some (gi r12)]) V dL_law_773 (by decide) rfl rfl rfl ?_
  refine g_aload_n V dL_law_775 rfl rfl ?_
  obtain ⟨hb, hw⟩ := hw
  obtain ⟨fb, hb⟩ := hb
  refine g_callV (C := RX7) (T := TX7) (N := 8) (st := []) V (k_X7_thrown hst hw) ww_5_206 ww_5_207 ww_5_208 ww_1_5 ww_5_209 hd_X7_thrown ⟨by decide, by decide⟩ rfl (by decide) hb rfl rfl (ga_cat rfl) dL_law_776 (Nat.zero_le _) (Nat.zero_le _) rfl ga_none (ga_ki (fun r16 hp15 hw => ?_))
  refine g_iload V dL_law_779 rfl rfl ?_
  obtain ⟨hx0, hx1, hw⟩ := hw
  refine gi_icmp_eq V dL_law_781 rfl rfl hx0 hx1 (fun q => ?_) (fun q => ?_)
  · have hw := ga_t q hw
    refine g_iload V dL_law_786 rfl rfl ?_
    obtain ⟨hx0, hw⟩ := hw
    refine gi_if_ne V dL_law_788 rfl rfl hx0 (fun q => ?_) (fun q => ?_)
    · have hw := ga_f q hw
      refine g_goto V dL_law_804 rfl ?_
      refine g_less (bs := [true, true, true, true, true, false, false]) (lv2 := [some (.ref v0), some (.ref v1), some (.ref v2), some (.ref v3), some (gi v4), none, none]) rfl ?_
      exact hl_L_law_J3472 hst V hend K27 hK27 v0 v1 v2 v3 v4 hp15 c13 s14 hw
    · have hw := ga_t q hw
      refine g_aload_n V dL_law_791 rfl rfl ?_
      obtain ⟨fs, r17, ha, hv, hw⟩ := hw
      refine g_getN (C := RX6) (T := TX6) (N := 2) (host := "WordgardenLaw") V 0 rfl hin_RX6 (by decide) (by decide) gn_22 rfl ha hv dL_law_792 rfl ?_
      refine g_iload V dL_law_795 rfl rfl ?_
      refine gi_i2l V dL_law_797 rfl ?_
      refine gi_lcmp V dL_law_798 rfl ?_
      obtain ⟨hx0, hw⟩ := hw
      refine gi_if_eq V dL_law_799 rfl rfl hx0 (fun q => ?_) (fun q => ?_)
      · have hw := ga_t q hw
        refine g_goto V dL_law_804 rfl ?_
        refine g_less (bs := [true, true, true, true, true, false, false]) (lv2 := [some (.ref v0), some (.ref v1), some (.ref v2), some (.ref v3), some (gi v4), none, none]) rfl ?_
        exact hl_L_law_J3472 hst V hend K27 hK27 v0 v1 v2 v3 v4 hp15 c13 s14 hw
      · have hw := ga_f q hw
        refine g_iconst V (Int32.ofInt 0) dL_law_802 rfl rfl ?_
        exact hw.elim
  · have hw := ga_f q hw
    refine g_iconst V (Int32.ofInt 0) dL_law_784 rfl rfl ?_
    exact hw.elim
theorem hl_L_law_J657 {p : Program} {l : Launch} {e : Env} {s : State} {m : MethodId} {args : Array Value} {below : List Frame} {meth : Method} {c : Code} {G : gaG} {nm : String} {Z : State → Prop} (hst : l.stackTraces = false) (V : gaV p l s m args meth c G code RL 7 gaW ret nm) (hend : ∀ (pc : Nat) (lv : List (Option Value)) (h : gaH) (k j : Nat), decode code pc = .ok (.ireturn, 1) → gaP p l e room_1 s m args below meth c G 7 Z pc lv [gi 1] h k j) : ∀ (K27 : Nat → Nat → Nat → Nat → Int → gaH → Nat → Nat → Prop), ∀ (hK27 : ∀ (v0 : Nat) (v1 : Nat) (v2 : Nat) (v3 : Nat) (v4 : Int) (h : gaH) (kc ks : Nat), K27 v0 v1 v2 v3 v4 h kc ks → gaP p l e room_1 s m args below meth c G 7 Z 27 [some (.ref v0), some (.ref v1), some (.ref v2), some (.ref v3), some (gi v4), none, none] [] h kc ks), ∀ (v0 : Nat) (v1 : Nat) (v2 : Nat) (v3 : Nat) (v4 : Int) (h : gaH) (kc ks : Nat), w_L_law_J657 G K27 v0 v1 v2 v3 v4 h kc ks → gaP p l e room_1 s m args below meth c G 7 Z 657 [some (.ref v0), some (.ref v1), some (.ref v2), some (.ref v3), some (gi v4), none, none] [] h kc ks := by
  intro K27 hK27
  intro v0 v1 v2 v3 v4 h kc ks hw
  unfold w_L_law_J657 at hw
  refine g_aload_n V dL_law_657 rfl rfl ?_
  refine g_aload_n V dL_law_658 rfl rfl ?_
  refine g_iload V dL_law_659 rfl rfl ?_
  refine g_iconst V (Int32.ofInt 1) dL_law_661 rfl rfl ?_
  refine gi_iadd V dL_law_662 rfl ?_
  obtain ⟨t9, vs, r1, ha, ht, h0, h9, hv, hw⟩ := hw
  refine gi_iaload V ha ht h0 h9 hv dL_law_663 rfl ?_
  refine g_aload_n V dL_law_664 rfl rfl ?_
  refine g_iload V dL_law_665 rfl rfl ?_
  refine g_iconst V (Int32.ofInt 2) dL_law_667 rfl rfl ?_
  refine gi_iadd V dL_law_668 rfl ?_
  obtain ⟨t9, vs, r2, ha, ht, h0, h9, hv, hw⟩ := hw
  refine gi_iaload V ha ht h0 h9 hv dL_law_669 rfl ?_
  refine g_aload_n V dL_law_670 rfl rfl ?_
  obtain ⟨hk, hj, c5, s6, ec, es, hw⟩ := hw
  refine g_callSX (st := []) V (k_L_removeSign hst hw) ww_3_25 ww_3_26 ww_1_0 ww_3_27 hd_L_removeSign ⟨by decide, by decide⟩ rfl rfl (ga_cat rfl) dL_law_671 hk hj rfl ga_none (ga_ki (fun r4 hp3 hw => ?_))
  refine ga_re ec es ?_
  refine g_istore (lv2 := [some (.ref v0), some (.ref v1), some (.ref v2), some (.ref v3), some (gi v4), some (gi r4), none]) V dL_law_674 (by decide) rfl rfl rfl ?_
  refine g_aload_n V dL_law_676 rfl rfl ?_
  refine g_aload_n V dL_law_677 rfl rfl ?_
  refine g_iload V dL_law_678 rfl rfl ?_
  refine g_iconst V (Int32.ofInt 1) dL_law_680 rfl rfl ?_
  refine gi_iadd V dL_law_681 rfl ?_
  obtain ⟨t9, vs, r7, ha, ht, h0, h9, hv, hw⟩ := hw
  refine gi_iaload V ha ht h0 h9 hv dL_law_682 rfl ?_
  refine g_aload_n V dL_law_683 rfl rfl ?_
  refine g_iload V dL_law_684 rfl rfl ?_
  refine g_iconst V (Int32.ofInt 2) dL_law_686 rfl rfl ?_
  refine gi_iadd V dL_law_687 rfl ?_
  obtain ⟨t9, vs, r8, ha, ht, h0, h9, hv, hw⟩ := hw
  refine gi_iaload V ha ht h0 h9 hv dL_law_688 rfl ?_
  obtain ⟨hb, hw⟩ := hw
  obtain ⟨fb, hb⟩ := hb
  obtain ⟨hk, hj, c11, s12, ec, es, hw⟩ := hw
  refine g_callV (C := RX7) (T := TX7) (N := 8) (st := []) V (k_X7_removeSign hst hw) ww_6_34 ww_6_35 ww_6_36 ww_1_5 ww_6_37 hd_X7_removeSign ⟨by decide, by decide⟩ rfl (by decide) hb rfl rfl (ga_cat rfl) dL_law_689 hk hj rfl ga_none (ga_ki (fun r10 hp9 hw => ?_))
  refine ga_re ec es ?_
  refine g_istore (lv2 := [some (.ref v0), some (.ref v1), some (.ref v2), some (.ref v3), some (gi v4), some (gi r4), some (gi r10)]) V dL_law_692 (by decide) rfl rfl rfl ?_
  refine g_aload_n V dL_law_694 rfl rfl ?_
  obtain ⟨hb, hw⟩ := hw
  obtain ⟨fb, hb⟩ := hb
  refine g_callV (C := RX7) (T := TX7) (N := 8) (st := []) V (k_X7_thrown hst hw) ww_5_206 ww_5_207 ww_5_208 ww_1_5 ww_5_209 hd_X7_thrown ⟨by decide, by decide⟩ rfl (by decide) hb rfl rfl (ga_cat rfl) dL_law_695 (Nat.zero_le _) (Nat.zero_le _) rfl ga_none (ga_ki (fun r14 hp13 hw => ?_))
  refine g_iload V dL_law_698 rfl rfl ?_
  obtain ⟨hx0, hx1, hw⟩ := hw
  refine gi_icmp_eq V dL_law_700 rfl rfl hx0 hx1 (fun q => ?_) (fun q => ?_)
  · have hw := ga_t q hw
    refine g_iload V dL_law_705 rfl rfl ?_
    obtain ⟨hx0, hw⟩ := hw
    refine gi_if_ne V dL_law_707 rfl rfl hx0 (fun q => ?_) (fun q => ?_)
    · have hw := ga_f q hw
      refine g_goto V dL_law_723 rfl ?_
      refine g_less (bs := [true, true, true, true, true, false, false]) (lv2 := [some (.ref v0), some (.ref v1), some (.ref v2), some (.ref v3), some (gi v4), none, none]) rfl ?_
      exact hl_L_law_J3472 hst V hend K27 hK27 v0 v1 v2 v3 v4 hp13 c11 s12 hw
    · have hw := ga_t q hw
      refine g_aload_n V dL_law_710 rfl rfl ?_
      obtain ⟨fs, r15, ha, hv, hw⟩ := hw
      refine g_getN (C := RX6) (T := TX6) (N := 2) (host := "WordgardenLaw") V 0 rfl hin_RX6 (by decide) (by decide) gn_22 rfl ha hv dL_law_711 rfl ?_
      refine g_iload V dL_law_714 rfl rfl ?_
      refine gi_i2l V dL_law_716 rfl ?_
      refine gi_lcmp V dL_law_717 rfl ?_
      obtain ⟨hx0, hw⟩ := hw
      refine gi_if_eq V dL_law_718 rfl rfl hx0 (fun q => ?_) (fun q => ?_)
      · have hw := ga_t q hw
        refine g_goto V dL_law_723 rfl ?_
        refine g_less (bs := [true, true, true, true, true, false, false]) (lv2 := [some (.ref v0), some (.ref v1), some (.ref v2), some (.ref v3), some (gi v4), none, none]) rfl ?_
        exact hl_L_law_J3472 hst V hend K27 hK27 v0 v1 v2 v3 v4 hp13 c11 s12 hw
      · have hw := ga_f q hw
        refine g_iconst V (Int32.ofInt 0) dL_law_721 rfl rfl ?_
        exact hw.elim
  · have hw := ga_f q hw
    refine g_iconst V (Int32.ofInt 0) dL_law_703 rfl rfl ?_
    exact hw.elim
theorem hl_L_law_J620 {p : Program} {l : Launch} {e : Env} {s : State} {m : MethodId} {args : Array Value} {below : List Frame} {meth : Method} {c : Code} {G : gaG} {nm : String} {Z : State → Prop} (hst : l.stackTraces = false) (V : gaV p l s m args meth c G code RL 7 gaW ret nm) (hend : ∀ (pc : Nat) (lv : List (Option Value)) (h : gaH) (k j : Nat), decode code pc = .ok (.ireturn, 1) → gaP p l e room_1 s m args below meth c G 7 Z pc lv [gi 1] h k j) : ∀ (K27 : Nat → Nat → Nat → Nat → Int → gaH → Nat → Nat → Prop), ∀ (hK27 : ∀ (v0 : Nat) (v1 : Nat) (v2 : Nat) (v3 : Nat) (v4 : Int) (h : gaH) (kc ks : Nat), K27 v0 v1 v2 v3 v4 h kc ks → gaP p l e room_1 s m args below meth c G 7 Z 27 [some (.ref v0), some (.ref v1), some (.ref v2), some (.ref v3), some (gi v4), none, none] [] h kc ks), ∀ (v0 : Nat) (v1 : Nat) (v2 : Nat) (v3 : Nat) (v4 : Int) (v5 : Int) (t0 : Nat) (t1 : Int) (t2 : Int) (t3 : Int) (h : gaH) (kc ks : Nat), w_L_law_J620 G K27 v0 v1 v2 v3 v4 v5 t0 t1 t2 t3 h kc ks → gaP p l e room_1 s m args below meth c G 7 Z 620 [some (.ref v0), some (.ref v1), some (.ref v2), some (.ref v3), some (gi v4), some (gi v5), none] [gi t3, gi t2, gi t1, .ref t0] h kc ks := by
  intro K27 hK27
  intro v0 v1 v2 v3 v4 v5 t0 t1 t2 t3 h kc ks hw
  unfold w_L_law_J620 at hw
  obtain ⟨hb, hw⟩ := hw
  obtain ⟨fb, hb⟩ := hb
  obtain ⟨hk, hj, c3, s4, ec, es, hw⟩ := hw
  refine g_callV (C := RX7) (T := TX7) (N := 8) (st := []) V (k_X7_setSign hst hw) ww_6_26 ww_6_27 ww_6_28 ww_1_5 ww_6_29 hd_X7_setSign ⟨by decide, by decide⟩ rfl (by decide) hb rfl rfl (ga_cat rfl) dL_law_620 hk hj rfl ga_none (ga_ki (fun r2 hp1 hw => ?_))
  refine ga_re ec es ?_
  refine g_istore (lv2 := [some (.ref v0), some (.ref v1), some (.ref v2), some (.ref v3), some (gi v4), some (gi v5), some (gi r2)]) V dL_law_623 (by decide) rfl rfl rfl ?_
  refine g_aload_n V dL_law_625 rfl rfl ?_
  obtain ⟨hb, hw⟩ := hw
  obtain ⟨fb, hb⟩ := hb
  refine g_callV (C := RX7) (T := TX7) (N := 8) (st := []) V (k_X7_thrown hst hw) ww_5_206 ww_5_207 ww_5_208 ww_1_5 ww_5_209 hd_X7_thrown ⟨by decide, by decide⟩ rfl (by decide) hb rfl rfl (ga_cat rfl) dL_law_626 (Nat.zero_le _) (Nat.zero_le _) rfl ga_none (ga_ki (fun r6 hp5 hw => ?_))
  refine g_iload V dL_law_629 rfl rfl ?_
  obtain ⟨hx0, hx1, hw⟩ := hw
  refine gi_icmp_eq V dL_law_631 rfl rfl hx0 hx1 (fun q => ?_) (fun q => ?_)
  · have hw := ga_t q hw
    refine g_iload V dL_law_636 rfl rfl ?_
    obtain ⟨hx0, hw⟩ := hw
    refine gi_if_ne V dL_law_638 rfl rfl hx0 (fun q => ?_) (fun q => ?_)
    · have hw := ga_f q hw
      refine g_goto V dL_law_654 rfl ?_
      refine g_less (bs := [true, true, true, true, true, false, false]) (lv2 := [some (.ref v0), some (.ref v1), some (.ref v2), some (.ref v3), some (gi v4), none, none]) rfl ?_
      exact hl_L_law_J3472 hst V hend K27 hK27 v0 v1 v2 v3 v4 hp5 c3 s4 hw
    · have hw := ga_t q hw
      refine g_aload_n V dL_law_641 rfl rfl ?_
      obtain ⟨fs, r7, ha, hv, hw⟩ := hw
      refine g_getN (C := RX6) (T := TX6) (N := 2) (host := "WordgardenLaw") V 0 rfl hin_RX6 (by decide) (by decide) gn_22 rfl ha hv dL_law_642 rfl ?_
      refine g_iload V dL_law_645 rfl rfl ?_
      refine gi_i2l V dL_law_647 rfl ?_
      refine gi_lcmp V dL_law_648 rfl ?_
      obtain ⟨hx0, hw⟩ := hw
      refine gi_if_eq V dL_law_649 rfl rfl hx0 (fun q => ?_) (fun q => ?_)
      · have hw := ga_t q hw
        refine g_goto V dL_law_654 rfl ?_
        refine g_less (bs := [true, true, true, true, true, false, false]) (lv2 := [some (.ref v0), some (.ref v1), some (.ref v2), some (.ref v3), some (gi v4), none, none]) rfl ?_
        exact hl_L_law_J3472 hst V hend K27 hK27 v0 v1 v2 v3 v4 hp5 c3 s4 hw
      · have hw := ga_f q hw
        refine g_iconst V (Int32.ofInt 0) dL_law_652 rfl rfl ?_
        exact hw.elim
  · have hw := ga_f q hw
    refine g_iconst V (Int32.ofInt 0) dL_law_634 rfl rfl ?_
    exact hw.elim
theorem hl_L_law_J587 {p : Program} {l : Launch} {e : Env} {s : State} {m : MethodId} {args : Array Value} {below : List Frame} {meth : Method} {c : Code} {G : gaG} {nm : String} {Z : State → Prop} (hst : l.stackTraces = false) (V : gaV p l s m args meth c G code RL 7 gaW ret nm) (hend : ∀ (pc : Nat) (lv : List (Option Value)) (h : gaH) (k j : Nat), decode code pc = .ok (.ireturn, 1) → gaP p l e room_1 s m args below meth c G 7 Z pc lv [gi 1] h k j) : ∀ (K27 : Nat → Nat → Nat → Nat → Int → gaH → Nat → Nat → Prop), ∀ (hK27 : ∀ (v0 : Nat) (v1 : Nat) (v2 : Nat) (v3 : Nat) (v4 : Int) (h : gaH) (kc ks : Nat), K27 v0 v1 v2 v3 v4 h kc ks → gaP p l e room_1 s m args below meth c G 7 Z 27 [some (.ref v0), some (.ref v1), some (.ref v2), some (.ref v3), some (gi v4), none, none] [] h kc ks), ∀ (v0 : Nat) (v1 : Nat) (v2 : Nat) (v3 : Nat) (v4 : Int) (t0 : Nat) (t1 : Int) (t2 : Int) (t3 : Int) (h : gaH) (kc ks : Nat), w_L_law_J587 G K27 v0 v1 v2 v3 v4 t0 t1 t2 t3 h kc ks → gaP p l e room_1 s m args below meth c G 7 Z 587 [some (.ref v0), some (.ref v1), some (.ref v2), some (.ref v3), some (gi v4), none, none] [gi t3, gi t2, gi t1, .ref t0] h kc ks := by
  intro K27 hK27
  intro v0 v1 v2 v3 v4 t0 t1 t2 t3 h kc ks hw
  unfold w_L_law_J587 at hw
  refine g_aload_n V dL_law_587 rfl rfl ?_
  obtain ⟨hk, hj, c3, s4, ec, es, hw⟩ := hw
  refine g_callSX (st := []) V (k_L_setSign hst hw) ww_3_17 ww_3_18 ww_1_0 ww_3_19 hd_L_setSign ⟨by decide, by decide⟩ rfl rfl (ga_cat rfl) dL_law_588 hk hj rfl ga_none (ga_ki (fun r2 hp1 hw => ?_))
  refine ga_re ec es ?_
  refine g_istore (lv2 := [some (.ref v0), some (.ref v1), some (.ref v2), some (.ref v3), some (gi v4), some (gi r2), none]) V dL_law_591 (by decide) rfl rfl rfl ?_
  refine g_aload_n V dL_law_593 rfl rfl ?_
  refine g_aload_n V dL_law_594 rfl rfl ?_
  refine g_iload V dL_law_595 rfl rfl ?_
  refine g_iconst V (Int32.ofInt 1) dL_law_597 rfl rfl ?_
  refine gi_iadd V dL_law_598 rfl ?_
  obtain ⟨t9, vs, r5, ha, ht, h0, h9, hv, hw⟩ := hw
  refine gi_iaload V ha ht h0 h9 hv dL_law_599 rfl ?_
  refine g_aload_n V dL_law_600 rfl rfl ?_
  refine g_iload V dL_law_601 rfl rfl ?_
  refine g_iconst V (Int32.ofInt 2) dL_law_603 rfl rfl ?_
  refine gi_iadd V dL_law_604 rfl ?_
  obtain ⟨t9, vs, r6, ha, ht, h0, h9, hv, hw⟩ := hw
  refine gi_iaload V ha ht h0 h9 hv dL_law_605 rfl ?_
  refine g_aload_n V dL_law_606 rfl rfl ?_
  refine g_iload V dL_law_607 rfl rfl ?_
  refine g_iconst V (Int32.ofInt 3) dL_law_609 rfl rfl ?_
  refine gi_iadd V dL_law_610 rfl ?_
  obtain ⟨t9, vs, r7, ha, ht, h0, h9, hv, hw⟩ := hw
  refine gi_iaload V ha ht h0 h9 hv dL_law_611 rfl ?_
  obtain ⟨hx0, hw⟩ := hw
  refine gi_if_eq V dL_law_612 rfl rfl hx0 (fun q => ?_) (fun q => ?_)
  · have hw := ga_t q hw
    refine g_iconst V (Int32.ofInt 0) dL_law_619 rfl rfl ?_
    exact hl_L_law_J620 hst V hend K27 hK27 v0 v1 v2 v3 v4 r2 v2 r5 r6 0 hp1 c3 s4 hw
  · have hw := ga_f q hw
    refine g_iconst V (Int32.ofInt 1) dL_law_615 rfl rfl ?_
    refine g_goto V dL_law_616 rfl ?_
    exact hl_L_law_J620 hst V hend K27 hK27 v0 v1 v2 v3 v4 r2 v2 r5 r6 1 hp1 c3 s4 hw
theorem hl_L_law_J560 {p : Program} {l : Launch} {e : Env} {s : State} {m : MethodId} {args : Array Value} {below : List Frame} {meth : Method} {c : Code} {G : gaG} {nm : String} {Z : State → Prop} (hst : l.stackTraces = false) (V : gaV p l s m args meth c G code RL 7 gaW ret nm) (hend : ∀ (pc : Nat) (lv : List (Option Value)) (h : gaH) (k j : Nat), decode code pc = .ok (.ireturn, 1) → gaP p l e room_1 s m args below meth c G 7 Z pc lv [gi 1] h k j) : ∀ (K27 : Nat → Nat → Nat → Nat → Int → gaH → Nat → Nat → Prop), ∀ (hK27 : ∀ (v0 : Nat) (v1 : Nat) (v2 : Nat) (v3 : Nat) (v4 : Int) (h : gaH) (kc ks : Nat), K27 v0 v1 v2 v3 v4 h kc ks → gaP p l e room_1 s m args below meth c G 7 Z 27 [some (.ref v0), some (.ref v1), some (.ref v2), some (.ref v3), some (gi v4), none, none] [] h kc ks), ∀ (v0 : Nat) (v1 : Nat) (v2 : Nat) (v3 : Nat) (v4 : Int) (h : gaH) (kc ks : Nat), w_L_law_J560 G K27 v0 v1 v2 v3 v4 h kc ks → gaP p l e room_1 s m args below meth c G 7 Z 560 [some (.ref v0), some (.ref v1), some (.ref v2), some (.ref v3), some (gi v4), none, none] [] h kc ks := by
  intro K27 hK27
  intro v0 v1 v2 v3 v4 h kc ks hw
  unfold w_L_law_J560 at hw
  refine g_aload_n V dL_law_560 rfl rfl ?_
  refine g_aload_n V dL_law_561 rfl rfl ?_
  refine g_iload V dL_law_562 rfl rfl ?_
  refine g_iconst V (Int32.ofInt 1) dL_law_564 rfl rfl ?_
  refine gi_iadd V dL_law_565 rfl ?_
  obtain ⟨t9, vs, r1, ha, ht, h0, h9, hv, hw⟩ := hw
  refine gi_iaload V ha ht h0 h9 hv dL_law_566 rfl ?_
  refine g_aload_n V dL_law_567 rfl rfl ?_
  refine g_iload V dL_law_568 rfl rfl ?_
  refine g_iconst V (Int32.ofInt 2) dL_law_570 rfl rfl ?_
  refine gi_iadd V dL_law_571 rfl ?_
  obtain ⟨t9, vs, r2, ha, ht, h0, h9, hv, hw⟩ := hw
  refine gi_iaload V ha ht h0 h9 hv dL_law_572 rfl ?_
  refine g_aload_n V dL_law_573 rfl rfl ?_
  refine g_iload V dL_law_574 rfl rfl ?_
  refine g_iconst V (Int32.ofInt 3) dL_law_576 rfl rfl ?_
  refine gi_iadd V dL_law_577 rfl ?_
  obtain ⟨t9, vs, r3, ha, ht, h0, h9, hv, hw⟩ := hw
  refine gi_iaload V ha ht h0 h9 hv dL_law_578 rfl ?_
  obtain ⟨hx0, hw⟩ := hw
  refine gi_if_eq V dL_law_579 rfl rfl hx0 (fun q => ?_) (fun q => ?_)
  · have hw := ga_t q hw
    refine g_iconst V (Int32.ofInt 0) dL_law_586 rfl rfl ?_
    exact hl_L_law_J587 hst V hend K27 hK27 v0 v1 v2 v3 v4 v1 r1 r2 0 h kc ks hw
  · have hw := ga_f q hw
    refine g_iconst V (Int32.ofInt 1) dL_law_582 rfl rfl ?_
    refine g_goto V dL_law_583 rfl ?_
    exact hl_L_law_J587 hst V hend K27 hK27 v0 v1 v2 v3 v4 v1 r1 r2 1 h kc ks hw
theorem hl_L_law_J479 {p : Program} {l : Launch} {e : Env} {s : State} {m : MethodId} {args : Array Value} {below : List Frame} {meth : Method} {c : Code} {G : gaG} {nm : String} {Z : State → Prop} (hst : l.stackTraces = false) (V : gaV p l s m args meth c G code RL 7 gaW ret nm) (hend : ∀ (pc : Nat) (lv : List (Option Value)) (h : gaH) (k j : Nat), decode code pc = .ok (.ireturn, 1) → gaP p l e room_1 s m args below meth c G 7 Z pc lv [gi 1] h k j) : ∀ (K27 : Nat → Nat → Nat → Nat → Int → gaH → Nat → Nat → Prop), ∀ (hK27 : ∀ (v0 : Nat) (v1 : Nat) (v2 : Nat) (v3 : Nat) (v4 : Int) (h : gaH) (kc ks : Nat), K27 v0 v1 v2 v3 v4 h kc ks → gaP p l e room_1 s m args below meth c G 7 Z 27 [some (.ref v0), some (.ref v1), some (.ref v2), some (.ref v3), some (gi v4), none, none] [] h kc ks), ∀ (v0 : Nat) (v1 : Nat) (v2 : Nat) (v3 : Nat) (v4 : Int) (h : gaH) (kc ks : Nat), w_L_law_J479 G K27 v0 v1 v2 v3 v4 h kc ks → gaP p l e room_1 s m args below meth c G 7 Z 479 [some (.ref v0), some (.ref v1), some (.ref v2), some (.ref v3), some (gi v4), none, none] [] h kc ks := by
  intro K27 hK27
  intro v0 v1 v2 v3 v4 h kc ks hw
  unfold w_L_law_J479 at hw
  refine g_aload_n V dL_law_479 rfl rfl ?_
  refine g_aload_n V dL_law_480 rfl rfl ?_
  refine g_iload V dL_law_481 rfl rfl ?_
  refine g_iconst V (Int32.ofInt 1) dL_law_483 rfl rfl ?_
  refine gi_iadd V dL_law_484 rfl ?_
  obtain ⟨t9, vs, r1, ha, ht, h0, h9, hv, hw⟩ := hw
  refine gi_iaload V ha ht h0 h9 hv dL_law_485 rfl ?_
  refine g_aload_n V dL_law_486 rfl rfl ?_
  refine g_iload V dL_law_487 rfl rfl ?_
  refine g_iconst V (Int32.ofInt 2) dL_law_489 rfl rfl ?_
  refine gi_iadd V dL_law_490 rfl ?_
  obtain ⟨t9, vs, r2, ha, ht, h0, h9, hv, hw⟩ := hw
  refine gi_iaload V ha ht h0 h9 hv dL_law_491 rfl ?_
  refine g_aload_n V dL_law_492 rfl rfl ?_
  refine g_iload V dL_law_493 rfl rfl ?_
  refine g_iconst V (Int32.ofInt 3) dL_law_495 rfl rfl ?_
  refine gi_iadd V dL_law_496 rfl ?_
  obtain ⟨t9, vs, r3, ha, ht, h0, h9, hv, hw⟩ := hw
  refine gi_iaload V ha ht h0 h9 hv dL_law_497 rfl ?_
  refine g_aload_n V dL_law_498 rfl rfl ?_
  obtain ⟨hk, hj, c6, s7, ec, es, hw⟩ := hw
  refine g_callSX (st := []) V (k_L_insertSheet hst hw) ww_3_10 ww_3_11 ww_1_0 ww_3_12 hd_L_insertSheet ⟨by decide, by decide⟩ rfl rfl (ga_cat rfl) dL_law_499 hk hj rfl ga_none (ga_ki (fun r5 hp4 hw => ?_))
  refine ga_re ec es ?_
  refine g_istore (lv2 := [some (.ref v0), some (.ref v1), some (.ref v2), some (.ref v3), some (gi v4), some (gi r5), none]) V dL_law_502 (by decide) rfl rfl rfl ?_
  refine g_aload_n V dL_law_504 rfl rfl ?_
  refine g_aload_n V dL_law_505 rfl rfl ?_
  refine g_iload V dL_law_506 rfl rfl ?_
  refine g_iconst V (Int32.ofInt 1) dL_law_508 rfl rfl ?_
  refine gi_iadd V dL_law_509 rfl ?_
  obtain ⟨t9, vs, r8, ha, ht, h0, h9, hv, hw⟩ := hw
  refine gi_iaload V ha ht h0 h9 hv dL_law_510 rfl ?_
  refine g_aload_n V dL_law_511 rfl rfl ?_
  refine g_iload V dL_law_512 rfl rfl ?_
  refine g_iconst V (Int32.ofInt 2) dL_law_514 rfl rfl ?_
  refine gi_iadd V dL_law_515 rfl ?_
  obtain ⟨t9, vs, r9, ha, ht, h0, h9, hv, hw⟩ := hw
  refine gi_iaload V ha ht h0 h9 hv dL_law_516 rfl ?_
  refine g_aload_n V dL_law_517 rfl rfl ?_
  refine g_iload V dL_law_518 rfl rfl ?_
  refine g_iconst V (Int32.ofInt 3) dL_law_520 rfl rfl ?_
  refine gi_iadd V dL_law_521 rfl ?_
  obtain ⟨t9, vs, r10, ha, ht, h0, h9, hv, hw⟩ := hw
  refine gi_iaload V ha ht h0 h9 hv dL_law_522 rfl ?_
  obtain ⟨hb, hw⟩ := hw
  obtain ⟨fb, hb⟩ := hb
  obtain ⟨hk, hj, c13, s14, ec, es, hw⟩ := hw
  refine g_callV (C := RX7) (T := TX7) (N := 8) (st := []) V (k_X7_insertSheet hst hw) ww_6_22 ww_6_23 ww_6_24 ww_1_5 ww_6_25 hd_X7_insertSheet ⟨by decide, by decide⟩ rfl (by decide) hb rfl rfl (ga_cat rfl) dL_law_523 hk hj rfl ga_none (ga_ki (fun r12 hp11 hw => ?_))
  refine ga_re ec es ?_
  refine g_istore (lv2 := [some (.ref v0), some (.ref v1), some (.ref v2), some (.ref v3), some (gi v4), some (gi r5), some (gi r12)]) V dL_law_526 (by decide) rfl rfl rfl ?_
  refine g_aload_n V dL_law_528 rfl rfl ?_
  obtain ⟨hb, hw⟩ := hw
  obtain ⟨fb, hb⟩ := hb
  refine g_callV (C := RX7) (T := TX7) (N := 8) (st := []) V (k_X7_thrown hst hw) ww_5_206 ww_5_207 ww_5_208 ww_1_5 ww_5_209 hd_X7_thrown ⟨by decide, by decide⟩ rfl (by decide) hb rfl rfl (ga_cat rfl) dL_law_529 (Nat.zero_le _) (Nat.zero_le _) rfl ga_none (ga_ki (fun r16 hp15 hw => ?_))
  refine g_iload V dL_law_532 rfl rfl ?_
  obtain ⟨hx0, hx1, hw⟩ := hw
  refine gi_icmp_eq V dL_law_534 rfl rfl hx0 hx1 (fun q => ?_) (fun q => ?_)
  · have hw := ga_t q hw
    refine g_iload V dL_law_539 rfl rfl ?_
    obtain ⟨hx0, hw⟩ := hw
    refine gi_if_ne V dL_law_541 rfl rfl hx0 (fun q => ?_) (fun q => ?_)
    · have hw := ga_f q hw
      refine g_goto V dL_law_557 rfl ?_
      refine g_less (bs := [true, true, true, true, true, false, false]) (lv2 := [some (.ref v0), some (.ref v1), some (.ref v2), some (.ref v3), some (gi v4), none, none]) rfl ?_
      exact hl_L_law_J3472 hst V hend K27 hK27 v0 v1 v2 v3 v4 hp15 c13 s14 hw
    · have hw := ga_t q hw
      refine g_aload_n V dL_law_544 rfl rfl ?_
      obtain ⟨fs, r17, ha, hv, hw⟩ := hw
      refine g_getN (C := RX6) (T := TX6) (N := 2) (host := "WordgardenLaw") V 0 rfl hin_RX6 (by decide) (by decide) gn_22 rfl ha hv dL_law_545 rfl ?_
      refine g_iload V dL_law_548 rfl rfl ?_
      refine gi_i2l V dL_law_550 rfl ?_
      refine gi_lcmp V dL_law_551 rfl ?_
      obtain ⟨hx0, hw⟩ := hw
      refine gi_if_eq V dL_law_552 rfl rfl hx0 (fun q => ?_) (fun q => ?_)
      · have hw := ga_t q hw
        refine g_goto V dL_law_557 rfl ?_
        refine g_less (bs := [true, true, true, true, true, false, false]) (lv2 := [some (.ref v0), some (.ref v1), some (.ref v2), some (.ref v3), some (gi v4), none, none]) rfl ?_
        exact hl_L_law_J3472 hst V hend K27 hK27 v0 v1 v2 v3 v4 hp15 c13 s14 hw
      · have hw := ga_f q hw
        refine g_iconst V (Int32.ofInt 0) dL_law_555 rfl rfl ?_
        exact hw.elim
  · have hw := ga_f q hw
    refine g_iconst V (Int32.ofInt 0) dL_law_537 rfl rfl ?_
    exact hw.elim
theorem hl_L_law_J442 {p : Program} {l : Launch} {e : Env} {s : State} {m : MethodId} {args : Array Value} {below : List Frame} {meth : Method} {c : Code} {G : gaG} {nm : String} {Z : State → Prop} (hst : l.stackTraces = false) (V : gaV p l s m args meth c G code RL 7 gaW ret nm) (hend : ∀ (pc : Nat) (lv : List (Option Value)) (h : gaH) (k j : Nat), decode code pc = .ok (.ireturn, 1) → gaP p l e room_1 s m args below meth c G 7 Z pc lv [gi 1] h k j) : ∀ (K27 : Nat → Nat → Nat → Nat → Int → gaH → Nat → Nat → Prop), ∀ (hK27 : ∀ (v0 : Nat) (v1 : Nat) (v2 : Nat) (v3 : Nat) (v4 : Int) (h : gaH) (kc ks : Nat), K27 v0 v1 v2 v3 v4 h kc ks → gaP p l e room_1 s m args below meth c G 7 Z 27 [some (.ref v0), some (.ref v1), some (.ref v2), some (.ref v3), some (gi v4), none, none] [] h kc ks), ∀ (v0 : Nat) (v1 : Nat) (v2 : Nat) (v3 : Nat) (v4 : Int) (v5 : Int) (t0 : Nat) (t1 : Int) (t2 : Int) (t3 : Int) (h : gaH) (kc ks : Nat), w_L_law_J442 G K27 v0 v1 v2 v3 v4 v5 t0 t1 t2 t3 h kc ks → gaP p l e room_1 s m args below meth c G 7 Z 442 [some (.ref v0), some (.ref v1), some (.ref v2), some (.ref v3), some (gi v4), some (gi v5), none] [gi t3, gi t2, gi t1, .ref t0] h kc ks := by
  intro K27 hK27
  intro v0 v1 v2 v3 v4 v5 t0 t1 t2 t3 h kc ks hw
  unfold w_L_law_J442 at hw
  obtain ⟨hb, hw⟩ := hw
  obtain ⟨fb, hb⟩ := hb
  obtain ⟨hk, hj, c3, s4, ec, es, hw⟩ := hw
  refine g_callV (C := RX7) (T := TX7) (N := 8) (st := []) V (k_X7_insertSign hst hw) ww_6_11 ww_6_12 ww_6_13 ww_1_5 ww_6_14 hd_X7_insertSign ⟨by decide, by decide⟩ rfl (by decide) hb rfl rfl (ga_cat rfl) dL_law_442 hk hj rfl ga_none (ga_ki (fun r2 hp1 hw => ?_))
  refine ga_re ec es ?_
  refine g_istore (lv2 := [some (.ref v0), some (.ref v1), some (.ref v2), some (.ref v3), some (gi v4), some (gi v5), some (gi r2)]) V dL_law_445 (by decide) rfl rfl rfl ?_
  refine g_aload_n V dL_law_447 rfl rfl ?_
  obtain ⟨hb, hw⟩ := hw
  obtain ⟨fb, hb⟩ := hb
  refine g_callV (C := RX7) (T := TX7) (N := 8) (st := []) V (k_X7_thrown hst hw) ww_5_206 ww_5_207 ww_5_208 ww_1_5 ww_5_209 hd_X7_thrown ⟨by decide, by decide⟩ rfl (by decide) hb rfl rfl (ga_cat rfl) dL_law_448 (Nat.zero_le _) (Nat.zero_le _) rfl ga_none (ga_ki (fun r6 hp5 hw => ?_))
  refine g_iload V dL_law_451 rfl rfl ?_
  obtain ⟨hx0, hx1, hw⟩ := hw
  refine gi_icmp_eq V dL_law_453 rfl rfl hx0 hx1 (fun q => ?_) (fun q => ?_)
  · have hw := ga_t q hw
    refine g_iload V dL_law_458 rfl rfl ?_
    obtain ⟨hx0, hw⟩ := hw
    refine gi_if_ne V dL_law_460 rfl rfl hx0 (fun q => ?_) (fun q => ?_)
    · have hw := ga_f q hw
      refine g_goto V dL_law_476 rfl ?_
      refine g_less (bs := [true, true, true, true, true, false, false]) (lv2 := [some (.ref v0), some (.ref v1), some (.ref v2), some (.ref v3), some (gi v4), none, none]) rfl ?_
      exact hl_L_law_J3472 hst V hend K27 hK27 v0 v1 v2 v3 v4 hp5 c3 s4 hw
    · have hw := ga_t q hw
      refine g_aload_n V dL_law_463 rfl rfl ?_
      obtain ⟨fs, r7, ha, hv, hw⟩ := hw
      refine g_getN (C := RX6) (T := TX6) (N := 2) (host := "WordgardenLaw") V 0 rfl hin_RX6 (by decide) (by decide) gn_22 rfl ha hv dL_law_464 rfl ?_
      refine g_iload V dL_law_467 rfl rfl ?_
      refine gi_i2l V dL_law_469 rfl ?_
      refine gi_lcmp V dL_law_470 rfl ?_
      obtain ⟨hx0, hw⟩ := hw
      refine gi_if_eq V dL_law_471 rfl rfl hx0 (fun q => ?_) (fun q => ?_)
      · have hw := ga_t q hw
        refine g_goto V dL_law_476 rfl ?_
        refine g_less (bs := [true, true, true, true, true, false, false]) (lv2 := [some (.ref v0), some (.ref v1), some (.ref v2), some (.ref v3), some (gi v4), none, none]) rfl ?_
        exact hl_L_law_J3472 hst V hend K27 hK27 v0 v1 v2 v3 v4 hp5 c3 s4 hw
      · have hw := ga_f q hw
        refine g_iconst V (Int32.ofInt 0) dL_law_474 rfl rfl ?_
        exact hw.elim
  · have hw := ga_f q hw
    refine g_iconst V (Int32.ofInt 0) dL_law_456 rfl rfl ?_
    exact hw.elim
theorem hl_L_law_J409 {p : Program} {l : Launch} {e : Env} {s : State} {m : MethodId} {args : Array Value} {below : List Frame} {meth : Method} {c : Code} {G : gaG} {nm : String} {Z : State → Prop} (hst : l.stackTraces = false) (V : gaV p l s m args meth c G code RL 7 gaW ret nm) (hend : ∀ (pc : Nat) (lv : List (Option Value)) (h : gaH) (k j : Nat), decode code pc = .ok (.ireturn, 1) → gaP p l e room_1 s m args below meth c G 7 Z pc lv [gi 1] h k j) : ∀ (K27 : Nat → Nat → Nat → Nat → Int → gaH → Nat → Nat → Prop), ∀ (hK27 : ∀ (v0 : Nat) (v1 : Nat) (v2 : Nat) (v3 : Nat) (v4 : Int) (h : gaH) (kc ks : Nat), K27 v0 v1 v2 v3 v4 h kc ks → gaP p l e room_1 s m args below meth c G 7 Z 27 [some (.ref v0), some (.ref v1), some (.ref v2), some (.ref v3), some (gi v4), none, none] [] h kc ks), ∀ (v0 : Nat) (v1 : Nat) (v2 : Nat) (v3 : Nat) (v4 : Int) (t0 : Nat) (t1 : Int) (t2 : Int) (t3 : Int) (h : gaH) (kc ks : Nat), w_L_law_J409 G K27 v0 v1 v2 v3 v4 t0 t1 t2 t3 h kc ks → gaP p l e room_1 s m args below meth c G 7 Z 409 [some (.ref v0), some (.ref v1), some (.ref v2), some (.ref v3), some (gi v4), none, none] [gi t3, gi t2, gi t1, .ref t0] h kc ks := by
  intro K27 hK27
  intro v0 v1 v2 v3 v4 t0 t1 t2 t3 h kc ks hw
  unfold w_L_law_J409 at hw
  refine g_aload_n V dL_law_409 rfl rfl ?_
  obtain ⟨hk, hj, c3, s4, ec, es, hw⟩ := hw
  refine g_callSX (st := []) V (k_L_insertSign hst hw) ww_2_238 ww_2_239 ww_1_0 ww_3_0 hd_L_insertSign ⟨by decide, by decide⟩ rfl rfl (ga_cat rfl) dL_law_410 hk hj rfl ga_none (ga_ki (fun r2 hp1 hw => ?_))
  refine ga_re ec es ?_
  refine g_istore (lv2 := [some (.ref v0), some (.ref v1), some (.ref v2), some (.ref v3), some (gi v4), some (gi r2), none]) V dL_law_413 (by decide) rfl rfl rfl ?_
  refine g_aload_n V dL_law_415 rfl rfl ?_
  refine g_aload_n V dL_law_416 rfl rfl ?_
  refine g_iload V dL_law_417 rfl rfl ?_
  refine g_iconst V (Int32.ofInt 1) dL_law_419 rfl rfl ?_
  refine gi_iadd V dL_law_420 rfl ?_
  obtain ⟨t9, vs, r5, ha, ht, h0, h9, hv, hw⟩ := hw
  refine gi_iaload V ha ht h0 h9 hv dL_law_421 rfl ?_
  refine g_aload_n V dL_law_422 rfl rfl ?_
  refine g_iload V dL_law_423 rfl rfl ?_
  refine g_iconst V (Int32.ofInt 2) dL_law_425 rfl rfl ?_
  refine gi_iadd V dL_law_426 rfl ?_
  obtain ⟨t9, vs, r6, ha, ht, h0, h9, hv, hw⟩ := hw
  refine gi_iaload V ha ht h0 h9 hv dL_law_427 rfl ?_
  refine g_aload_n V dL_law_428 rfl rfl ?_
  refine g_iload V dL_law_429 rfl rfl ?_
  refine g_iconst V (Int32.ofInt 3) dL_law_431 rfl rfl ?_
  refine gi_iadd V dL_law_432 rfl ?_
  obtain ⟨t9, vs, r7, ha, ht, h0, h9, hv, hw⟩ := hw
  refine gi_iaload V ha ht h0 h9 hv dL_law_433 rfl ?_
  obtain ⟨hx0, hw⟩ := hw
  refine gi_if_eq V dL_law_434 rfl rfl hx0 (fun q => ?_) (fun q => ?_)
  · have hw := ga_t q hw
    refine g_iconst V (Int32.ofInt 0) dL_law_441 rfl rfl ?_
    exact hl_L_law_J442 hst V hend K27 hK27 v0 v1 v2 v3 v4 r2 v2 r5 r6 0 hp1 c3 s4 hw
  · have hw := ga_f q hw
    refine g_iconst V (Int32.ofInt 1) dL_law_437 rfl rfl ?_
    refine g_goto V dL_law_438 rfl ?_
    exact hl_L_law_J442 hst V hend K27 hK27 v0 v1 v2 v3 v4 r2 v2 r5 r6 1 hp1 c3 s4 hw
theorem hl_L_law_J382 {p : Program} {l : Launch} {e : Env} {s : State} {m : MethodId} {args : Array Value} {below : List Frame} {meth : Method} {c : Code} {G : gaG} {nm : String} {Z : State → Prop} (hst : l.stackTraces = false) (V : gaV p l s m args meth c G code RL 7 gaW ret nm) (hend : ∀ (pc : Nat) (lv : List (Option Value)) (h : gaH) (k j : Nat), decode code pc = .ok (.ireturn, 1) → gaP p l e room_1 s m args below meth c G 7 Z pc lv [gi 1] h k j) : ∀ (K27 : Nat → Nat → Nat → Nat → Int → gaH → Nat → Nat → Prop), ∀ (hK27 : ∀ (v0 : Nat) (v1 : Nat) (v2 : Nat) (v3 : Nat) (v4 : Int) (h : gaH) (kc ks : Nat), K27 v0 v1 v2 v3 v4 h kc ks → gaP p l e room_1 s m args below meth c G 7 Z 27 [some (.ref v0), some (.ref v1), some (.ref v2), some (.ref v3), some (gi v4), none, none] [] h kc ks), ∀ (v0 : Nat) (v1 : Nat) (v2 : Nat) (v3 : Nat) (v4 : Int) (h : gaH) (kc ks : Nat), w_L_law_J382 G K27 v0 v1 v2 v3 v4 h kc ks → gaP p l e room_1 s m args below meth c G 7 Z 382 [some (.ref v0), some (.ref v1), some (.ref v2), some (.ref v3), some (gi v4), none, none] [] h kc ks := by
  intro K27 hK27
  intro v0 v1 v2 v3 v4 h kc ks hw
  unfold w_L_law_J382 at hw
  refine g_aload_n V dL_law_382 rfl rfl ?_
  refine g_aload_n V dL_law_383 rfl rfl ?_
  refine g_iload V dL_law_384 rfl rfl ?_
  refine g_iconst V (Int32.ofInt 1) dL_law_386 rfl rfl ?_
  refine gi_iadd V dL_law_387 rfl ?_
  obtain ⟨t9, vs, r1, ha, ht, h0, h9, hv, hw⟩ := hw
  refine gi_iaload V ha ht h0 h9 hv dL_law_388 rfl ?_
  refine g_aload_n V dL_law_389 rfl rfl ?_
  refine g_iload V dL_law_390 rfl rfl ?_
  refine g_iconst V (Int32.ofInt 2) dL_law_392 rfl rfl ?_
  refine gi_iadd V dL_law_393 rfl ?_
  obtain ⟨t9, vs, r2, ha, ht, h0, h9, hv, hw⟩ := hw
  refine gi_iaload V ha ht h0 h9 hv dL_law_394 rfl ?_
  refine g_aload_n V dL_law_395 rfl rfl ?_
  refine g_iload V dL_law_396 rfl rfl ?_
  refine g_iconst V (Int32.ofInt 3) dL_law_398 rfl rfl ?_
  refine gi_iadd V dL_law_399 rfl ?_
  obtain ⟨t9, vs, r3, ha, ht, h0, h9, hv, hw⟩ := hw
  refine gi_iaload V ha ht h0 h9 hv dL_law_400 rfl ?_
  obtain ⟨hx0, hw⟩ := hw
  refine gi_if_eq V dL_law_401 rfl rfl hx0 (fun q => ?_) (fun q => ?_)
  · have hw := ga_t q hw
    refine g_iconst V (Int32.ofInt 0) dL_law_408 rfl rfl ?_
    exact hl_L_law_J409 hst V hend K27 hK27 v0 v1 v2 v3 v4 v1 r1 r2 0 h kc ks hw
  · have hw := ga_f q hw
    refine g_iconst V (Int32.ofInt 1) dL_law_404 rfl rfl ?_
    refine g_goto V dL_law_405 rfl ?_
    exact hl_L_law_J409 hst V hend K27 hK27 v0 v1 v2 v3 v4 v1 r1 r2 1 h kc ks hw
theorem hl_L_law_J313 {p : Program} {l : Launch} {e : Env} {s : State} {m : MethodId} {args : Array Value} {below : List Frame} {meth : Method} {c : Code} {G : gaG} {nm : String} {Z : State → Prop} (hst : l.stackTraces = false) (V : gaV p l s m args meth c G code RL 7 gaW ret nm) (hend : ∀ (pc : Nat) (lv : List (Option Value)) (h : gaH) (k j : Nat), decode code pc = .ok (.ireturn, 1) → gaP p l e room_1 s m args below meth c G 7 Z pc lv [gi 1] h k j) : ∀ (K27 : Nat → Nat → Nat → Nat → Int → gaH → Nat → Nat → Prop), ∀ (hK27 : ∀ (v0 : Nat) (v1 : Nat) (v2 : Nat) (v3 : Nat) (v4 : Int) (h : gaH) (kc ks : Nat), K27 v0 v1 v2 v3 v4 h kc ks → gaP p l e room_1 s m args below meth c G 7 Z 27 [some (.ref v0), some (.ref v1), some (.ref v2), some (.ref v3), some (gi v4), none, none] [] h kc ks), ∀ (v0 : Nat) (v1 : Nat) (v2 : Nat) (v3 : Nat) (v4 : Int) (h : gaH) (kc ks : Nat), w_L_law_J313 G K27 v0 v1 v2 v3 v4 h kc ks → gaP p l e room_1 s m args below meth c G 7 Z 313 [some (.ref v0), some (.ref v1), some (.ref v2), some (.ref v3), some (gi v4), none, none] [] h kc ks := by
  intro K27 hK27
  intro v0 v1 v2 v3 v4 h kc ks hw
  unfold w_L_law_J313 at hw
  refine g_aload_n V dL_law_313 rfl rfl ?_
  refine g_aload_n V dL_law_314 rfl rfl ?_
  refine g_iload V dL_law_315 rfl rfl ?_
  refine g_iconst V (Int32.ofInt 1) dL_law_317 rfl rfl ?_
  refine gi_iadd V dL_law_318 rfl ?_
  obtain ⟨t9, vs, r1, ha, ht, h0, h9, hv, hw⟩ := hw
  refine gi_iaload V ha ht h0 h9 hv dL_law_319 rfl ?_
  refine g_aload_n V dL_law_320 rfl rfl ?_
  refine g_iload V dL_law_321 rfl rfl ?_
  refine g_iconst V (Int32.ofInt 2) dL_law_323 rfl rfl ?_
  refine gi_iadd V dL_law_324 rfl ?_
  obtain ⟨t9, vs, r2, ha, ht, h0, h9, hv, hw⟩ := hw
  refine gi_iaload V ha ht h0 h9 hv dL_law_325 rfl ?_
  refine g_aload_n V dL_law_326 rfl rfl ?_
  obtain ⟨hk, hj, c5, s6, ec, es, hw⟩ := hw
  refine g_callSX (st := []) V (k_L_append hst hw) ww_2_220 ww_2_221 ww_1_0 ww_2_222 hd_L_append ⟨by decide, by decide⟩ rfl rfl (ga_cat rfl) dL_law_327 hk hj rfl ga_none (ga_ki (fun r4 hp3 hw => ?_))
  refine ga_re ec es ?_
  refine g_istore (lv2 := [some (.ref v0), some (.ref v1), some (.ref v2), some (.ref v3), some (gi v4), some (gi r4), none]) V dL_law_330 (by decide) rfl rfl rfl ?_
  refine g_aload_n V dL_law_332 rfl rfl ?_
  refine g_aload_n V dL_law_333 rfl rfl ?_
  refine g_iload V dL_law_334 rfl rfl ?_
  refine g_iconst V (Int32.ofInt 1) dL_law_336 rfl rfl ?_
  refine gi_iadd V dL_law_337 rfl ?_
  obtain ⟨t9, vs, r7, ha, ht, h0, h9, hv, hw⟩ := hw
  refine gi_iaload V ha ht h0 h9 hv dL_law_338 rfl ?_
  refine g_aload_n V dL_law_339 rfl rfl ?_
  refine g_iload V dL_law_340 rfl rfl ?_
  refine g_iconst V (Int32.ofInt 2) dL_law_342 rfl rfl ?_
  refine gi_iadd V dL_law_343 rfl ?_
  obtain ⟨t9, vs, r8, ha, ht, h0, h9, hv, hw⟩ := hw
  refine gi_iaload V ha ht h0 h9 hv dL_law_344 rfl ?_
  obtain ⟨hb, hw⟩ := hw
  obtain ⟨fb, hb⟩ := hb
  obtain ⟨hk, hj, c11, s12, ec, es, hw⟩ := hw
  refine g_callV (C := RX7) (T := TX7) (N := 8) (st := []) V (k_X7_append hst hw) ww_5_236 ww_5_237 ww_5_238 ww_1_5 ww_5_239 hd_X7_append ⟨by decide, by decide⟩ rfl (by decide) hb rfl rfl (ga_cat rfl) dL_law_345 hk hj rfl ga_none (ga_ki (fun r10 hp9 hw => ?_))
  refine ga_re ec es ?_
  refine g_istore (lv2 := [some (.ref v0), some (.ref v1), some (.ref v2), some (.ref v3), some (gi v4), some (gi r4), some (gi r10)]) V dL_law_348 (by decide) rfl rfl rfl ?_
  refine g_aload_n V dL_law_350 rfl rfl ?_
  obtain ⟨hb, hw⟩ := hw
  obtain ⟨fb, hb⟩ := hb
  refine g_callV (C := RX7) (T := TX7) (N := 8) (st := []) V (k_X7_thrown hst hw) ww_5_206 ww_5_207 ww_5_208 ww_1_5 ww_5_209 hd_X7_thrown ⟨by decide, by decide⟩ rfl (by decide) hb rfl rfl (ga_cat rfl) dL_law_351 (Nat.zero_le _) (Nat.zero_le _) rfl ga_none (ga_ki (fun r14 hp13 hw => ?_))
  refine g_iload V dL_law_354 rfl rfl ?_
  obtain ⟨hx0, hx1, hw⟩ := hw
  refine gi_icmp_eq V dL_law_356 rfl rfl hx0 hx1 (fun q => ?_) (fun q => ?_)
  · have hw := ga_t q hw
    refine g_iload V dL_law_361 rfl rfl ?_
    obtain ⟨hx0, hw⟩ := hw
    refine gi_if_ne V dL_law_363 rfl rfl hx0 (fun q => ?_) (fun q => ?_)
    · have hw := ga_f q hw
      refine g_goto V dL_law_379 rfl ?_
      refine g_less (bs := [true, true, true, true, true, false, false]) (lv2 := [some (.ref v0), some (.ref v1), some (.ref v2), some (.ref v3), some (gi v4), none, none]) rfl ?_
      exact hl_L_law_J3472 hst V hend K27 hK27 v0 v1 v2 v3 v4 hp13 c11 s12 hw
    · have hw := ga_t q hw
      refine g_aload_n V dL_law_366 rfl rfl ?_
      obtain ⟨fs, r15, ha, hv, hw⟩ := hw
      refine g_getN (C := RX6) (T := TX6) (N := 2) (host := "WordgardenLaw") V 0 rfl hin_RX6 (by decide) (by decide) gn_22 rfl ha hv dL_law_367 rfl ?_
      refine g_iload V dL_law_370 rfl rfl ?_
      refine gi_i2l V dL_law_372 rfl ?_
      refine gi_lcmp V dL_law_373 rfl ?_
      obtain ⟨hx0, hw⟩ := hw
      refine gi_if_eq V dL_law_374 rfl rfl hx0 (fun q => ?_) (fun q => ?_)
      · have hw := ga_t q hw
        refine g_goto V dL_law_379 rfl ?_
        refine g_less (bs := [true, true, true, true, true, false, false]) (lv2 := [some (.ref v0), some (.ref v1), some (.ref v2), some (.ref v3), some (gi v4), none, none]) rfl ?_
        exact hl_L_law_J3472 hst V hend K27 hK27 v0 v1 v2 v3 v4 hp13 c11 s12 hw
      · have hw := ga_f q hw
        refine g_iconst V (Int32.ofInt 0) dL_law_377 rfl rfl ?_
        exact hw.elim
  · have hw := ga_f q hw
    refine g_iconst V (Int32.ofInt 0) dL_law_359 rfl rfl ?_
    exact hw.elim
theorem hl_L_law_J244 {p : Program} {l : Launch} {e : Env} {s : State} {m : MethodId} {args : Array Value} {below : List Frame} {meth : Method} {c : Code} {G : gaG} {nm : String} {Z : State → Prop} (hst : l.stackTraces = false) (V : gaV p l s m args meth c G code RL 7 gaW ret nm) (hend : ∀ (pc : Nat) (lv : List (Option Value)) (h : gaH) (k j : Nat), decode code pc = .ok (.ireturn, 1) → gaP p l e room_1 s m args below meth c G 7 Z pc lv [gi 1] h k j) : ∀ (K27 : Nat → Nat → Nat → Nat → Int → gaH → Nat → Nat → Prop), ∀ (hK27 : ∀ (v0 : Nat) (v1 : Nat) (v2 : Nat) (v3 : Nat) (v4 : Int) (h : gaH) (kc ks : Nat), K27 v0 v1 v2 v3 v4 h kc ks → gaP p l e room_1 s m args below meth c G 7 Z 27 [some (.ref v0), some (.ref v1), some (.ref v2), some (.ref v3), some (gi v4), none, none] [] h kc ks), ∀ (v0 : Nat) (v1 : Nat) (v2 : Nat) (v3 : Nat) (v4 : Int) (h : gaH) (kc ks : Nat), w_L_law_J244 G K27 v0 v1 v2 v3 v4 h kc ks → gaP p l e room_1 s m args below meth c G 7 Z 244 [some (.ref v0), some (.ref v1), some (.ref v2), some (.ref v3), some (gi v4), none, none] [] h kc ks := by
  intro K27 hK27
  intro v0 v1 v2 v3 v4 h kc ks hw
  unfold w_L_law_J244 at hw
  refine g_aload_n V dL_law_244 rfl rfl ?_
  refine g_aload_n V dL_law_245 rfl rfl ?_
  refine g_iload V dL_law_246 rfl rfl ?_
  refine g_iconst V (Int32.ofInt 1) dL_law_248 rfl rfl ?_
  refine gi_iadd V dL_law_249 rfl ?_
  obtain ⟨t9, vs, r1, ha, ht, h0, h9, hv, hw⟩ := hw
  refine gi_iaload V ha ht h0 h9 hv dL_law_250 rfl ?_
  refine g_aload_n V dL_law_251 rfl rfl ?_
  refine g_iload V dL_law_252 rfl rfl ?_
  refine g_iconst V (Int32.ofInt 2) dL_law_254 rfl rfl ?_
  refine gi_iadd V dL_law_255 rfl ?_
  obtain ⟨t9, vs, r2, ha, ht, h0, h9, hv, hw⟩ := hw
  refine gi_iaload V ha ht h0 h9 hv dL_law_256 rfl ?_
  refine g_aload_n V dL_law_257 rfl rfl ?_
  obtain ⟨hk, hj, c5, s6, ec, es, hw⟩ := hw
  refine g_callSX (st := []) V (k_L_write hst hw) ww_2_205 ww_2_206 ww_1_0 ww_2_207 hd_L_write ⟨by decide, by decide⟩ rfl rfl (ga_cat rfl) dL_law_258 hk hj rfl ga_none (ga_ki (fun r4 hp3 hw => ?_))
  refine ga_re ec es ?_
  refine g_istore (lv2 := [some (.ref v0), some (.ref v1), some (.ref v2), some (.ref v3), some (gi v4), some (gi r4), none]) V dL_law_261 (by decide) rfl rfl rfl ?_
  refine g_aload_n V dL_law_263 rfl rfl ?_
  refine g_aload_n V dL_law_264 rfl rfl ?_
  refine g_iload V dL_law_265 rfl rfl ?_
  refine g_iconst V (Int32.ofInt 1) dL_law_267 rfl rfl ?_
  refine gi_iadd V dL_law_268 rfl ?_
  obtain ⟨t9, vs, r7, ha, ht, h0, h9, hv, hw⟩ := hw
  refine gi_iaload V ha ht h0 h9 hv dL_law_269 rfl ?_
  refine g_aload_n V dL_law_270 rfl rfl ?_
  refine g_iload V dL_law_271 rfl rfl ?_
  refine g_iconst V (Int32.ofInt 2) dL_law_273 rfl rfl ?_
  refine gi_iadd V dL_law_274 rfl ?_
  obtain ⟨t9, vs, r8, ha, ht, h0, h9, hv, hw⟩ := hw
  refine gi_iaload V ha ht h0 h9 hv dL_law_275 rfl ?_
  obtain ⟨hb, hw⟩ := hw
  obtain ⟨fb, hb⟩ := hb
  obtain ⟨hk, hj, c11, s12, ec, es, hw⟩ := hw
  refine g_callV (C := RX7) (T := TX7) (N := 8) (st := []) V (k_X7_write hst hw) ww_5_210 ww_5_211 ww_5_212 ww_1_5 ww_5_213 hd_X7_write ⟨by decide, by decide⟩ rfl (by decide) hb rfl rfl (ga_cat rfl) dL_law_276 hk hj rfl ga_none (ga_ki (fun r10 hp9 hw => ?_))
  refine ga_re ec es ?_
  refine g_istore (lv2 := [some (.ref v0), some (.ref v1), some (.ref v2), some (.ref v3), some (gi v4), some (gi r4), some (gi r10)]) V dL_law_279 (by decide) rfl rfl rfl ?_
  refine g_aload_n V dL_law_281 rfl rfl ?_
  obtain ⟨hb, hw⟩ := hw
  obtain ⟨fb, hb⟩ := hb
  refine g_callV (C := RX7) (T := TX7) (N := 8) (st := []) V (k_X7_thrown hst hw) ww_5_206 ww_5_207 ww_5_208 ww_1_5 ww_5_209 hd_X7_thrown ⟨by decide, by decide⟩ rfl (by decide) hb rfl rfl (ga_cat rfl) dL_law_282 (Nat.zero_le _) (Nat.zero_le _) rfl ga_none (ga_ki (fun r14 hp13 hw => ?_))
  refine g_iload V dL_law_285 rfl rfl ?_
  obtain ⟨hx0, hx1, hw⟩ := hw
  refine gi_icmp_eq V dL_law_287 rfl rfl hx0 hx1 (fun q => ?_) (fun q => ?_)
  · have hw := ga_t q hw
    refine g_iload V dL_law_292 rfl rfl ?_
    obtain ⟨hx0, hw⟩ := hw
    refine gi_if_ne V dL_law_294 rfl rfl hx0 (fun q => ?_) (fun q => ?_)
    · have hw := ga_f q hw
      refine g_goto V dL_law_310 rfl ?_
      refine g_less (bs := [true, true, true, true, true, false, false]) (lv2 := [some (.ref v0), some (.ref v1), some (.ref v2), some (.ref v3), some (gi v4), none, none]) rfl ?_
      exact hl_L_law_J3472 hst V hend K27 hK27 v0 v1 v2 v3 v4 hp13 c11 s12 hw
    · have hw := ga_t q hw
      refine g_aload_n V dL_law_297 rfl rfl ?_
      obtain ⟨fs, r15, ha, hv, hw⟩ := hw
      refine g_getN (C := RX6) (T := TX6) (N := 2) (host := "WordgardenLaw") V 0 rfl hin_RX6 (by decide) (by decide) gn_22 rfl ha hv dL_law_298 rfl ?_
      refine g_iload V dL_law_301 rfl rfl ?_
      refine gi_i2l V dL_law_303 rfl ?_
      refine gi_lcmp V dL_law_304 rfl ?_
      obtain ⟨hx0, hw⟩ := hw
      refine gi_if_eq V dL_law_305 rfl rfl hx0 (fun q => ?_) (fun q => ?_)
      · have hw := ga_t q hw
        refine g_goto V dL_law_310 rfl ?_
        refine g_less (bs := [true, true, true, true, true, false, false]) (lv2 := [some (.ref v0), some (.ref v1), some (.ref v2), some (.ref v3), some (gi v4), none, none]) rfl ?_
        exact hl_L_law_J3472 hst V hend K27 hK27 v0 v1 v2 v3 v4 hp13 c11 s12 hw
      · have hw := ga_f q hw
        refine g_iconst V (Int32.ofInt 0) dL_law_308 rfl rfl ?_
        exact hw.elim
  · have hw := ga_f q hw
    refine g_iconst V (Int32.ofInt 0) dL_law_290 rfl rfl ?_
    exact hw.elim
theorem hl_L_law_L27 {p : Program} {l : Launch} {e : Env} {s : State} {m : MethodId} {args : Array Value} {below : List Frame} {meth : Method} {c : Code} {G : gaG} {nm : String} {Z : State → Prop} (hst : l.stackTraces = false) (V : gaV p l s m args meth c G code RL 7 gaW ret nm) (hend : ∀ (pc : Nat) (lv : List (Option Value)) (h : gaH) (k j : Nat), decode code pc = .ok (.ireturn, 1) → gaP p l e room_1 s m args below meth c G 7 Z pc lv [gi 1] h k j) : ∀ (n : Nat), ∀ (v0 : Nat) (v1 : Nat) (v2 : Nat) (v3 : Nat) (v4 : Int) (h : gaH) (kc ks : Nat), w_L_law_L27 G n v0 v1 v2 v3 v4 h kc ks → gaP p l e room_1 s m args below meth c G 7 Z 27 [some (.ref v0), some (.ref v1), some (.ref v2), some (.ref v3), some (gi v4), none, none] [] h kc ks := by
  intro n
  induction n with
  | zero =>
    intro v0 v1 v2 v3 v4 h kc ks hw
    exact hw.elim
  | succ n ih =>
    intro v0 v1 v2 v3 v4 h kc ks hw
    unfold w_L_law_L27 at hw
    refine g_iload V dL_law_27 rfl rfl ?_
    refine g_aload_n V dL_law_29 rfl rfl ?_
    obtain ⟨t9, vs, ha, ht, hw⟩ := hw
    refine gi_arraylength (t0 := 102) V (by simp [gaT]) ha ht dL_law_30 rfl ?_
    generalize (vs.length : Int) = r1 at hw ⊢
    refine g_iconst V (Int32.ofInt 5) dL_law_31 rfl rfl ?_
    refine gi_isub V dL_law_32 rfl ?_
    obtain ⟨hx0, hx1, hw⟩ := hw
    refine gi_icmp_gt V dL_law_33 rfl rfl hx0 hx1 (fun q => ?_) (fun q => ?_)
    · have hw := ga_t q hw
      refine g_iconst V (Int32.ofInt 1) dL_law_3478 rfl rfl ?_
      exact hend _ _ _ _ _ dL_law_3479
    · have hw := ga_f q hw
      refine g_aload_n V dL_law_36 rfl rfl ?_
      refine g_iload V dL_law_37 rfl rfl ?_
      obtain ⟨t9, vs, r2, ha, ht, h0, h9, hv, hw⟩ := hw
      refine gi_iaload V ha ht h0 h9 hv dL_law_39 rfl ?_
      refine g_bipush V (Int32.ofInt 63) dL_law_40 rfl rfl ?_
      refine gi_iand V dL_law_42 rfl ?_
      obtain ⟨hx, hs0, hs1, hs2, hs3, hs4, hs5, hs6, hs7, hs8, hs9, hs10, hs11, hs12, hs13, hs14, hs15, hs16, hs17, hs18, hs19, hs20, hs21, hs22, hs23, hs24, hs25, hs26, hs27, hs28, hs29, hs30, hs31, hs32, hs33, hs34, hs35, hs36, hs37, hs38, hs39, hs40, hs41, hs42, hs43, hs44, hs45, hs46, hsd⟩ := hw
      by_cases q0 : (gAnd r2 63) = 0
      · have hw := hs0 q0
        refine gi_tableIn V dL_law_43 hx q0 (by decide) (by decide) rfl rfl ?_
        exact hl_L_law_J244 hst V hend (w_L_law_L27 G n) ih v0 v1 v2 v3 v4 h kc ks hw
      by_cases q1 : (gAnd r2 63) = 1
      · have hw := hs1 q1
        refine gi_tableIn V dL_law_43 hx q1 (by decide) (by decide) rfl rfl ?_
        exact hl_L_law_J313 hst V hend (w_L_law_L27 G n) ih v0 v1 v2 v3 v4 h kc ks hw
      by_cases q2 : (gAnd r2 63) = 2
      · have hw := hs2 q2
        refine gi_tableIn V dL_law_43 hx q2 (by decide) (by decide) rfl rfl ?_
        exact hl_L_law_J382 hst V hend (w_L_law_L27 G n) ih v0 v1 v2 v3 v4 h kc ks hw
      by_cases q3 : (gAnd r2 63) = 3
      · have hw := hs3 q3
        refine gi_tableIn V dL_law_43 hx q3 (by decide) (by decide) rfl rfl ?_
        exact hl_L_law_J479 hst V hend (w_L_law_L27 G n) ih v0 v1 v2 v3 v4 h kc ks hw
      by_cases q4 : (gAnd r2 63) = 4
      · have hw := hs4 q4
        refine gi_tableIn V dL_law_43 hx q4 (by decide) (by decide) rfl rfl ?_
        exact hl_L_law_J560 hst V hend (w_L_law_L27 G n) ih v0 v1 v2 v3 v4 h kc ks hw
      by_cases q5 : (gAnd r2 63) = 5
      · have hw := hs5 q5
        refine gi_tableIn V dL_law_43 hx q5 (by decide) (by decide) rfl rfl ?_
        exact hl_L_law_J657 hst V hend (w_L_law_L27 G n) ih v0 v1 v2 v3 v4 h kc ks hw
      by_cases q6 : (gAnd r2 63) = 6
      · have hw := hs6 q6
        refine gi_tableIn V dL_law_43 hx q6 (by decide) (by decide) rfl rfl ?_
        exact hl_L_law_J726 hst V hend (w_L_law_L27 G n) ih v0 v1 v2 v3 v4 h kc ks hw
      by_cases q7 : (gAnd r2 63) = 7
      · have hw := hs7 q7
        refine gi_tableIn V dL_law_43 hx q7 (by decide) (by decide) rfl rfl ?_
        exact hl_L_law_J807 hst V hend (w_L_law_L27 G n) ih v0 v1 v2 v3 v4 h kc ks hw
      by_cases q8 : (gAnd r2 63) = 8
      · have hw := hs8 q8
        refine gi_tableIn V dL_law_43 hx q8 (by decide) (by decide) rfl rfl ?_
        exact hl_L_law_J900 hst V hend (w_L_law_L27 G n) ih v0 v1 v2 v3 v4 h kc ks hw
      by_cases q9 : (gAnd r2 63) = 9
      · have hw := hs9 q9
        refine gi_tableIn V dL_law_43 hx q9 (by decide) (by decide) rfl rfl ?_
        exact hl_L_law_J969 hst V hend (w_L_law_L27 G n) ih v0 v1 v2 v3 v4 h kc ks hw
      by_cases q10 : (gAnd r2 63) = 10
      · have hw := hs10 q10
        refine gi_tableIn V dL_law_43 hx q10 (by decide) (by decide) rfl rfl ?_
        exact hl_L_law_J1026 hst V hend (w_L_law_L27 G n) ih v0 v1 v2 v3 v4 h kc ks hw
      by_cases q11 : (gAnd r2 63) = 11
      · have hw := hs11 q11
        refine gi_tableIn V dL_law_43 hx q11 (by decide) (by decide) rfl rfl ?_
        exact hl_L_law_J1083 hst V hend (w_L_law_L27 G n) ih v0 v1 v2 v3 v4 h kc ks hw
      by_cases q12 : (gAnd r2 63) = 12
      · have hw := hs12 q12
        refine gi_tableIn V dL_law_43 hx q12 (by decide) (by decide) rfl rfl ?_
        exact hl_L_law_J1152 hst V hend (w_L_law_L27 G n) ih v0 v1 v2 v3 v4 h kc ks hw
      by_cases q13 : (gAnd r2 63) = 13
      · have hw := hs13 q13
        refine gi_tableIn V dL_law_43 hx q13 (by decide) (by decide) rfl rfl ?_
        exact hl_L_law_J1221 hst V hend (w_L_law_L27 G n) ih v0 v1 v2 v3 v4 h kc ks hw
      by_cases q14 : (gAnd r2 63) = 14
      · have hw := hs14 q14
        refine gi_tableIn V dL_law_43 hx q14 (by decide) (by decide) rfl rfl ?_
        exact hl_L_law_J1302 hst V hend (w_L_law_L27 G n) ih v0 v1 v2 v3 v4 h kc ks hw
      by_cases q15 : (gAnd r2 63) = 15
      · have hw := hs15 q15
        refine gi_tableIn V dL_law_43 hx q15 (by decide) (by decide) rfl rfl ?_
        exact hl_L_law_J1383 hst V hend (w_L_law_L27 G n) ih v0 v1 v2 v3 v4 h kc ks hw
      by_cases q16 : (gAnd r2 63) = 16
      · have hw := hs16 q16
        refine gi_tableIn V dL_law_43 hx q16 (by decide) (by decide) rfl rfl ?_
        exact hl_L_law_J1464 hst V hend (w_L_law_L27 G n) ih v0 v1 v2 v3 v4 h kc ks hw
      by_cases q17 : (gAnd r2 63) = 17
      · have hw := hs17 q17
        refine gi_tableIn V dL_law_43 hx q17 (by decide) (by decide) rfl rfl ?_
        exact hl_L_law_J1545 hst V hend (w_L_law_L27 G n) ih v0 v1 v2 v3 v4 h kc ks hw
      by_cases q18 : (gAnd r2 63) = 18
      · have hw := hs18 q18
        refine gi_tableIn V dL_law_43 hx q18 (by decide) (by decide) rfl rfl ?_
        exact hl_L_law_J1638 hst V hend (w_L_law_L27 G n) ih v0 v1 v2 v3 v4 h kc ks hw
      by_cases q19 : (gAnd r2 63) = 19
      · have hw := hs19 q19
        refine gi_tableIn V dL_law_43 hx q19 (by decide) (by decide) rfl rfl ?_
        exact hl_L_law_J1707 hst V hend (w_L_law_L27 G n) ih v0 v1 v2 v3 v4 h kc ks hw
      by_cases q20 : (gAnd r2 63) = 20
      · have hw := hs20 q20
        refine gi_tableIn V dL_law_43 hx q20 (by decide) (by decide) rfl rfl ?_
        exact hl_L_law_J1764 hst V hend (w_L_law_L27 G n) ih v0 v1 v2 v3 v4 h kc ks hw
      by_cases q21 : (gAnd r2 63) = 21
      · have hw := hs21 q21
        refine gi_tableIn V dL_law_43 hx q21 (by decide) (by decide) rfl rfl ?_
        exact hl_L_law_J1821 hst V hend (w_L_law_L27 G n) ih v0 v1 v2 v3 v4 h kc ks hw
      by_cases q22 : (gAnd r2 63) = 22
      · have hw := hs22 q22
        refine gi_tableIn V dL_law_43 hx q22 (by decide) (by decide) rfl rfl ?_
        exact hl_L_law_J1878 hst V hend (w_L_law_L27 G n) ih v0 v1 v2 v3 v4 h kc ks hw
      by_cases q23 : (gAnd r2 63) = 23
      · have hw := hs23 q23
        refine gi_tableIn V dL_law_43 hx q23 (by decide) (by decide) rfl rfl ?_
        exact hl_L_law_J1954 hst V hend (w_L_law_L27 G n) ih v0 v1 v2 v3 v4 h kc ks hw
      by_cases q24 : (gAnd r2 63) = 24
      · have hw := hs24 q24
        refine gi_tableIn V dL_law_43 hx q24 (by decide) (by decide) rfl rfl ?_
        exact hl_L_law_J2012 hst V hend (w_L_law_L27 G n) ih v0 v1 v2 v3 v4 h kc ks hw
      by_cases q25 : (gAnd r2 63) = 25
      · have hw := hs25 q25
        refine gi_tableIn V dL_law_43 hx q25 (by decide) (by decide) rfl rfl ?_
        exact hl_L_law_J2097 hst V hend (w_L_law_L27 G n) ih v0 v1 v2 v3 v4 h kc ks hw
      by_cases q26 : (gAnd r2 63) = 26
      · have hw := hs26 q26
        refine gi_tableIn V dL_law_43 hx q26 (by decide) (by decide) rfl rfl ?_
        exact hl_L_law_J2178 hst V hend (w_L_law_L27 G n) ih v0 v1 v2 v3 v4 h kc ks hw
      by_cases q27 : (gAnd r2 63) = 27
      · have hw := hs27 q27
        refine gi_tableIn V dL_law_43 hx q27 (by decide) (by decide) rfl rfl ?_
        exact hl_L_law_J2259 hst V hend (w_L_law_L27 G n) ih v0 v1 v2 v3 v4 h kc ks hw
      by_cases q28 : (gAnd r2 63) = 28
      · have hw := hs28 q28
        refine gi_tableIn V dL_law_43 hx q28 (by decide) (by decide) rfl rfl ?_
        exact hl_L_law_J2328 hst V hend (w_L_law_L27 G n) ih v0 v1 v2 v3 v4 h kc ks hw
      by_cases q29 : (gAnd r2 63) = 29
      · have hw := hs29 q29
        refine gi_tableIn V dL_law_43 hx q29 (by decide) (by decide) rfl rfl ?_
        exact hl_L_law_J2392 hst V hend (w_L_law_L27 G n) ih v0 v1 v2 v3 v4 h kc ks hw
      by_cases q30 : (gAnd r2 63) = 30
      · have hw := hs30 q30
        refine gi_tableIn V dL_law_43 hx q30 (by decide) (by decide) rfl rfl ?_
        exact hl_L_law_J2489 hst V hend (w_L_law_L27 G n) ih v0 v1 v2 v3 v4 h kc ks hw
      by_cases q31 : (gAnd r2 63) = 31
      · have hw := hs31 q31
        refine gi_tableIn V dL_law_43 hx q31 (by decide) (by decide) rfl rfl ?_
        exact hl_L_law_J2586 hst V hend (w_L_law_L27 G n) ih v0 v1 v2 v3 v4 h kc ks hw
      by_cases q32 : (gAnd r2 63) = 32
      · have hw := hs32 q32
        refine gi_tableIn V dL_law_43 hx q32 (by decide) (by decide) rfl rfl ?_
        exact hl_L_law_J2643 hst V hend (w_L_law_L27 G n) ih v0 v1 v2 v3 v4 h kc ks hw
      by_cases q33 : (gAnd r2 63) = 33
      · have hw := hs33 q33
        refine gi_tableIn V dL_law_43 hx q33 (by decide) (by decide) rfl rfl ?_
        exact hl_L_law_J2700 hst V hend (w_L_law_L27 G n) ih v0 v1 v2 v3 v4 h kc ks hw
      by_cases q34 : (gAnd r2 63) = 34
      · have hw := hs34 q34
        refine gi_tableIn V dL_law_43 hx q34 (by decide) (by decide) rfl rfl ?_
        exact hl_L_law_J2757 hst V hend (w_L_law_L27 G n) ih v0 v1 v2 v3 v4 h kc ks hw
      by_cases q35 : (gAnd r2 63) = 35
      · have hw := hs35 q35
        refine gi_tableIn V dL_law_43 hx q35 (by decide) (by decide) rfl rfl ?_
        exact hl_L_law_J2814 hst V hend (w_L_law_L27 G n) ih v0 v1 v2 v3 v4 h kc ks hw
      by_cases q36 : (gAnd r2 63) = 36
      · have hw := hs36 q36
        refine gi_tableIn V dL_law_43 hx q36 (by decide) (by decide) rfl rfl ?_
        exact hl_L_law_J2871 hst V hend (w_L_law_L27 G n) ih v0 v1 v2 v3 v4 h kc ks hw
      by_cases q37 : (gAnd r2 63) = 37
      · have hw := hs37 q37
        refine gi_tableIn V dL_law_43 hx q37 (by decide) (by decide) rfl rfl ?_
        exact hl_L_law_J2947 hst V hend (w_L_law_L27 G n) ih v0 v1 v2 v3 v4 h kc ks hw
      by_cases q38 : (gAnd r2 63) = 38
      · have hw := hs38 q38
        refine gi_tableIn V dL_law_43 hx q38 (by decide) (by decide) rfl rfl ?_
        exact hl_L_law_J3005 hst V hend (w_L_law_L27 G n) ih v0 v1 v2 v3 v4 h kc ks hw
      by_cases q39 : (gAnd r2 63) = 39
      · have hw := hs39 q39
        refine gi_tableIn V dL_law_43 hx q39 (by decide) (by decide) rfl rfl ?_
        exact hl_L_law_J3091 hst V hend (w_L_law_L27 G n) ih v0 v1 v2 v3 v4 h kc ks hw
      by_cases q40 : (gAnd r2 63) = 40
      · have hw := hs40 q40
        refine gi_tableIn V dL_law_43 hx q40 (by decide) (by decide) rfl rfl ?_
        exact hl_L_law_J3176 hst V hend (w_L_law_L27 G n) ih v0 v1 v2 v3 v4 h kc ks hw
      by_cases q41 : (gAnd r2 63) = 41
      · have hw := hs41 q41
        refine gi_tableIn V dL_law_43 hx q41 (by decide) (by decide) rfl rfl ?_
        exact hl_L_law_J3261 hst V hend (w_L_law_L27 G n) ih v0 v1 v2 v3 v4 h kc ks hw
      by_cases q42 : (gAnd r2 63) = 42
      · have hw := hs42 q42
        refine gi_tableIn V dL_law_43 hx q42 (by decide) (by decide) rfl rfl ?_
        exact hl_L_law_J3318 hst V hend (w_L_law_L27 G n) ih v0 v1 v2 v3 v4 h kc ks hw
      by_cases q43 : (gAnd r2 63) = 43
      · have hw := hs43 q43
        refine gi_tableIn V dL_law_43 hx q43 (by decide) (by decide) rfl rfl ?_
        exact hl_L_law_J3375 hst V hend (w_L_law_L27 G n) ih v0 v1 v2 v3 v4 h kc ks hw
      by_cases q44 : (gAnd r2 63) = 44
      · have hw := hs44 q44
        refine gi_tableIn V dL_law_43 hx q44 (by decide) (by decide) rfl rfl ?_
        exact hl_L_law_J3432 hst V hend (w_L_law_L27 G n) ih v0 v1 v2 v3 v4 h kc ks hw
      by_cases q45 : (gAnd r2 63) = 45
      · have hw := hs45 q45
        refine gi_tableIn V dL_law_43 hx q45 (by decide) (by decide) rfl rfl ?_
        exact hl_L_law_J3445 hst V hend (w_L_law_L27 G n) ih v0 v1 v2 v3 v4 h kc ks hw
      by_cases q46 : (gAnd r2 63) = 46
      · have hw := hs46 q46
        refine gi_tableIn V dL_law_43 hx q46 (by decide) (by decide) rfl rfl ?_
        exact hl_L_law_J3458 hst V hend (w_L_law_L27 G n) ih v0 v1 v2 v3 v4 h kc ks hw
      have qd : (gAnd r2 63) < 0 ∨ 46 < (gAnd r2 63) := by omega
      have hw := hsd qd
      refine gi_tableOut V dL_law_43 hx qd rfl ?_
      exact hl_L_law_J3472 hst V hend (w_L_law_L27 G n) ih v0 v1 v2 v3 v4 h kc ks hw
theorem k_law {p : Program} {l : Launch} {e : Env} {s : State} {m : MethodId} {args : Array Value} {below : List Frame} {meth : Method} {c : Code} {G : gaG} {nm : String} {Z : State → Prop} (hst : l.stackTraces = false) (V : gaV p l s m args meth c G code RL 7 gaW ret nm)
    (hend : ∀ (pc : Nat) (lv : List (Option Value)) (h : gaH) (k j : Nat), decode code pc = .ok (.ireturn, 1) → gaP p l e room_1 s m args below meth c G 7 Z pc lv [gi 1] h k j) {a0 : Nat} {h : gaH} {kc ks : Nat} (hw : w_L_law G a0 h kc ks) : gaP p l e room_1 s m args below meth c G 7 Z 0 [some (.ref a0), none, none, none, none, none, none] [] h kc ks := by
  unfold w_L_law at hw
  obtain ⟨hk, hj, hw⟩ := hw
  refine g_new (ci := 5) (C := RX5) (T := TX5) (N := 9) (fs := [.null, .null, .null, .null, .null, gi 0, gi 0, gi 0, gi 0]) V tyX5 tyX5_ok rfl hin_RX5 (by decide) ww_1_26 ww_1_27 ww_1_1 hdf_RX5 dL_law_0 rfl hk hj (fun o1 hf => ?_)
  obtain ⟨c3, s4, ec, es, hw⟩ := hw o1 hf
  refine ga_re ec es ?_
  generalize gaUp h o1 _ = hp2 at hw ⊢
  refine g_dup V dL_law_3 rfl rfl ?_
  obtain ⟨hk, hj, c7, s8, ec, es, hw⟩ := hw
  refine g_callI (st := [.ref o1]) V (k_X5_init hst hw) ww_1_28 ww_1_29 ww_1_1 ww_1_30 rfl hd_X5_init ⟨by decide, by decide⟩ rfl rfl (ga_cat rfl) dL_law_4 hk hj rfl ga_none (ga_kv (fun hp5 hw => ?_))
  refine ga_re ec es ?_
  refine g_astore_n (lv2 := [some (.ref a0), some (.ref o1), none, none, none, none, none]) V dL_law_7 (by decide) rfl rfl rfl ?_
  obtain ⟨hk, hj, hw⟩ := hw
  refine g_new (ci := 7) (C := RX7) (T := TX7) (N := 8) (fs := [.null, .null, .null, gi 0, gi 0, gi 0, gi 0, gi 0]) V tyX7 tyX7_ok rfl hin_RX7 (by decide) ww_5_173 ww_5_174 ww_1_5 hdf_RX7 dL_law_8 rfl hk hj (fun o9 hf => ?_)
  obtain ⟨c11, s12, ec, es, hw⟩ := hw o9 hf
  refine ga_re ec es ?_
  generalize gaUp hp5 o9 _ = hp10 at hw ⊢
  refine g_dup V dL_law_11 rfl rfl ?_
  obtain ⟨hk, hj, c15, s16, ec, es, hw⟩ := hw
  refine g_callI (st := [.ref o9]) V (k_X7_init hst hw) ww_5_175 ww_5_176 ww_1_5 ww_5_177 rfl hd_X7_init ⟨by decide, by decide⟩ rfl rfl (ga_cat rfl) dL_law_12 hk hj rfl ga_none (ga_kv (fun hp13 hw => ?_))
  refine ga_re ec es ?_
  refine g_astore_n (lv2 := [some (.ref a0), some (.ref o1), some (.ref o9), none, none, none, none]) V dL_law_15 (by decide) rfl rfl rfl ?_
  obtain ⟨hk, hj, hw⟩ := hw
  refine g_new (ci := 6) (C := RX6) (T := TX6) (N := 2) (fs := [.long 0, .null]) V tyX6 tyX6_ok rfl hin_RX6 (by decide) ww_2_192 ww_2_193 ww_1_6 hdf_RX6 dL_law_16 rfl hk hj (fun o17 hf => ?_)
  obtain ⟨c19, s20, ec, es, hw⟩ := hw o17 hf
  refine ga_re ec es ?_
  generalize gaUp hp13 o17 _ = hp18 at hw ⊢
  refine g_dup V dL_law_19 rfl rfl ?_
  refine g_callIN (host := "WordgardenLaw") (st := [.ref o17]) V (k_X6_init hst hw) gn_21 ww_2_195 ww_1_6 ww_2_196 rfl hd_X6_init ⟨by decide, by decide⟩ rfl rfl (ga_cat rfl) dL_law_20 (Nat.zero_le _) (Nat.zero_le _) rfl ga_none (ga_kv (fun hp21 hw => ?_))
  refine g_astore_n (lv2 := [some (.ref a0), some (.ref o1), some (.ref o9), some (.ref o17), none, none, none]) V dL_law_23 (by decide) rfl rfl rfl ?_
  refine g_iconst V (Int32.ofInt 0) dL_law_24 rfl rfl ?_
  refine g_istore (lv2 := [some (.ref a0), some (.ref o1), some (.ref o9), some (.ref o17), some (gi 0), none, none]) V dL_law_25 (by decide) rfl rfl rfl ?_
  obtain ⟨z, hw⟩ := hw
  exact hl_L_law_L27 hst V hend z a0 o1 o9 o17 0 hp21 c19 s20 hw
/-! The law's start: where its classes' fields lie, its statics, its texts. -/
def gaCodes : List Value := [gi 0, gi 5, gi 9, gi 17]
def gaOnes : List Value := (List.range 100).map (fun i => gi ((48 + i % 10 : Nat) : Int))
theorem ga_T {s : State} {ty : FieldType} {t : Nat} {vs : List Value} {A : Nat → Prop} {x : Nat} (h : va_T ty t vs.length (fun j => vs.getD j .null) A s s.heap) (hx : gaTy (x - 1000) = ty) : gaRo s t (x, vs) s.heap := by
  obtain ⟨cell, h1, h2, h3, h4, h5, h6, h7⟩ := h
  refine ⟨cell, h1, by rw [hx]; exact h2, h3, h5, h4, fun j v hj => ?_⟩
  have hl : j < vs.length := (List.getElem?_eq_some_iff.mp hj).1
  rw [h6 j hl]
  show some (vs.getD j .null) = some v
  have hj2 : vs[j]? = some v := hj
  rw [List.getD_eq_getElem?_getD, hj2]
  rfl
theorem ga_tydiff {s : State} {c1 c2 : Cell} {t1 t2 : FieldType} {a b : Nat} {H : Heap} (h1 : H[a]? = some c1) (h2 : H[b]? = some c2) (k1 : s.isArrayOf c1 t1) (k2 : s.isArrayOf c2 t2) (hne : t1 ≠ t2) : a ≠ b := by
  rintro rfl
  cases h1.symm.trans h2
  obtain ⟨-, kA, q1, comp, q2⟩ := k1
  obtain ⟨-, kB, q3, comp2, q4⟩ := k2
  cases q1.symm.trans q3
  rw [q2] at q4
  cases q4
  exact hne rfl
theorem ga_arr {s : State} {args : Array Value} {ty : FieldType} (h : (Cond.arrayClass ty).before args s = true) : ∃ (c : ClassId) (k : Class) (comp : ClassId), s.vm.findClass ("[" ++ ty.toString) = some c ∧ s.vm.classes[c]? = some k ∧ k.kind = .array comp ty := by
  obtain ⟨cA, kA, comp, h1, h2, h3⟩ := Cond.arrayClass_spec h
  exact ⟨cA, kA, comp, h1, h2, h3⟩
theorem ga_selP {y : MethodName} {s : State} {args : Array Value} {C : String} {n : Nat} (hy : y.cls ≠ "java/lang/invoke/MethodHandle" ∧ y.cls ≠ "java/lang/invoke/VarHandle") (hins : (Cond.instantiable C n).before args s = true) (hsame : (Cond.sameMethod y.cls y.cls y.name y.desc).before args s = true)
    (hpriv : (Cond.privateMethod y).before args s = true) (hinst : (Cond.instanceMethod y).before args s = true) : (Cond.selects C y y).before args s = true := by
  obtain ⟨c, k, hc, hk, -, -, -, -⟩ := Cond.instantiable_spec hins
  obtain ⟨mk, methM, hnamed, hmethM, -, -⟩ := Cond.instanceMethod_spec hinst
  have hfound : s.methodFound? y.cls y.name y.desc = some mk := State.methodFound?_of_named hnamed hy
  obtain ⟨-, k2, hk2, hni⟩ := Cond.sameMethod_spec (findClass_of_methodNamed hnamed) hfound hsame
  have hsel : selectMethod {} s.vm c mk = .method mk := selectMethod_private hmethM (Cond.privateMethod_at hpriv mk methM hnamed hmethM)
  simp only [Cond.before, Cond.holds, Cond.value, hc, hfound, hnamed, hsel, hk2]
  simp; exact hni
theorem gaIx1 {w : Cond} {i : Nat} (h0 : tables_1_1[i]? = some w) : w ∈ tables_1 := by
  have h : w ∈ tables_1_1 := List.mem_of_getElem? h0
  exact List.mem_append_left _ h
theorem gaIx2 {w : Cond} {i : Nat} (h0 : tables_1_2[i]? = some w) : w ∈ tables_1 := by
  have h : w ∈ tables_1_2 := List.mem_of_getElem? h0
  exact List.mem_append_right _ (List.mem_append_left _ h)
theorem gaIx3 {w : Cond} {i : Nat} (h0 : tables_1_3[i]? = some w) : w ∈ tables_1 := by
  have h : w ∈ tables_1_3 := List.mem_of_getElem? h0
  exact List.mem_append_right _ (List.mem_append_right _ (List.mem_append_left _ h))
theorem gaIx4 {w : Cond} {i : Nat} (h0 : tables_1_4[i]? = some w) : w ∈ tables_1 := by
  have h : w ∈ tables_1_4 := List.mem_of_getElem? h0
  exact List.mem_append_right _ (List.mem_append_right _ (List.mem_append_right _ (List.mem_append_left _ h)))
theorem gaIx5 {w : Cond} {i : Nat} (h0 : tables_1_5[i]? = some w) : w ∈ tables_1 := by
  have h : w ∈ tables_1_5 := List.mem_of_getElem? h0
  exact List.mem_append_right _ (List.mem_append_right _ (List.mem_append_right _ (List.mem_append_right _ (List.mem_append_left _ h))))
theorem gaIx6 {w : Cond} {i : Nat} (h0 : tables_1_6[i]? = some w) : w ∈ tables_1 := by
  have h : w ∈ tables_1_6 := List.mem_of_getElem? h0
  exact List.mem_append_right _ (List.mem_append_right _ (List.mem_append_right _ (List.mem_append_right _ (List.mem_append_right _ (List.mem_append_left _ h)))))
theorem gaIx7 {w : Cond} {i : Nat} (h0 : tables_1_7[i]? = some w) : w ∈ tables_1 := by
  have h : w ∈ tables_1_7 := List.mem_of_getElem? h0
  exact List.mem_append_right _ (List.mem_append_right _ (List.mem_append_right _ (List.mem_append_right _ (List.mem_append_right _ (List.mem_append_right _ (h))))))
theorem ga_str {s : State} {args : Array Value} {t : Term} {C : String} (h : (Cond.exactly t C).before args s = true) : ∃ u : Nat, t.eval args s none [] s = some (.ref u) := by
  cases hv : t.eval args s none [] s with
  | none => simp [Cond.before, Cond.holds, Cond.value, hv] at h
  | some w =>
    cases w with
    | ref u => exact ⟨u, rfl⟩
    | _ =>
      exfalso
      revert h
      simp only [Cond.before, Cond.holds, Cond.value, hv]
      cases s.vm.findClass C <;> simp
theorem ga_strR {own tx : String} {k a : Nat} {A : Array Value} {U : State} (h1 : (Cond.stringRef own k tx).before A U = true) (h2 : (Term.string own k).eval A U none [] U = some (.ref a)) : vk_R own k tx a U := vk_R.of h1 h2
theorem ga_noteq {s : State} {args : Array Value} {t u : Term} (h : (Cond.not (.eq t u)).before args s = true) {x : Nat} (h1 : t.eval args s none [] s = some (.ref x)) (h2 : u.eval args s none [] s = some (.ref x)) : False := by
  simp [Cond.before, Cond.holds, Cond.value, h1, h2] at h
theorem gaOverA {ty : FieldType} {A : Array Value} {U : State} (h : (Cond.arrayOver ty).before A U = true) : (Cond.arrayOver ty).before #[] U = true := h
theorem ga_nestsSub : gaSub gaNests tables_1 = true := by decide +kernel
theorem ga_nestsIn : ∀ w ∈ gaNests, w ∈ tables_1 := gaSub_mem _ _ ga_nestsSub
section GST
variable {s : State} {b L : Nat} {xs : Nat → Int32}
theorem ga_hsel (hts : ∀ w ∈ lw_tbl, w.before #[Value.ref b] s = true) : ∀ w ∈ gaSel, w.before #[Value.ref b] s = true := by
  refine List.forall_mem_cons.mpr ⟨?_, List.forall_mem_cons.mpr ⟨?_, fun _ h => absurd h List.not_mem_nil⟩⟩
  · exact ga_selP ⟨by decide, by decide⟩ (hts _ (List.mem_append_right _ (gaIx4 (i := 26) rfl))) (hts _ (List.mem_append_right _ (gaIx7 (i := 88) rfl))) (hts _ (List.mem_append_right _ (gaIx4 (i := 64) rfl))) (hts _ (List.mem_append_right _ (gaIx4 (i := 65) rfl)))
  · exact ga_selP ⟨by decide, by decide⟩ (hts _ (List.mem_append_right _ (gaIx4 (i := 26) rfl))) (hts _ (List.mem_append_right _ (gaIx7 (i := 89) rfl))) (hts _ (List.mem_append_right _ (gaIx4 (i := 68) rfl))) (hts _ (List.mem_append_right _ (gaIx4 (i := 69) rfl)))
theorem ga_vaK (hts : ∀ w ∈ lw_tbl, w.before #[Value.ref b] s = true) : ∃ D : va_G, va_K D vwCl [] s := by
  have hW := gaW_hts (ga_hsel hts) hts
  obtain ⟨c0, iS0, hKn0⟩ := u_known (C := RJ0) (T := TJ0) (N := 4) (n := 4) hW hin_RJ0 (hts _ (List.mem_append_right _ (gaIx4 (i := 152) rfl)))
  obtain ⟨c1, iS1, hKn1⟩ := u_known (C := RJ4) (T := TJ4) (N := 4) (n := 4) hW hin_RJ4 (hts _ (List.mem_append_right _ (gaIx4 (i := 26) rfl)))
  obtain ⟨c2, iS2, hKn2⟩ := u_known (C := RX0) (T := TX0) (N := 4) (n := 4) hW hin_RX0 (hts _ (List.mem_append_right _ (gaIx1 (i := 74) rfl)))
  obtain ⟨c3, iS3, hKn3⟩ := u_known (C := RX2) (T := TX2) (N := 3) (n := 3) hW hin_RX2 (hts _ (List.mem_append_right _ (gaIx1 (i := 39) rfl)))
  obtain ⟨c4, iS4, hKn4⟩ := u_known (C := RX4) (T := TX4) (N := 2) (n := 2) hW hin_RX4 (hts _ (List.mem_append_right _ (gaIx1 (i := 45) rfl)))
  obtain ⟨c5, iS5, hKn5⟩ := u_known (C := RX5) (T := TX5) (N := 9) (n := 9) hW hin_RX5 (hts _ (List.mem_append_right _ (gaIx1 (i := 27) rfl)))
  obtain ⟨c6, iS6, hKn6⟩ := u_known (C := RX6) (T := TX6) (N := 2) (n := 2) hW hin_RX6 (hts _ (List.mem_append_right _ (gaIx2 (i := 193) rfl)))
  obtain ⟨c7, iS7, hKn7⟩ := u_known (C := RX7) (T := TX7) (N := 8) (n := 8) hW hin_RX7 (hts _ (List.mem_append_right _ (gaIx5 (i := 174) rfl)))
  refine ⟨(fun k => if k = 0 then c0 else if k = 1 then c1 else if k = 2 then c2 else if k = 3 then c3 else if k = 4 then c4 else if k = 5 then c5 else if k = 6 then c6 else c7, fun k => if k = 0 then iS0 else if k = 1 then iS1 else if k = 2 then iS2 else if k = 3 then iS3 else if k = 4 then iS4 else if k = 5 then iS5 else if k = 6 then iS6 else iS7), fun k q hq => ?_, fun k q h => by simp at h⟩
  match k, hq with
  | 0, hq => cases hq; exact hKn0
  | 1, hq => cases hq; exact hKn1
  | 2, hq => cases hq; exact hKn2
  | 3, hq => cases hq; exact hKn3
  | 4, hq => cases hq; exact hKn4
  | 5, hq => cases hq; exact hKn5
  | 6, hq => cases hq; exact hKn6
  | 7, hq => cases hq; exact hKn7
  | k + 8, hq => simp [vwCl] at hq
theorem ga_gaK (hts : ∀ w ∈ lw_tbl, w.before #[Value.ref b] s = true) : ∃ dA : Nat → ClassId, ∀ (D : va_G) (B : Nat) (f : Nat → Nat), gaK (D, dA, B, f) s := by
  obtain ⟨c0, k0, m0, z1, z2, z3⟩ := ga_arr (hts _ (List.mem_append_right _ (gaIx1 (i := 62) rfl)))
  obtain ⟨c1, k1, m1, i1, i2, i3⟩ := ga_arr (hts _ (List.mem_append_right _ (gaIx1 (i := 221) rfl)))
  obtain ⟨c2, k2, m2, j1, j2, j3⟩ := ga_arr (hts _ (List.mem_append_right _ (gaIx1 (i := 109) rfl)))
  obtain ⟨p3, c3, k3, f3, -, g3, q3, r3⟩ := Cond.arrayOver_spec (hts _ (List.mem_append_right _ (gaIx1 (i := 35) rfl)))
  obtain ⟨p4, c4, k4, f4, -, g4, q4, r4⟩ := Cond.arrayOver_spec (hts _ (List.mem_append_right _ (gaIx1 (i := 37) rfl)))
  obtain ⟨p5, c5, k5, f5, -, g5, q5, r5⟩ := arrayOverA_spec (hts _ (List.mem_append_right _ (gaIx5 (i := 180) rfl)))
  refine ⟨fun t => if t = 100 then c0 else if t = 101 then c1 else if t = 102 then c2 else if t = 110 then c3 else if t = 111 then c4 else c5, fun D B f t ht => ?_⟩
  rcases ht with rfl | rfl | rfl | rfl | rfl | rfl
  · exact ⟨k0, m0, z1, z2, z3, fun q => by omega⟩
  · exact ⟨k1, m1, i1, i2, i3, fun q => by omega⟩
  · exact ⟨k2, m2, j1, j2, j3, fun q => by omega⟩
  · exact ⟨k3, p3, r3, g3, q3, fun _ => f3⟩
  · exact ⟨k4, p4, r4, g4, q4, fun _ => f4⟩
  · exact ⟨k5, p5, r5, g5, q5, fun _ => f5⟩
abbrev gaNar : Cond := Jvm.Cond.and given_1 narrow_1
def stPre : List Cond := [Cond.isRef (.static "java/lang/Throwable" "UNASSIGNED_STACK" "[Ljava/lang/StackTraceElement;"), Cond.isRef (.static "java/lang/Throwable" "SUPPRESSED_SENTINEL" "Ljava/util/List;"), Cond.arrayOf (.static "Wordgarden$Growth" "CODES_FOR_A" "[I") .int, Cond.eq (.length (.static "Wordgarden$Growth" "CODES_FOR_A" "[I")) (.int (Int32.ofNat 4)), Cond.eq (.elem (.static "Wordgarden$Growth" "CODES_FOR_A" "[I") (.int (Int32.ofNat 0))) (.int (Int32.ofNat 0)), Cond.eq (.elem (.static "Wordgarden$Growth" "CODES_FOR_A" "[I") (.int (Int32.ofNat 1))) (.int (Int32.ofNat 5)), Cond.eq (.elem (.static "Wordgarden$Growth" "CODES_FOR_A" "[I") (.int (Int32.ofNat 2))) (.int (Int32.ofNat 9)), Cond.eq (.elem (.static "Wordgarden$Growth" "CODES_FOR_A" "[I") (.int (Int32.ofNat 3))) (.int (Int32.ofNat 17)), Cond.eq (.static "java/lang/String" "COMPACT_STRINGS" "Z") (.int 1), Cond.arrayOf (.static "java/lang/Integer" "DigitOnes" "[B") .byte, Cond.eq (.length (.static "java/lang/Integer" "DigitOnes" "[B")) (.int (Int32.ofNat 100))]
def stDig : List Cond := (List.range 100).map (fun j => Cond.eq (.elem (.static "java/lang/Integer" "DigitOnes" "[B") (.int (Int32.ofNat j))) (.int (Int32.ofNat (48 + j % 10))))
def stPost : List Cond := [Cond.eq (.length (.static "java/lang/Integer" "DigitTens" "[B")) (.int (Int32.ofNat 100)), Cond.not (.castable "java/lang/IllegalArgumentException" "java/lang/IndexOutOfBoundsException"), Cond.not (.castable "java/lang/IllegalStateException" "java/lang/IndexOutOfBoundsException"), Cond.not (.castable "java/lang/IllegalStateException" "java/lang/IllegalArgumentException"), Cond.exactly (.string "Wordgarden" 287) "java/lang/String", Cond.exactly (.string "Wordgarden" 292) "java/lang/String", Cond.exactly (.string "Wordgarden" 298) "java/lang/String", Cond.exactly (.string "Wordgarden" 294) "java/lang/String", Cond.exactly (.string "Wordgarden" 303) "java/lang/String", Cond.exactly (.string "WordgardenModel" 150) "java/lang/String", Cond.not (.eq (.arg 0) (.static "Wordgarden$Growth" "CODES_FOR_A" "[I"))]
theorem stNeed_sub : gaSub (stPre ++ (stDig ++ stPost)) (flatC gaNar) = true := by decide +kernel
theorem stNeed_in {w : Cond} (h : w ∈ stPre ++ (stDig ++ stPost)) : w ∈ flatC gaNar := gaSub_mem _ _ stNeed_sub w h
theorem stPre_in {w : Cond} (i : Nat) (h : stPre[i]? = some w) : w ∈ flatC gaNar := stNeed_in (List.mem_append_left _ (List.mem_of_getElem? h))
theorem stPost_in {w : Cond} (i : Nat) (h : stPost[i]? = some w) : w ∈ flatC gaNar := stNeed_in (List.mem_append_right _ (List.mem_append_right _ (List.mem_of_getElem? h)))
theorem ga_dig : ∀ j, j < 100 → Cond.eq (.elem (.static "java/lang/Integer" "DigitOnes" "[B") (.int (Int32.ofNat j))) (.int (Int32.ofNat (48 + j % 10))) ∈ flatC gaNar := fun j hj => stNeed_in (List.mem_append_right _ (List.mem_append_left _ (List.mem_map.mpr ⟨j, List.mem_range.mpr hj, rfl⟩)))
theorem ga_cod : ∀ j, j < 4 → Cond.eq (.elem (.static "Wordgarden$Growth" "CODES_FOR_A" "[I") (.int (Int32.ofNat j))) (.int (if j = 0 then 0 else if j = 1 then 5 else if j = 2 then 9 else 17)) ∈ flatC gaNar := fun j hj => by
  match j, hj with
  | 0, _ => exact (stPre_in 4 rfl)
  | 1, _ => exact (stPre_in 5 rfl)
  | 2, _ => exact (stPre_in 6 rfl)
  | 3, _ => exact (stPre_in 7 rfl)
  | j + 4, h => omega
theorem ga_ones : ∀ j, j < 100 → gaOnes.getD j .null = .int (Int32.ofNat (48 + j % 10)) := by decide +kernel
theorem ga_cods : ∀ j, j < 4 → gaCodes.getD j .null = .int (if j = 0 then 0 else if j = 1 then 5 else if j = 2 then 9 else 17) := by decide +kernel
theorem ga_begin (hts : ∀ w ∈ lw_tbl, w.before #[Value.ref b] s = true) (hX : va_X b L xs s s.heap) (hgv : gaNar.before #[Value.ref b] s = true) (hL : L ≤ 320) :
    ∃ (G : gaG) (h0 : gaH), gaF G s s.heap ∧ G.2.2.1 = s.heap.size ∧ gaR G s h0 s.heap ∧ h0 b = some (1102, (List.range L).map (fun i => Value.int (xs i))) ∧ h0 (G.2.2.2 0) = some (1102, gaCodes) ∧ h0 (G.2.2.2 1) = some (1101, gaOnes) := by
  obtain ⟨D, hD⟩ := ga_vaK hts
  obtain ⟨dA, hdA⟩ := ga_gaK hts
  have hfl := flat_of_before _ hgv
  have hA : ∀ q : Nat, q < s.heap.size → ¬ (fun q : Nat => s.heap.size ≤ q) q := fun q hq => Nat.not_le.mpr hq
  obtain ⟨t0, e0, T0⟩ := va_Tof (args := #[Value.ref b]) (s := s) (tm := (.static "Wordgarden$Growth" "CODES_FOR_A" "[I")) (ty := .int) (N := 4) (f := fun j => gaCodes.getD j .null) (A := fun q : Nat => s.heap.size ≤ q) (by decide) (hfl _ (stPre_in 2 rfl)) (va_eqt (z := Int32.ofNat 4) (hfl _ (stPre_in 3 rfl))) (fun j hj => by rw [ga_cods j hj]; exact va_eqt (hfl _ (ga_cod j hj))) hA
  obtain ⟨t1, e1, T1⟩ := va_Tof (args := #[Value.ref b]) (s := s) (tm := (.static "java/lang/Integer" "DigitOnes" "[B")) (ty := .byte) (N := 100) (f := fun j => gaOnes.getD j .null) (A := fun q : Nat => s.heap.size ≤ q) (by decide) (hfl _ (stPre_in 9 rfl)) (va_eqt (z := Int32.ofNat 100) (hfl _ (stPre_in 10 rfl))) (fun j hj => by rw [ga_ones j hj]; exact va_eqt (hfl _ (ga_dig j hj))) hA
  obtain ⟨t2, c2, e2, -, -⟩ := Term.length_spec (va_eqt (z := Int32.ofNat 100) (hfl (Cond.eq (.length (.static "java/lang/Integer" "DigitTens" "[B")) (.int (Int32.ofNat 100))) (stPost_in 0 rfl)))
  obtain ⟨u0, v0⟩ : ∃ u : Nat, (Term.string "Wordgarden" 287).eval #[Value.ref b] s none [] s = some (.ref u) := ga_str (hfl (Cond.exactly (.string "Wordgarden" 287) "java/lang/String") (stPost_in 4 rfl))
  obtain ⟨u1, v1⟩ : ∃ u : Nat, (Term.string "Wordgarden" 292).eval #[Value.ref b] s none [] s = some (.ref u) := ga_str (hfl (Cond.exactly (.string "Wordgarden" 292) "java/lang/String") (stPost_in 5 rfl))
  obtain ⟨u2, v2⟩ : ∃ u : Nat, (Term.string "Wordgarden" 298).eval #[Value.ref b] s none [] s = some (.ref u) := ga_str (hfl (Cond.exactly (.string "Wordgarden" 298) "java/lang/String") (stPost_in 6 rfl))
  obtain ⟨u3, v3⟩ : ∃ u : Nat, (Term.string "Wordgarden" 294).eval #[Value.ref b] s none [] s = some (.ref u) := ga_str (hfl (Cond.exactly (.string "Wordgarden" 294) "java/lang/String") (stPost_in 7 rfl))
  obtain ⟨u4, v4⟩ : ∃ u : Nat, (Term.string "Wordgarden" 303).eval #[Value.ref b] s none [] s = some (.ref u) := ga_str (hfl (Cond.exactly (.string "Wordgarden" 303) "java/lang/String") (stPost_in 8 rfl))
  obtain ⟨u5, v5⟩ : ∃ u : Nat, (Term.string "WordgardenModel" 150).eval #[Value.ref b] s none [] s = some (.ref u) := ga_str (hfl (Cond.exactly (.string "WordgardenModel" 150) "java/lang/String") (stPost_in 9 rfl))
  obtain ⟨cb, b1, b2, b3, b4, b5⟩ := id hX
  obtain ⟨cc0, y1, y2, -⟩ := id T0
  obtain ⟨cc1, w1, w2, -⟩ := id T1
  have n0 : b ≠ t0 := fun hq => by
    have hne : (Cond.not (.eq (.arg 0) (.static "Wordgarden$Growth" "CODES_FOR_A" "[I"))).before #[Value.ref b] s = true := hfl _ (stPost_in 10 rfl)
    exact ga_noteq hne (x := b) rfl (by rw [e0, hq])
  have n1 : b ≠ t1 := ga_tydiff b1 w1 b2 w2 (by decide)
  have n2 : t0 ≠ t1 := ga_tydiff y1 w1 y2 w2 (by decide)
  refine ⟨(D, dA, s.heap.size, fun k => if k = 0 then t0 else if k = 1 then t1 else if k = 2 then t2 else if k = 10 then u0 else if k = 11 then u1 else if k = 12 then u2 else if k = 13 then u3 else if k = 14 then u4 else u5), fun a => if a = b then some (1102, (List.range L).map (fun i => Value.int (xs i))) else if a = t0 then some (1102, gaCodes) else if a = t1 then some (1101, gaOnes) else none, ⟨hD, hdA _ _ _, Nat.le_refl _, ⟨?_, ?_, ?_, ?_⟩, ⟨?_, ?_⟩, ?_, ?_, ?_, ?_⟩, rfl, ?_, ?_, ?_, ?_⟩
  · exact va_Zref (hts _ (List.mem_append_right _ (gaIx2 (i := 30) rfl))) (hts _ (List.mem_append_right _ (gaIx1 (i := 4) rfl))) e0 hA
  · exact va_Zof (hts _ (List.mem_append_right _ (gaIx4 (i := 35) rfl))) (hts _ (List.mem_append_right _ (gaIx1 (i := 19) rfl))) (va_eqt (hfl _ (stPre_in 8 rfl))) hA
  · exact va_Zref (hts _ (List.mem_append_right _ (gaIx4 (i := 200) rfl))) (hts _ (List.mem_append_right _ (gaIx1 (i := 14) rfl))) e1 hA
  · exact va_Zref (hts _ (List.mem_append_right _ (gaIx4 (i := 202) rfl))) (hts _ (List.mem_append_right _ (gaIx1 (i := 14) rfl))) e2 hA
  · exact vx_Zqof (hts _ (List.mem_append_right _ (gaIx1 (i := 181) rfl))) (hts _ (List.mem_append_right _ (gaIx1 (i := 7) rfl))) (hfl _ (stPre_in 0 rfl)) hA
  · exact vx_Zqof (hts _ (List.mem_append_right _ (gaIx1 (i := 183) rfl))) (hts _ (List.mem_append_right _ (gaIx1 (i := 7) rfl))) (hfl _ (stPre_in 1 rfl)) hA
  · refine List.forall_mem_cons.mpr ⟨?_, List.forall_mem_cons.mpr ⟨?_, List.forall_mem_cons.mpr ⟨?_, List.forall_mem_cons.mpr ⟨?_, List.forall_mem_cons.mpr ⟨?_, List.forall_mem_cons.mpr ⟨?_, fun _ h => absurd h List.not_mem_nil⟩⟩⟩⟩⟩⟩
    · exact ga_strR (hts _ (List.mem_append_right _ (gaIx1 (i := 195) rfl))) v0
    · exact ga_strR (hts _ (List.mem_append_right _ (gaIx2 (i := 17) rfl))) v1
    · exact ga_strR (hts _ (List.mem_append_right _ (gaIx2 (i := 184) rfl))) v2
    · exact ga_strR (hts _ (List.mem_append_right _ (gaIx3 (i := 8) rfl))) v3
    · exact ga_strR (hts _ (List.mem_append_right _ (gaIx3 (i := 136) rfl))) v4
    · exact ga_strR (hts _ (List.mem_append_right _ (gaIx6 (i := 167) rfl))) v5
  · exact fun w hw => va_Nw.of (gaNest_tab (gaNests_ok w hw)) (hts _ (List.mem_append_right _ (ga_nestsIn w hw)))
  · refine List.forall_mem_cons.mpr ⟨va_Nc.of (hfl _ (stPost_in 1 rfl)), List.forall_mem_cons.mpr ⟨va_Nc.of (hfl _ (stPost_in 2 rfl)), List.forall_mem_cons.mpr ⟨va_Nc.of (hfl _ (stPost_in 3 rfl)), fun _ h => absurd h List.not_mem_nil⟩⟩⟩
  · intro t ht
    rcases (show t = 110 ∨ t = 111 ∨ t = 112 by omega) with rfl | rfl | rfl
    · exact gaOverA (hts _ (List.mem_append_right _ (gaIx1 (i := 35) rfl)))
    · exact gaOverA (hts _ (List.mem_append_right _ (gaIx1 (i := 37) rfl)))
    · exact gaOverA (hts _ (List.mem_append_right _ (gaIx5 (i := 180) rfl)))
  · intro a e9 ha
    have ha : (if a = b then some (1102, (List.range L).map (fun i => Value.int (xs i))) else if a = t0 then some (1102, gaCodes) else if a = t1 then some (1101, gaOnes) else none) = some e9 := ha
    by_cases h1 : a = b
    · subst h1
      rw [if_pos rfl] at ha
      cases ha
      have hlen : ((List.range L).map (fun i => Value.int (xs i))).length = L := by rw [List.length_map, List.length_range]
      have b2 : s.isArrayOf cb (gaTy (1102 - 1000)) := by rw [show gaTy (1102 - 1000) = .int by simp [gaTy]]; exact b2
      refine Or.inr ⟨show 1000 ≤ 1102 by decide, ⟨cb, b1, b2, b3, ?_, ?_, fun j v hj => ?_⟩⟩
      · show cb.slots.size.toInt32 = Int32.ofNat ((List.range L).map (fun i => Value.int (xs i))).length
        rw [hlen, b4]
      · show ((List.range L).map (fun i => Value.int (xs i))).length ≤ cb.slots.size
        rw [hlen, b4]
        exact Nat.le_refl _
      have hl : j < L := by
        have := (List.getElem?_eq_some_iff.mp hj).1
        simpa using this
      have e := b5 j hl
      simp [List.getElem?_map, List.getElem?_range hl] at hj
      rw [e, hj]
    · rw [if_neg h1] at ha
      by_cases h2 : a = t0
      · subst h2
        rw [if_pos rfl] at ha
        cases ha
        exact Or.inr ⟨show 1000 ≤ 1102 by decide, ga_T (x := 1102) T0 rfl⟩
      · rw [if_neg h2] at ha
        by_cases h3 : a = t1
        · subst h3
          rw [if_pos rfl] at ha
          cases ha
          exact Or.inr ⟨show 1000 ≤ 1101 by decide, ga_T (x := 1101) (vs := gaOnes) T1 rfl⟩
        · rw [if_neg h3] at ha
          cases ha
  · exact if_pos rfl
  · show (if t0 = b then some (1102, (List.range L).map (fun i => Value.int (xs i))) else if t0 = t0 then some (1102, gaCodes) else if t0 = t1 then some (1101, gaOnes) else none) = some (1102, gaCodes)
    rw [if_neg n0.symm, if_pos rfl]
  · show (if t1 = b then some (1102, (List.range L).map (fun i => Value.int (xs i))) else if t1 = t0 then some (1102, gaCodes) else if t1 = t1 then some (1101, gaOnes) else none) = some (1101, gaOnes)
    rw [if_neg n1.symm, if_neg n2.symm, if_pos rfl]
end GST
