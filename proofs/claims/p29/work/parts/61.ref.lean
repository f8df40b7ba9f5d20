/-! The reference: undo, the walk. -/
section RV
variable {B : Nat → Nat} {h h0 : gaH} {st : GSt} {no : Int} {a b o : Nat} {u v : List Bool} {w g : Nat} {x y z : Int} {Q : Int → gaH → Prop}
theorem walk_step {X Y u : List Bool} (hX : 0 < X.length) (hY : 0 < Y.length) {j : Nat} (hj : j < u.length) (hok : okR X Y u j = true) : (stepv X Y u j = 1 ∧ walkR X Y u j = false :: walkR X Y u (j + X.length) ∧ okR X Y u (j + X.length) = true ∧ j + X.length ≤ u.length) ∨ (stepv X Y u j = 2 ∧ walkR X Y u j = true :: walkR X Y u (j + Y.length) ∧ okR X Y u (j + Y.length) = true ∧ j + Y.length ≤ u.length) := by
  rw [okR_at hX hY j, decide_eq_false (by omega), Bool.false_or] at hok
  rw [walkR, dif_pos ⟨hj, hX, hY⟩]
  unfold stepv
  cases e1 : stands u X j && okR X Y u (j + X.length)
  · rw [e1, Bool.false_or] at hok
    right
    rw [if_neg (by decide), if_pos hok]
    rw [Bool.and_eq_true] at hok
    exact ⟨rfl, rfl, hok.2, stands_le hok.1⟩
  · left
    rw [Bool.and_eq_true] at e1
    exact ⟨rfl, rfl, e1.2, stands_le e1.1⟩
theorem walk_end {X Y u : List Bool} {j : Nat} (hj : u.length ≤ j) : walkR X Y u j = [] := by
  rw [walkR, dif_neg (by omega)]
theorem walk_len {X Y u : List Bool} (hX : 0 < X.length) (hY : 0 < Y.length) : ∀ (n j : Nat), u.length - j ≤ n → (walkR X Y u j).length ≤ u.length - j
  | 0, j, h => by rw [walk_end (by omega)]; exact Nat.zero_le _
  | n + 1, j, h => by
    by_cases q : u.length ≤ j
    · rw [walk_end q]; exact Nat.zero_le _
    · rw [walkR, dif_pos ⟨by omega, hX, hY⟩]
      split
      · have := walk_len (u := u) (X := X) (Y := Y) hX hY n (j + X.length) (by omega)
        rw [List.length_cons]; omega
      · have := walk_len (u := u) (X := X) (Y := Y) hX hY n (j + Y.length) (by omega)
        rw [List.length_cons]; omega
theorem r_undo_L152 {h0 : gaH} (d0 : gM B h0 st 0) (hw : w < 3) {X Y : List Bool} {p q r : Nat} {xs : List Int} (ru : mR h0 a (st.S w)) (rX : mR h0 p X) (rY : mR h0 q Y) (rs : mJ h0 r xs) (hX : 0 < X.length) (hY : 0 < Y.length) (hxs : ∀ i, i < (st.S w).length → xs[i]? = some (stepv X Y (st.S w) i)) {t : List Bool} (ht : t.length ≤ 64) (k : mRes B h0 Q (done (st.sheet w t) (t.length : Int))) {kc ks : Nat} : ∀ (z j c : Nat) (h : gaH), fil h0 h o (pf t c) → j ≤ (st.S w).length → (st.S w).length - j < z → okR X Y (st.S w) j = true → c ≤ t.length → t.drop c = walkR X Y (st.S w) j → w_X7_undo_L152 Q z (B 0) (w : Int) a p q r o (c : Int) (j : Int) h kc ks
  | 0, _, _, _, _, _, h9, _, _, _ => absurd h9 (Nat.not_lt_zero _)
  | z + 1, j, c, h, fl, hj, h9, hok, hc, hd => by
    have hl := d0.sl hw
    have d := d0.kp fl.2.1
    unfold w_X7_undo_L152
    refine (ru.on fl.2.1).len ⟨by omega, by omega, ?_⟩
    by_cases q1 : (st.S w).length ≤ j
    · rw [walk_end q1] at hd
      have hlen : t.length - c = 0 := by rw [← List.length_drop, hd]; rfl
      obtain rfl : c = t.length := by omega
      rw [pf_end] at fl
      exact if_yes (by omega) ⟨d.has, r_comes d hw rfl fl.2.2 ht (d0.new fl.1) (fun h2 d2 f2 => k.ok d2 ((mF.kp fl.2.1).tr f2) rfl)⟩
    · have hx := hxs j (by omega)
      have cl : ∀ (bb : Bool) (rest : List Bool), walkR X Y (st.S w) j = bb :: rest → c < t.length ∧ t.getD c false = bb ∧ t.drop (c + 1) = rest := fun bb rest e => by
        rw [e] at hd
        have hlen : t.length - c = rest.length + 1 := by rw [← List.length_drop, hd]; rfl
        have hc2 : c < t.length := by omega
        rw [take_one hc2] at hd
        exact ⟨hc2, (List.cons.inj hd).1, (List.cons.inj hd).2⟩
      refine if_no (by omega) ((rs.on fl.2.1).at rfl hx (by omega) ?_)
      rcases walk_step hX hY (show j < (st.S w).length by omega) hok with ⟨e1, e2, e3, e4⟩ | ⟨e1, e2, e3, e4⟩
      · obtain ⟨c1, c2, c3⟩ := cl _ _ e2
        rw [e1]
        refine fl.set (b := false) rfl (by rw [pf_len hc]; exact c1) (by rw [pf_len hc]; omega) rfl (fun h3 f3 => (rs.on f3.2.1).at rfl hx (by omega) ?_)
        rw [← c2, pf_set c1] at f3
        rw [e1]
        refine ⟨by decide, if_yes rfl ((rX.on f3.2.1).len ?_)⟩
        rw [show (c : Int) + 1 = ((c + 1 : Nat) : Int) by omega, show (j : Int) + (X.length : Int) = ((j + X.length : Nat) : Int) by omega]
        exact r_undo_L152 d0 hw ru rX rY rs hX hY hxs ht k z (j + X.length) (c + 1) h3 f3 e4 (by omega) e3 (by omega) c3
      · obtain ⟨c1, c2, c3⟩ := cl _ _ e2
        rw [e1]
        refine fl.set (b := true) rfl (by rw [pf_len hc]; exact c1) (by rw [pf_len hc]; omega) rfl (fun h3 f3 => (rs.on f3.2.1).at rfl hx (by omega) ?_)
        rw [← c2, pf_set c1] at f3
        rw [e1]
        refine ⟨by decide, if_no (by decide) ((rY.on f3.2.1).len ?_)⟩
        rw [show (c : Int) + 1 = ((c + 1 : Nat) : Int) by omega, show (j : Int) + (Y.length : Int) = ((j + Y.length : Nat) : Int) by omega]
        exact r_undo_L152 d0 hw ru rX rY rs hX hY hxs ht k z (j + Y.length) (c + 1) h3 f3 e4 (by omega) e3 (by omega) c3
theorem r_undo_L103 (d0 : gM B h st 0) (hw : w < 3) {X Y : List Bool} {p q r : Nat} {xs : List Int} (ru : mR h a (st.S w)) (rX : mR h p X) (rY : mR h q Y) (rs : mJ h r xs) (hX : 0 < X.length) (hY : 0 < Y.length) (hxs : ∀ i, i < (st.S w).length → xs[i]? = some (stepv X Y (st.S w) i)) (h0k : okR X Y (st.S w) 0 = true) (k : mRes B h Q (done (st.sheet w (walkR X Y (st.S w) 0)) ((walkR X Y (st.S w) 0).length : Int))) : ∀ (z j c : Nat), j ≤ (st.S w).length → (st.S w).length - j < z → okR X Y (st.S w) j = true → c + (walkR X Y (st.S w) j).length = (walkR X Y (st.S w) 0).length → w_X7_undo_L103 Q z (B 0) (w : Int) a p q r (c : Int) (j : Int) h 1 64
  | 0, _, _, _, h9, _, _ => absurd h9 (Nat.not_lt_zero _)
  | z + 1, j, c, hj, h9, hok, hc => by
    have hl := d0.sl hw
    have hwl := walk_len (X := X) (Y := Y) (u := st.S w) hX hY _ 0 (Nat.le_refl _)
    unfold w_X7_undo_L103
    refine ru.len ⟨by omega, by omega, ?_⟩
    by_cases q1 : (st.S w).length ≤ j
    · rw [walk_end q1, List.length_nil, Nat.add_zero] at hc
      refine if_yes (by omega) (fil.new (n := c) rfl (by omega) (by decide) (by omega) (fun o h1 f1 => ⟨66, ?_⟩))
      refine r_undo_L152 d0 hw ru rX rY rs hX hY hxs (by omega) k 66 0 0 h1 ?_ (Nat.zero_le _) (by omega) h0k (Nat.zero_le _) rfl
      rw [pf_0, ← hc]; exact f1
    · refine if_no (by omega) (rs.at rfl (hxs j (by omega)) (by omega) ?_)
      rcases walk_step hX hY (show j < (st.S w).length by omega) hok with ⟨e1, e2, e3, e4⟩ | ⟨e1, e2, e3, e4⟩
      · rw [e1]
        rw [e2, List.length_cons] at hc
        refine ⟨by decide, if_yes rfl (rX.len ?_)⟩
        rw [show (c : Int) + 1 = ((c + 1 : Nat) : Int) by omega, show (j : Int) + (X.length : Int) = ((j + X.length : Nat) : Int) by omega]
        exact r_undo_L103 d0 hw ru rX rY rs hX hY hxs h0k k z (j + X.length) (c + 1) e4 (by omega) e3 (by omega)
      · rw [e1]
        rw [e2, List.length_cons] at hc
        refine ⟨by decide, if_no (by decide) (rY.len ?_)⟩
        rw [show (c : Int) + 1 = ((c + 1 : Nat) : Int) by omega, show (j : Int) + (Y.length : Int) = ((j + Y.length : Nat) : Int) by omega]
        exact r_undo_L103 d0 hw ru rX rY rs hX hY hxs h0k k z (j + Y.length) (c + 1) e4 (by omega) e3 (by omega)
theorem r_undo (d : gM B h st no) (hx : gR x) (hy : gR y) (hz : gR z) (k : mRes B h Q (m_undo st x y z)) : w_X7_undo (B 0) x y z h Q := by
  unfold w_X7_undo
  refine r_isNoSheet hx ⟨d.has, r_start d rfl (by decide) (fun q h1 d1 f1 => ?_) (fun q h1 d1 f1 => ?_)⟩
  · have q1 := nd q
    rw [m_undo, if_pos q1] at k
    refine ⟨by decide, if_yes rfl (r_isNoRule hy hz ⟨d1.has, r_refuse d1 rfl (by decide) (fun q => ?_) (fun q h2 d2 f2 => ?_)⟩)⟩
    · have q2 := nd q
      rw [if_pos q2] at k
      refine ⟨by decide, if_yes rfl (gCall_mk (by decide) (by decide) (r_isApartRule q2.1 q2.2 (fun h2 k2 => sel (fun t => w_X7_undo_J39 Q (B 0) x y z (B 0) t h2 (8 - 4) (450 - 288)) ?_)))⟩
      have d2 := d1.kp k2
      have f2 := f1.tr (mF.kp k2)
      unfold w_X7_undo_J39
      refine ⟨d2.has, r_refuse d2 rfl (by decide) (fun q => ?_) (fun q h3 d3 f3 => ?_)⟩
      · have q3 := nd q
        rw [if_pos q3] at k
        obtain ⟨w, rfl⟩ : ∃ w : Nat, x = w := ⟨x.toNat, by omega⟩
        obtain ⟨c, rfl⟩ : ∃ w : Nat, y = w := ⟨y.toNat, by omega⟩
        obtain ⟨e, rfl⟩ : ∃ w : Nat, z = w := ⟨z.toNat, by omega⟩
        simp only [Int.toNat_natCast] at k
        have hw : w < 3 := by omega
        have hl := d2.sl hw
        have l1 := code_ok c (by omega) (by omega)
        have l2 := code_ok e (by omega) (by omega)
        refine ⟨by decide, if_yes rfl (d2.f0 (d2.sh rfl hw (fun a ra na => gCall_mk (by decide) (by decide) (r_ofCode (c := c) rfl (by omega) (by omega) (fun p h3 g3 => gCall_mk (by decide) (by decide) (r_ofCode (c := e) rfl (by omega) (by omega) (fun q h4 g4 => gCall_mk (by decide) (by decide) ?_)))))))⟩
        have k4 := g3.2.1.tr g4.2.1
        refine r_steps (ra.on k4) (g3.2.2.on g4.2.1) g4.2.2 l1.1 l2.1 (by omega) (by omega) hl (fun h5 r xs k5 n5 rs hxs => ?_)
        have k6 := k4.tr k5
        have d5 := d2.kp k6
        have ra5 := ra.on k6
        have rp5 := (g3.2.2.on g4.2.1).on k5
        have rq5 := g4.2.2.on k5
        have f5 := f2.tr (mF.kp k6)
        have go : okR (codeW c) (codeW e) (st.S w) 0 = true → w_X7_undo_L103 Q 66 (B 0) (w : Int) a p q r ((0 : Nat) : Int) ((0 : Nat) : Int) h5 1 64 := fun h0k => by
          rw [if_pos h0k] at k
          exact r_undo_L103 d5 hw ra5 rp5 rq5 rs l1.1 l2.1 hxs h0k (k.on f5) 66 0 0 (Nat.zero_le _) (by omega) h0k (Nat.zero_add _)
        refine ra5.len ⟨by omega, ?_⟩
        by_cases z0 : (st.S w).length = 0
        · refine if_yes (by omega) ⟨66, go ?_⟩
          rw [okR_at l1.1 l2.1, decide_eq_true (by omega), Bool.true_or]
        · have sp := stepv_pos (u := st.S w) l1.1 l2.1 (show 0 < (st.S w).length by omega)
          have sr := stepv_R (codeW c) (codeW e) (st.S w) 0
          refine if_no (by omega) (rs.at (i := 0) rfl (hxs 0 (by omega)) (by omega) ⟨by omega, ?_⟩)
          by_cases z1 : stepv (codeW c) (codeW e) (st.S w) 0 = 0
          · have hno : ¬ (okR (codeW c) (codeW e) (st.S w) 0 = true) := fun z2 => by have := sp.mpr z2; omega
            rw [if_neg hno] at k
            exact if_yes z1 ⟨d5.has, r_cannot d5 (fun h6 d6 f6 => k.ok d6 (f5.tr f6) rfl)⟩
          · exact if_no z1 ⟨66, go (sp.mp (by omega))⟩
      · rw [if_neg (nn q)] at k
        exact ⟨by decide, if_no (by decide) (k.ex d3 (f2.tr f3))⟩
    · rw [if_neg (nn q)] at k
      exact ⟨by decide, if_no (by decide) (k.ex d2 (f1.tr f2))⟩
  · rw [m_undo, if_neg (nn q)] at k
    exact ⟨by decide, if_no (by decide) (k.ex d1 f1)⟩
end RV
