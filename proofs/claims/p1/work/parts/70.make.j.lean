/-! The makers: cells made one behind another, the newest ahead. -/
theorem lt_rfl {a b : Nat} (q : Nat.ble (a + 1) b = true) : a < b := Nat.le_of_ble_eq_true q
def aL (h0 h : gaH) (as : List (Nat × gaE)) : Prop := (as.map Prod.fst).Nodup ∧ (∀ (i : Nat) k e, as[i]? = some (k, e) → h k = some e) ∧ (∀ a, a ∉ as.map Prod.fst → h a = h0 a) ∧ ∀ a, a ∈ as.map Prod.fst → h0 a = none
theorem aL.nil (h : gaH) : aL h h [] := ⟨List.nodup_nil, fun i k e q => by simp at q, fun _ _ => rfl, fun a q => by simp at q⟩
theorem set_self {α : Type} {l : List α} {i : Nat} {x : α} (q : l[i]? = some x) : l.set i x = l := by
  refine List.ext_getElem? (fun j => ?_)
  by_cases e : i = j
  · subst e
    rw [q, List.getElem?_set_self (List.getElem?_eq_some_iff.mp q).1]
  · rw [List.getElem?_set_ne e]
section AL
variable {h0 h : gaH} {as : List (Nat × gaE)} {a o : Nat}
theorem aL.keys {i : Nat} {k : Nat} {e f : gaE} (q : as[i]? = some (k, e)) : (as.set i (k, f)).map Prod.fst = as.map Prod.fst := by
  rw [List.map_set]
  exact set_self (by rw [List.getElem?_map, q]; rfl)
theorem aL.new (d : aL h0 h as) (ho : h o = none) (e : gaE) : aL h0 (gaUp h o e) ((o, e) :: as) := by
  obtain ⟨d1, d2, d3, d4⟩ := d
  have no : o ∉ as.map Prod.fst := fun q => by
    obtain ⟨⟨k, f⟩, q1, q2⟩ := List.mem_map.mp q
    obtain ⟨i, hi, q3⟩ := List.getElem_of_mem q1
    have := d2 i k f (by rw [List.getElem?_eq_getElem hi, q3])
    dsimp only at q2
    subst q2
    rw [ho] at this; cases this
  refine ⟨List.nodup_cons.mpr ⟨no, d1⟩, fun i k f q => ?_, fun b hb => ?_, fun b hb => ?_⟩
  · cases i with
    | zero =>
      rw [List.getElem?_cons_zero] at q
      cases q
      exact gaUp_self _ _ _
    | succ i =>
      rw [List.getElem?_cons_succ] at q
      rw [gaUp_ne _ _ (fun z => no (by rw [← z]; exact List.mem_map.mpr ⟨_, List.mem_of_getElem? q, rfl⟩))]
      exact d2 i k f q
  · rw [List.map_cons, List.mem_cons, not_or] at hb
    rw [gaUp_ne _ _ hb.1]; exact d3 b hb.2
  · rw [List.map_cons, List.mem_cons] at hb
    rcases hb with z | z
    · rw [z, ← d3 o no]; exact ho
    · exact d4 b z
theorem aL.set (d : aL h0 h as) (i : Nat) {k : Nat} {e0 : gaE} (q : as[i]? = some (k, e0)) (e : gaE) : aL h0 (gaUp h k e) (as.set i (k, e)) := by
  obtain ⟨d1, d2, d3, d4⟩ := d
  have hk : as.map Prod.fst = (as.set i (k, e)).map Prod.fst := (aL.keys q).symm
  have hi : i < as.length := (List.getElem?_eq_some_iff.mp q).1
  refine ⟨by rw [← hk]; exact d1, fun j k2 f z => ?_, fun b hb => ?_, fun b hb => d4 b (by rw [hk]; exact hb)⟩
  · by_cases ij : i = j
    · subst ij
      rw [List.getElem?_set_self hi] at z
      cases z
      exact gaUp_self _ _ _
    · rw [List.getElem?_set_ne ij] at z
      have e1 : (as.map Prod.fst)[i]? = some k := by rw [List.getElem?_map, q]; rfl
      have e2 : (as.map Prod.fst)[j]? = some k2 := by rw [List.getElem?_map, z]; rfl
      have ne : k2 ≠ k := fun s => by
        subst s
        exact ij ((List.getElem?_inj (List.getElem?_eq_some_iff.mp e1).1 d1).mp (e1.trans e2.symm))
      rw [gaUp_ne _ _ ne]; exact d2 j k2 f z
  · rw [gaUp_ne _ _ (fun s => hb (by rw [s, ← hk]; exact List.mem_map.mpr ⟨_, List.mem_of_getElem? q, rfl⟩))]
    exact d3 b (by rw [hk]; exact hb)
theorem aL.no (d : aL h0 h as) {ci n : Nat} {fs : List Value} {c s : Nat} {K : Nat → gaH → Nat → Nat → Prop} (h1 : 1 ≤ c) (h2 : n ≤ s) (k : ∀ o h', aL h0 h' ((o, (ci, fs)) :: as) → K o h' (c - 1) (s - n)) : gNO h ci n fs c s K := gNO_mk h1 h2 (fun o ho => k o _ (d.new ho _))
theorem aL.na (d : aL h0 h as) {t : Nat} {v : Value} {x : Int} {n c s : Nat} {K : Nat → gaH → Nat → Nat → Prop} (hx : x = (n : Int)) (h9 : n ≤ 100000) (h1 : 1 ≤ c) (h2 : n ≤ s) (k : ∀ o h', aL h0 h' ((o, (t, List.replicate n v)) :: as) → K o h' (c - 1) (s - n)) : gNA h t v x c s K := gNA_mk hx h9 h1 h2 (fun o ho => k o _ (d.new ho _))
theorem aL.at (d : aL h0 h as) (i : Nat) {k : Nat} {e : gaE} (q : as[i]? = some (k, e)) : h k = some e := d.2.1 i k e q
theorem aL.pf (d : aL h0 h as) (i : Nat) {ci f : Nat} {fs : List Value} {v : Value} {K : gaH → Prop} (q : as[i]? = some (a, (ci, fs))) (hf : f < fs.length) (k : ∀ h', aL h0 h' (as.set i (a, (ci, fs.set f v))) → K h') : gPF h a ci f v K := gPF_mk (d.at i q) hf (k _ (d.set i q _))
theorem aL.si (d : aL h0 h as) (i : Nat) {t n : Nat} {vs : List Value} {x : Int} {v : Value} {K : gaH → Prop} (q : as[i]? = some (a, (t, vs))) (hx : x = (n : Int)) (h9 : n ≤ 100000) (hf : n < vs.length) (k : ∀ h', aL h0 h' (as.set i (a, (t, vs.set n v))) → K h') : gSI h a t x v K := by
  subst hx
  exact gSI_mk (d.at i q) (by omega) (by omega) (by rw [Int.toNat_natCast]; exact hf) (by rw [Int.toNat_natCast]; exact k _ (d.set i q _))
theorem aL.ga (d : aL h0 h as) (i : Nat) {ci f x : Nat} {fs : List Value} {K : Nat → Prop} (q : as[i]? = some (a, (ci, fs))) (hv : fs[f]? = some (.ref x)) (k : K x) : gA h a ci f K := gA_mk (d.at i q) hv k
theorem aL.gi (d : aL h0 h as) (i : Nat) {ci f : Nat} {x : Int} {fs : List Value} {K : Int → Prop} (q : as[i]? = some (a, (ci, fs))) (hv : fs[f]? = some (Value.int (Int32.ofInt x))) (k : K x) : gI h a ci f K := gI_mk (d.at i q) hv k
theorem aL.al (d : aL h0 h as) (i : Nat) {t : Nat} {x : Int} {vs : List Value} {K : Int → Prop} (q : as[i]? = some (a, (t, vs))) (hx : (vs.length : Int) = x) (k : K x) : gAL h a t K := gAL_mk (d.at i q) hx k
theorem aL.has (d : aL h0 h as) (i : Nat) {e : gaE} (q : as[i]? = some (a, e)) : gHas h a e.1 := ⟨e.2, d.at i q⟩
abbrev r64 : List Value := List.replicate 64 (gi 0)
abbrev r64b : List Value := (List.replicate 64 (gi 0)).set 0 (gi 1)
theorem c_wInit (d : aL h0 h as) (i : Nat) {Q : gaH → Prop} (q : as[i]? = some (a, (4, [.null, gi 0]))) (k : ∀ o h', aL h0 h' ((o, (100, r64)) :: as.set i (a, (4, [.ref o, gi 0]))) → Q h') : w_X4_init a h Q := by
  unfold w_X4_init
  refine d.na (n := 64) rfl (by decide) (by decide) (by decide) (fun o h1 d1 => d1.pf (i + 1) (by rw [List.getElem?_cons_succ]; exact q) (lt_rfl rfl) (fun h2 d2 => k o h2 ?_))
  exact d2
theorem c_wClear (d : aL h0 h as) (i : Nat) {Q : gaH → Prop} (q : as[i]? = some (a, (4, [.ref o, gi 0]))) (k : ∀ h', aL h0 h' as → Q h') : w_X4_clear a h Q := by
  unfold w_X4_clear
  refine d.pf i q (lt_rfl rfl) (fun h2 d2 => k h2 ?_)
  have e : as.set i (a, (4, [Value.ref o, gi 0].set 1 (gi 0))) = as := set_self q
  rw [e] at d2; exact d2
theorem c_wAdd (d : aL h0 h as) (i j : Nat) {x : Int} {Q : gaH → Prop} (q : as[i]? = some (a, (4, [.ref o, gi 0]))) (q2 : as[j]? = some (o, (100, r64))) (ne : j ≠ i) (hx : x = 0 ∨ x = 1) (k : ∀ h', aL h0 h' ((as.set j (o, (100, r64.set 0 (gi x)))).set i (a, (4, [.ref o, gi 1]))) → Q h') : w_X4_add a x h Q := by
  unfold w_X4_add
  refine d.gi i (x := 0) q rfl ⟨by decide, if_no (by decide) (d.gi i (x := 0) q rfl (d.ga i q rfl (d.al j (x := 64) q2 rfl ⟨by decide, by decide, if_no (by decide) (d.ga i q rfl (d.gi i (x := 0) q rfl ⟨ga_bool hx, d.si j (n := 0) q2 rfl (by decide) (lt_rfl rfl) (fun h1 d1 => ?_)⟩))⟩)))⟩
  have q3 : (as.set j (o, (100, r64.set 0 (gi x))))[i]? = some (a, (4, [.ref o, gi 0])) := by rw [List.getElem?_set_ne ne]; exact q
  exact d1.gi i (x := 0) q3 rfl (d1.pf i q3 (lt_rfl rfl) (fun h2 d2 => k h2 d2))

theorem c_ruInit {Q : gaH → Prop} (d : aL h0 h ((a, (3, [.null, .null, .null])) :: as)) (k : ∀ o1 o2 o3 o4 o5 h', aL h0 h' ((o5, (100, List.replicate 65 (gi 0))) :: (o4, (100, r64)) :: (o3, (4, [.ref o4, gi 0])) :: (o2, (100, r64)) :: (o1, (4, [.ref o2, gi 0])) :: (a, (3, [.ref o1, .ref o3, .ref o5])) :: as) → Q h') : w_X2_init a h Q := by
  unfold w_X2_init
  refine d.no (by decide) (by decide) (fun o1 h1 d1 => gCall_mk (by decide) (by decide) (c_wInit d1 0 rfl (fun o2 h2 d2 => ?_)))
  refine d2.pf 2 rfl (lt_rfl rfl) (fun h3 d3 => d3.no (by decide) (by decide) (fun o3 h4 d4 => gCall_mk (by decide) (by decide) (c_wInit d4 0 rfl (fun o4 h5 d5 => ?_))))
  exact d5.pf 4 rfl (lt_rfl rfl) (fun h6 d6 => d6.na (n := 65) rfl (by decide) (by decide) (by decide) (fun o5 h7 d7 => d7.pf 5 rfl (lt_rfl rfl) (fun h8 d8 => k o1 o2 o3 o4 o5 h8 d8)))

theorem c_grInit {Q : gaH → Prop} (d : aL h0 h ((a, (2, [.null, gi 0, .null, .null])) :: as)) (k : ∀ o1 o2 o3 o4 o5 h', aL h0 h' ((o5, (100, r64)) :: (o4, (4, [.ref o5, gi 1])) :: (o3, (100, r64b)) :: (o2, (4, [.ref o3, gi 1])) :: (o1, (102, r64)) :: (a, (2, [.ref o1, gi 0, .ref o2, .ref o4])) :: as) → Q h') : w_X0_init a h Q := by
  unfold w_X0_init
  refine d.na (n := 64) rfl (by decide) (by decide) (by decide) (fun o1 h1 d1 => d1.pf 1 rfl (lt_rfl rfl) (fun h2 d2 => d2.no (by decide) (by decide) (fun o2 h3 d3 => gCall_mk (by decide) (by decide) (c_wInit d3 0 rfl (fun o3 h4 d4 => ?_)))))
  refine d4.pf 3 rfl (lt_rfl rfl) (fun h5 d5 => d5.no (by decide) (by decide) (fun o4 h6 d6 => gCall_mk (by decide) (by decide) (c_wInit d6 0 rfl (fun o5 h7 d7 => ?_))))
  refine d7.pf 5 rfl (lt_rfl rfl) (fun h8 d8 => ⟨d8.has 5 rfl, ?_⟩)
  unfold w_X0_begin
  refine d8.pf 5 rfl (lt_rfl rfl) (fun h9 d9 => d9.ga 5 rfl rfl ⟨d9.has 3 rfl, c_wClear d9 3 rfl (fun h10 d10 => d10.ga 5 rfl rfl ⟨d10.has 3 rfl, c_wAdd d10 3 2 rfl rfl (by decide) (Or.inr rfl) (fun h11 d11 => ?_)⟩)⟩)
  refine d11.ga 5 rfl rfl ⟨d11.has 1 rfl, c_wClear d11 1 rfl (fun h12 d12 => d12.ga 5 rfl rfl ⟨d12.has 1 rfl, c_wAdd d12 1 0 rfl rfl (by decide) (Or.inl rfl) (fun h13 d13 => k o1 o2 o3 o4 o5 h13 d13)⟩)⟩

theorem c_init {Q : gaH → Prop} (d : aL h0 h ((a, (5, [.null, .null, .null, .null, .null, gi 0, gi 0, gi 0, gi 0])) :: as)) (k : ∀ p1 p2 p3 p4 p5 p6 p7 p8 p9 p10 p11 p12 p13 p14 p15 p16 p17 p18 p19 p20 p21 p22 p23 p24 p25 p26 p27 p28 p29 p30 h', aL h0 h' ((p30, (100, r64)) :: (p29, (4, [.ref p30, gi 1])) :: (p28, (100, r64b)) :: (p27, (4, [.ref p28, gi 1])) :: (p26, (102, r64)) :: (p25, (2, [.ref p26, gi 0, .ref p27, .ref p29])) :: (p24, (100, r64)) :: (p23, (4, [.ref p24, gi 1])) :: (p22, (100, r64b)) :: (p21, (4, [.ref p22, gi 1])) :: (p20, (102, r64)) :: (p19, (2, [.ref p20, gi 0, .ref p21, .ref p23])) :: (p18, (100, r64)) :: (p17, (4, [.ref p18, gi 0])) :: (p16, (100, r64)) :: (p15, (4, [.ref p16, gi 0])) :: (p14, (100, r64)) :: (p13, (4, [.ref p14, gi 0])) :: (p12, (100, r64)) :: (p11, (4, [.ref p12, gi 0])) :: (p10, (100, r64)) :: (p9, (4, [.ref p10, gi 0])) :: (p8, (100, List.replicate 65 (gi 0))) :: (p7, (100, r64)) :: (p6, (4, [.ref p7, gi 0])) :: (p5, (100, r64)) :: (p4, (4, [.ref p5, gi 0])) :: (p3, (3, [.ref p4, .ref p6, .ref p8])) :: (p2, (111, [.ref p19, .ref p25])) :: (p1, (110, [.ref p13, .ref p15, .ref p17])) :: (a, (5, [.ref p1, .ref p2, .ref p3, .ref p9, .ref p11, gi 0, gi 0, gi 0, gi 0])) :: as) → Q h') : w_X5_init a h Q := by
  unfold w_X5_init
  refine d.na (n := 3) rfl (by decide) (by decide) (by decide) (fun p1 h1 d1 => d1.pf 1 rfl (lt_rfl rfl) (fun h2 d2 => d2.na (n := 2) rfl (by decide) (by decide) (by decide) (fun p2 h3 d3 => d3.pf 2 rfl (lt_rfl rfl) (fun h4 d4 => d4.no (by decide) (by decide) (fun p3 h5 d5 => gCall_mk (by decide) (by decide) (c_ruInit d5 (fun p4 p5 p6 p7 p8 h6 d6 => ?_)))))))
  refine d6.pf 8 rfl (lt_rfl rfl) (fun h7 d7 => d7.no (by decide) (by decide) (fun p9 h8 d8 => gCall_mk (by decide) (by decide) (c_wInit d8 0 rfl (fun p10 h9 d9 => d9.pf 10 rfl (lt_rfl rfl) (fun h10 d10 => d10.no (by decide) (by decide) (fun p11 h11 d11 => gCall_mk (by decide) (by decide) (c_wInit d11 0 rfl (fun p12 h12 d12 => d12.pf 12 rfl (lt_rfl rfl) (fun h13 d13 => ⟨4, ?_⟩)))))))))
  unfold w_X5_init_L55
  refine d13.ga 12 rfl rfl (d13.al 11 (x := 3) rfl rfl ⟨by decide, by decide, if_no (by decide) (d13.ga 12 rfl rfl (d13.no (by decide) (by decide) (fun p13 h14 d14 => gCall_mk (by decide) (by decide) (c_wInit d14 0 rfl (fun p14 h15 d15 => ⟨d15.has 1 rfl, d15.si 13 (n := 0) rfl rfl (by decide) (lt_rfl rfl) (fun h16 d16 => ?_)⟩)))))⟩)
  unfold w_X5_init_L55
  refine d16.ga 14 rfl rfl (d16.al 13 (x := 3) rfl rfl ⟨by decide, by decide, if_no (by decide) (d16.ga 14 rfl rfl (d16.no (by decide) (by decide) (fun p15 h17 d17 => gCall_mk (by decide) (by decide) (c_wInit d17 0 rfl (fun p16 h18 d18 => ⟨d18.has 1 rfl, d18.si 15 (n := 1) rfl rfl (by decide) (lt_rfl rfl) (fun h19 d19 => ?_)⟩)))))⟩)
  unfold w_X5_init_L55
  refine d19.ga 16 rfl rfl (d19.al 15 (x := 3) rfl rfl ⟨by decide, by decide, if_no (by decide) (d19.ga 16 rfl rfl (d19.no (by decide) (by decide) (fun p17 h20 d20 => gCall_mk (by decide) (by decide) (c_wInit d20 0 rfl (fun p18 h21 d21 => ⟨d21.has 1 rfl, d21.si 17 (n := 2) rfl rfl (by decide) (lt_rfl rfl) (fun h22 d22 => ?_)⟩)))))⟩)
  unfold w_X5_init_L55
  refine d22.ga 18 rfl rfl (d22.al 17 (x := 3) rfl rfl ⟨by decide, by decide, if_yes (by decide) ⟨3, ?_⟩⟩)
  unfold w_X5_init_L85
  refine d22.ga 18 rfl rfl (d22.al 16 (x := 2) rfl rfl ⟨by decide, by decide, if_no (by decide) (d22.ga 18 rfl rfl (d22.no (by decide) (by decide) (fun p19 h23 d23 => gCall_mk (by decide) (by decide) (c_grInit d23 (fun p20 p21 p22 p23 p24 h24 d24 => ⟨d24.has 5 rfl, d24.si 22 (n := 0) rfl rfl (by decide) (lt_rfl rfl) (fun h25 d25 => ?_)⟩)))))⟩)
  unfold w_X5_init_L85
  refine d25.ga 24 rfl rfl (d25.al 22 (x := 2) rfl rfl ⟨by decide, by decide, if_no (by decide) (d25.ga 24 rfl rfl (d25.no (by decide) (by decide) (fun p25 h26 d26 => gCall_mk (by decide) (by decide) (c_grInit d26 (fun p26 p27 p28 p29 p30 h27 d27 => ⟨d27.has 5 rfl, d27.si 28 (n := 1) rfl rfl (by decide) (lt_rfl rfl) (fun h28 d28 => ?_)⟩)))))⟩)
  unfold w_X5_init_L85
  exact d28.ga 30 rfl rfl (d28.al 28 (x := 2) rfl rfl ⟨by decide, by decide, if_yes (by decide) (k p1 p2 p3 p4 p5 p6 p7 p8 p9 p10 p11 p12 p13 p14 p15 p16 p17 p18 p19 p20 p21 p22 p23 p24 p25 p26 p27 p28 p29 p30 h28 d28)⟩)

theorem r_init {Q : gaH → Prop} (d : aL h0 h ((a, (7, [.null, .null, .null, gi 0, gi 0, gi 0, gi 0, gi 0])) :: as)) (k : ∀ q1 q2 q3 q4 q5 q6 q7 q8 h', aL h0 h' ((q8, (102, [gi 0, gi 0])) :: (q7, (102, r64)) :: (q6, (102, r64)) :: (q5, (112, [.ref q6, .ref q7])) :: (q4, (102, [])) :: (q3, (102, [])) :: (q2, (102, [])) :: (q1, (112, [.ref q2, .ref q3, .ref q4])) :: (a, (7, [.ref q1, .ref q5, .ref q8, gi 0, gi 0, gi 0, gi 0, gi 0])) :: as) → Q h') : w_X7_init a h Q := by
  unfold w_X7_init
  refine d.na (n := 3) rfl (by decide) (by decide) (by decide) (fun q1 h1 d1 => d1.na (n := 0) rfl (by decide) (by decide) (by decide) (fun q2 h2 d2 => ⟨d2.has 0 rfl, d2.si 1 (n := 0) rfl rfl (by decide) (lt_rfl rfl) (fun h3 d3 => d3.na (n := 0) rfl (by decide) (by decide) (by decide) (fun q3 h4 d4 => ⟨d4.has 0 rfl, d4.si 2 (n := 1) rfl rfl (by decide) (lt_rfl rfl) (fun h5 d5 => d5.na (n := 0) rfl (by decide) (by decide) (by decide) (fun q4 h6 d6 => ⟨d6.has 0 rfl, d6.si 3 (n := 2) rfl rfl (by decide) (lt_rfl rfl) (fun h7 d7 => ?_)⟩))⟩))⟩))
  refine d7.pf 4 rfl (lt_rfl rfl) (fun h8 d8 => d8.na (n := 2) rfl (by decide) (by decide) (by decide) (fun q5 h9 d9 => d9.na (n := 64) rfl (by decide) (by decide) (by decide) (fun q6 h10 d10 => ⟨d10.has 0 rfl, d10.si 1 (n := 0) rfl rfl (by decide) (lt_rfl rfl) (fun h11 d11 => d11.na (n := 64) rfl (by decide) (by decide) (by decide) (fun q7 h12 d12 => ⟨d12.has 0 rfl, d12.si 2 (n := 1) rfl rfl (by decide) (lt_rfl rfl) (fun h13 d13 => ?_)⟩))⟩)))
  exact d13.pf 7 rfl (lt_rfl rfl) (fun h14 d14 => d14.na (n := 2) rfl (by decide) (by decide) (by decide) (fun q8 h15 d15 => d15.pf 8 rfl (lt_rfl rfl) (fun h16 d16 => k q1 q2 q3 q4 q5 q6 q7 q8 h16 d16)))
end AL

/-! What stands at the loop's start. -/
abbrev st0 : GSt := (fun _ => [], fun _ => [], fun _ => 0)
abbrev pA : List Nat := [27, 25, 23, 31, 29, 19, 17, 13, 11, 36, 34, 26, 24, 22, 30, 28, 18, 16, 12, 10, 35, 33, 40, 39, 38, 37, 21, 15, 20, 14, 32]
abbrev pB : List Nat := [9, 8, 4, 1, 3, 2]
abbrev pS : List Nat := [7, 6, 5]
theorem pAll : (pA ++ pB ++ pS ++ [0]).Nodup ∧ (∀ i ∈ pA ++ pB ++ pS, i < 41) := by decide +kernel
abbrev ky (as : List (Nat × gaE)) (i : Nat) : Nat := (as.map Prod.fst).getD i 0
theorem ky_inj {h0 h : gaH} {as : List (Nat × gaE)} (d : aL h0 h as) {i j : Nat} (hi : i < as.length) (hj : j < as.length) (e : ky as i = ky as j) : i = j := by
  unfold ky at e
  have l1 : i < (as.map Prod.fst).length := by simpa using hi
  have l2 : j < (as.map Prod.fst).length := by simpa using hj
  rw [List.getD_eq_getElem?_getD, List.getD_eq_getElem?_getD, List.getElem?_eq_getElem l1, List.getElem?_eq_getElem l2] at e
  exact (List.getElem?_inj l1 d.1).mp (by rw [List.getElem?_eq_getElem l1, List.getElem?_eq_getElem l2]; exact congrArg some e)
theorem ky_none {h0 h : gaH} {as : List (Nat × gaE)} (d : aL h0 h as) {i : Nat} (hi : i < as.length) : h0 (ky as i) = none := by
  refine d.2.2.2 _ ?_
  unfold ky
  have l1 : i < (as.map Prod.fst).length := by simpa using hi
  rw [List.getD_eq_getElem?_getD, List.getElem?_eq_getElem l1]
  exact List.getElem_mem l1
theorem ky_off {h0 h : gaH} {as : List (Nat × gaE)} (d : aL h0 h as) {b : Nat} {e : gaE} (q : h0 b = some e) : h b = some e := (d.2.2.1 b (fun z => by rw [d.2.2.2 b z] at q; cases q)).trans q
theorem ky_ex {h0 h : gaH} {as : List (Nat × gaE)} (d : aL h0 h as) {i : Nat} (hi : i < as.length) : ∃ e, h (ky as i) = some e := by
  have e1 : as[i]? = some (as[i].1, as[i].2) := by rw [List.getElem?_eq_getElem hi]
  refine ⟨as[i].2, ?_⟩
  have := d.at i e1
  unfold ky
  rw [List.getD_eq_getElem?_getD, List.getElem?_map, e1]
  exact this

abbrev asF (a b o p1 p2 p3 p4 p5 p6 p7 p8 p9 p10 p11 p12 p13 p14 p15 p16 p17 p18 p19 p20 p21 p22 p23 p24 p25 p26 p27 p28 p29 p30 q1 q2 q3 q4 q5 q6 q7 q8 : Nat) : List (Nat × gaE) := (o, (6, [.long 0, .null])) :: (q8, (102, [gi 0, gi 0])) :: (q7, (102, r64)) :: (q6, (102, r64)) :: (q5, (112, [.ref q6, .ref q7])) :: (q4, (102, [])) :: (q3, (102, [])) :: (q2, (102, [])) :: (q1, (112, [.ref q2, .ref q3, .ref q4])) :: (b, (7, [.ref q1, .ref q5, .ref q8, gi 0, gi 0, gi 0, gi 0, gi 0])) :: (p30, (100, r64)) :: (p29, (4, [.ref p30, gi 1])) :: (p28, (100, r64b)) :: (p27, (4, [.ref p28, gi 1])) :: (p26, (102, r64)) :: (p25, (2, [.ref p26, gi 0, .ref p27, .ref p29])) :: (p24, (100, r64)) :: (p23, (4, [.ref p24, gi 1])) :: (p22, (100, r64b)) :: (p21, (4, [.ref p22, gi 1])) :: (p20, (102, r64)) :: (p19, (2, [.ref p20, gi 0, .ref p21, .ref p23])) :: (p18, (100, r64)) :: (p17, (4, [.ref p18, gi 0])) :: (p16, (100, r64)) :: (p15, (4, [.ref p16, gi 0])) :: (p14, (100, r64)) :: (p13, (4, [.ref p14, gi 0])) :: (p12, (100, r64)) :: (p11, (4, [.ref p12, gi 0])) :: (p10, (100, r64)) :: (p9, (4, [.ref p10, gi 0])) :: (p8, (100, List.replicate 65 (gi 0))) :: (p7, (100, r64)) :: (p6, (4, [.ref p7, gi 0])) :: (p5, (100, r64)) :: (p4, (4, [.ref p5, gi 0])) :: (p3, (3, [.ref p4, .ref p6, .ref p8])) :: (p2, (111, [.ref p19, .ref p25])) :: (p1, (110, [.ref p13, .ref p15, .ref p17])) :: (a, (5, [.ref p1, .ref p2, .ref p3, .ref p9, .ref p11, gi 0, gi 0, gi 0, gi 0])) :: []
section ST
variable {h0 h : gaH} {a b o p1 p2 p3 p4 p5 p6 p7 p8 p9 p10 p11 p12 p13 p14 p15 p16 p17 p18 p19 p20 p21 p22 p23 p24 p25 p26 p27 p28 p29 p30 q1 q2 q3 q4 q5 q6 q7 q8 : Nat} {G : gaG}
theorem st_len : (asF a b o p1 p2 p3 p4 p5 p6 p7 p8 p9 p10 p11 p12 p13 p14 p15 p16 p17 p18 p19 p20 p21 p22 p23 p24 p25 p26 p27 p28 p29 p30 q1 q2 q3 q4 q5 q6 q7 q8).length = 41 := rfl
theorem st_W (d : aL h0 h (asF a b o p1 p2 p3 p4 p5 p6 p7 p8 p9 p10 p11 p12 p13 p14 p15 p16 p17 p18 p19 p20 p21 p22 p23 p24 p25 p26 p27 p28 p29 p30 q1 q2 q3 q4 q5 q6 q7 q8)) (A : Nat → Nat) (eA : A = fun i => ky (asF a b o p1 p2 p3 p4 p5 p6 p7 p8 p9 p10 p11 p12 p13 p14 p15 p16 p17 p18 p19 p20 p21 p22 p23 p24 p25 p26 p27 p28 p29 p30 q1 q2 q3 q4 q5 q6 q7 q8) (pA.getD i 0)) : gW A h (fun w => if w = 5 ∨ w = 7 then [true] else if w = 6 ∨ w = 8 then [false] else []) := by
  subst eA
  refine ⟨fun w => if w = 5 ∨ w = 7 then true :: List.replicate 63 false else List.replicate 64 false, fun w => if 5 ≤ w ∧ w ≤ 8 then 1 else 0, ⟨fun i j hi hj e => ?_, fun w hw => ?_, List.replicate 65 false, by decide, d.at 32 rfl⟩, fun w hw => ?_⟩
  · have e2 := ky_inj d (show pA.getD i 0 < 41 from (by decide +kernel : ∀ i, i < 31 → pA.getD i 0 < 41) i hi) (show pA.getD j 0 < 41 from (by decide +kernel : ∀ i, i < 31 → pA.getD i 0 < 41) j hj) e
    exact (by decide +kernel : ∀ i, i < 31 → ∀ j, j < 31 → pA.getD i 0 = pA.getD j 0 → i = j) i hi j hj e2
  · match w, hw with

    | 0, _ => exact ⟨rfl, by decide, d.at 27 rfl, d.at 26 rfl⟩
    | 1, _ => exact ⟨rfl, by decide, d.at 25 rfl, d.at 24 rfl⟩
    | 2, _ => exact ⟨rfl, by decide, d.at 23 rfl, d.at 22 rfl⟩
    | 3, _ => exact ⟨rfl, by decide, d.at 31 rfl, d.at 30 rfl⟩
    | 4, _ => exact ⟨rfl, by decide, d.at 29 rfl, d.at 28 rfl⟩
    | 5, _ => exact ⟨rfl, by decide, d.at 19 rfl, d.at 18 rfl⟩
    | 6, _ => exact ⟨rfl, by decide, d.at 17 rfl, d.at 16 rfl⟩
    | 7, _ => exact ⟨rfl, by decide, d.at 13 rfl, d.at 12 rfl⟩
    | 8, _ => exact ⟨rfl, by decide, d.at 11 rfl, d.at 10 rfl⟩
    | 9, _ => exact ⟨rfl, by decide, d.at 36 rfl, d.at 35 rfl⟩
    | 10, _ => exact ⟨rfl, by decide, d.at 34 rfl, d.at 33 rfl⟩
    | n + 11, hw => omega
  · match w, hw with

    | 0, _ => rfl
    | 1, _ => rfl
    | 2, _ => rfl
    | 3, _ => rfl
    | 4, _ => rfl
    | 5, _ => rfl
    | 6, _ => rfl
    | 7, _ => rfl
    | 8, _ => rfl
    | 9, _ => rfl
    | 10, _ => rfl
    | n + 11, hw => omega
theorem st_D (d : aL h0 h (asF a b o p1 p2 p3 p4 p5 p6 p7 p8 p9 p10 p11 p12 p13 p14 p15 p16 p17 p18 p19 p20 p21 p22 p23 p24 p25 p26 p27 p28 p29 p30 q1 q2 q3 q4 q5 q6 q7 q8)) (A : Nat → Nat) (eA : A = fun i => ky (asF a b o p1 p2 p3 p4 p5 p6 p7 p8 p9 p10 p11 p12 p13 p14 p15 p16 p17 p18 p19 p20 p21 p22 p23 p24 p25 p26 p27 p28 p29 p30 q1 q2 q3 q4 q5 q6 q7 q8) (pA.getD i 0)) (m2 : h0 (G.2.2.2 0) = some (1102, gaCodes)) : gD A G h (fun w => if w = 5 ∨ w = 7 then [true] else if w = 6 ∨ w = 8 then [false] else []) st0 := by
  have W := st_W d A eA
  have hn : ∀ i, i < 31 → G.2.2.2 0 ≠ A i := fun i hi q => by
    have := ky_none d (show pA.getD i 0 < 41 from (by decide +kernel : ∀ i, i < 31 → pA.getD i 0 < 41) i hi)
    subst eA
    rw [q] at m2
    rw [this] at m2
    cases m2
  subst eA
  refine ⟨W, d.at 37 rfl, ⟨d.at 40 rfl, d.at 39 rfl, d.at 38 rfl⟩, fun g hg => ?_, fun g hg => ⟨fun t ht => absurd ht List.not_mem_nil, (by decide : (grw []).2.length ≤ 64)⟩, fun g hg => ?_, fun w hw => ?_, ky_off d m2, hn⟩
  · rcases (show g = 0 ∨ g = 1 by omega) with rfl | rfl
    · exact ⟨d.at 21 rfl, List.replicate 64 0, by decide, by decide, d.at 20 rfl, fun i hi => absurd hi (Nat.not_lt_zero _)⟩
    · exact ⟨d.at 15 rfl, List.replicate 64 0, by decide, by decide, d.at 14 rfl, fun i hi => absurd hi (Nat.not_lt_zero _)⟩
  · rcases (show g = 0 ∨ g = 1 by omega) with rfl | rfl <;> exact ⟨rfl, rfl⟩
  · rcases (show w = 0 ∨ w = 1 ∨ w = 2 by omega) with rfl | rfl | rfl <;> rfl
abbrev pAll2 : List Nat := pB ++ pA ++ [0]
theorem st_M (d : aL h0 h (asF a b o p1 p2 p3 p4 p5 p6 p7 p8 p9 p10 p11 p12 p13 p14 p15 p16 p17 p18 p19 p20 p21 p22 p23 p24 p25 p26 p27 p28 p29 p30 q1 q2 q3 q4 q5 q6 q7 q8)) (B : Nat → Nat) (eB : B = fun i => ky (asF a b o p1 p2 p3 p4 p5 p6 p7 p8 p9 p10 p11 p12 p13 p14 p15 p16 p17 p18 p19 p20 p21 p22 p23 p24 p25 p26 p27 p28 p29 p30 q1 q2 q3 q4 q5 q6 q7 q8) (pAll2.getD i 0)) : gM B h st0 0 := by
  have lt : ∀ i, i < 38 → pAll2.getD i 0 < 41 := by decide +kernel
  have inj : ∀ i, i < 38 → ∀ j, j < 38 → B i = B j → i = j := fun i hi j hj e => by
    subst eB
    have e2 := ky_inj d (lt i hi) (lt j hj) e
    exact (by decide +kernel : ∀ i, i < 38 → ∀ j, j < 38 → pAll2.getD i 0 = pAll2.getD j 0 → i = j) i hi j hj e2
  have sne : ∀ w, w < 3 → ∀ i, i < 38 → ky (asF a b o p1 p2 p3 p4 p5 p6 p7 p8 p9 p10 p11 p12 p13 p14 p15 p16 p17 p18 p19 p20 p21 p22 p23 p24 p25 p26 p27 p28 p29 p30 q1 q2 q3 q4 q5 q6 q7 q8) (pS.getD w 0) ≠ B i := fun w hw i hi e => by
    subst eB
    have e2 := ky_inj d (show pS.getD w 0 < 41 from (by decide +kernel : ∀ w, w < 3 → pS.getD w 0 < 41) w hw) (lt i hi) e
    exact (by decide +kernel : ∀ w, w < 3 → ∀ i, i < 38 → pS.getD w 0 ≠ pAll2.getD i 0) w hw i hi e2
  have ex : ∀ i, i < 38 → ∃ e, h (B i) = some e := fun i hi => by subst eB; exact ky_ex d (lt i hi)
  refine ⟨fun w => ky (asF a b o p1 p2 p3 p4 p5 p6 p7 p8 p9 p10 p11 p12 p13 p14 p15 p16 p17 p18 p19 p20 p21 p22 p23 p24 p25 p26 p27 p28 p29 p30 q1 q2 q3 q4 q5 q6 q7 q8) (pS.getD w 0), ?_, ?_, fun w hw => ⟨?_, Nat.zero_le _, sne w hw⟩, ?_, ?_, fun g hg => ⟨⟨fun t ht => absurd ht List.not_mem_nil, (by decide : (grw []).2.length ≤ 64)⟩, List.replicate 64 0, by decide, ?_, fun i hi => absurd hi (Nat.not_lt_zero _)⟩, fun i j hi hj => inj i (by omega) j (by omega), ex⟩
  · subst eB; exact d.at 9 rfl
  · subst eB; exact d.at 8 rfl
  · rcases (show w = 0 ∨ w = 1 ∨ w = 2 by omega) with rfl | rfl | rfl
    · exact d.at 7 rfl
    · exact d.at 6 rfl
    · exact d.at 5 rfl
  · subst eB; exact d.at 4 rfl
  · subst eB; exact d.at 1 rfl
  · rcases (show g = 0 ∨ g = 1 by omega) with rfl | rfl
    · subst eB; exact d.at 3 rfl
    · subst eB; exact d.at 2 rfl
end ST
/-! The law's wrappers: what they put into the out object. -/
def lF (A : Nat → Nat) (O : Nat) (h h' : gaH) : Prop := ∀ a e, (∀ i, i < 31 → a ≠ A i) → a ≠ O → h a = some e → h' a = some e
section WL
variable {A : Nat → Nat} {G : gaG} {h : gaH} {U : Nat → List Bool} {st : GSt} {X : String → gaH → Prop} {Q : Int → gaH → Prop} {O : Nat} {z0 : Int64} {sv : Value}
theorem gD.up (d : gD A G h U st) (hA : ∀ i, i < 31 → O ≠ A i) (hO : h O = some (6, [.long z0, sv])) {e : gaE} : gD A G (gaUp h O e) U st := by
  have k : ∀ i, i < 31 → gaUp h O e (A i) = h (A i) := fun i hi => gaUp_ne _ _ (fun q => hA i hi q.symm)
  obtain ⟨⟨R, N, ⟨i1, i2, m, m1, m2⟩, ee⟩, ru, ⟨x1, x2, x3⟩, gr, ok, gw, ss, mc, ne⟩ := d
  have hc : G.2.2.2 0 ≠ O := fun q => by rw [q, hO] at mc; cases mc
  exact ⟨⟨R, N, ⟨i1, fun w hw => ⟨(i2 w hw).1, (i2 w hw).2.1, (k w (by omega)).trans (i2 w hw).2.2.1, (k _ (by omega)).trans (i2 w hw).2.2.2⟩, m, m1, (k 30 (by decide)).trans m2⟩, ee⟩, (k 25 (by decide)).trans ru, ⟨(k 22 (by decide)).trans x1, (k 23 (by decide)).trans x2, (k 24 (by decide)).trans x3⟩, fun g hg => by
    obtain ⟨a0, row, a1, a2, a3, a4⟩ := gr g hg
    exact ⟨(k _ (by omega)).trans a0, row, a1, a2, (k _ (by omega)).trans a3, a4⟩, ok, gw, ss, by rw [gaUp_ne _ _ hc]; exact mc, ne⟩
theorem l_ret {E : List String} {o : Nat × (Int → Prop) × GSt} (hO : h O = some (6, [.long z0, sv])) (hA : ∀ i, i < 31 → O ≠ A i) (k : ∀ h' U' z' s', gD A G h' U' o.2.2 → lF A O h h' → h' O = some (6, [.long z', s']) → (o.1 = 0 → ∃ r, o.2.1 r ∧ z' = gI2l r) → Q (o.1 : Int) h') (hX : ∀ h', o.1 ≠ 0 → Q (o.1 : Int) h' → X (E.getD (o.1 - 1) "") h') : gRes A G h E X (fun r2 hp1 => gPF hp1 O 6 0 (.long (gI2l r2)) (fun hp5 => Q 0 hp5)) o := by
  intro h' U' d f
  have hO2 := f O _ hA hO
  refine ⟨fun e r hr => gPF_mk hO2 (by simp) ?_, fun e => hX h' e (k h' U' z0 sv d (fun a e h1 _ h3 => f a e h1 h3) hO2 (fun q => absurd q e))⟩
  have := k _ U' (gI2l r) sv (d.up hA hO2) (fun a e h1 h2 h3 => by rw [gaUp_ne _ _ h2]; exact f a e h1 h3) (gaUp_self _ _ _) (fun _ => ⟨r, hr, rfl⟩)
  rw [e] at this
  exact this
-- HEADER2
theorem gD.cell (d : gD A G h U st) : ∀ i, i < 31 → ∃ e, h (A i) = some e := by
  obtain ⟨⟨R, N, ⟨i1, i2, m, m1, m2⟩, ee⟩, ru, ⟨x1, x2, x3⟩, gr, ok, gw, ss, mc, ne⟩ := d
  intro i hi
  by_cases q1 : i < 11
  · exact ⟨_, (i2 i q1).2.2.1⟩
  by_cases q2 : i < 22
  · have := (i2 (i - 11) (by omega)).2.2.2
    rw [show 11 + (i - 11) = i by omega] at this
    exact ⟨_, this⟩
  obtain ⟨a0, r0, -, -, b0, -⟩ := gr 0 (by decide)
  obtain ⟨a1, r1, -, -, b1, -⟩ := gr 1 (by decide)
  rcases (show i = 22 ∨ i = 23 ∨ i = 24 ∨ i = 25 ∨ i = 26 ∨ i = 27 ∨ i = 28 ∨ i = 29 ∨ i = 30 by omega) with rfl | rfl | rfl | rfl | rfl | rfl | rfl | rfl | rfl
  · exact ⟨_, x1⟩
  · exact ⟨_, x2⟩
  · exact ⟨_, x3⟩
  · exact ⟨_, ru⟩
  · exact ⟨_, a0⟩
  · exact ⟨_, a1⟩
  · exact ⟨_, b0⟩
  · exact ⟨_, b1⟩
  · exact ⟨_, m2⟩
theorem gD.fr (d : gD A G h U st) {h' : gaH} (k : ∀ i, i < 31 → h' (A i) = h (A i)) (k0 : h' (G.2.2.2 0) = h (G.2.2.2 0)) : gD A G h' U st := by
  obtain ⟨⟨R, N, ⟨i1, i2, m, m1, m2⟩, ee⟩, ru, ⟨x1, x2, x3⟩, gr, ok, gw, ss, mc, ne⟩ := d
  exact ⟨⟨R, N, ⟨i1, fun w hw => ⟨(i2 w hw).1, (i2 w hw).2.1, (k w (by omega)).trans (i2 w hw).2.2.1, (k _ (by omega)).trans (i2 w hw).2.2.2⟩, m, m1, (k 30 (by decide)).trans m2⟩, ee⟩, (k 25 (by decide)).trans ru, ⟨(k 22 (by decide)).trans x1, (k 23 (by decide)).trans x2, (k 24 (by decide)).trans x3⟩, fun g hg => by
    obtain ⟨a0, row, a1, a2, a3, a4⟩ := gr g hg
    exact ⟨(k _ (by omega)).trans a0, row, a1, a2, (k _ (by omega)).trans a3, a4⟩, ok, gw, ss, k0.trans mc, ne⟩
theorem l_retB {E : List String} {o : Nat × (Int → Prop) × GSt} (hO : h O = some (6, [.long z0, sv])) (hA : ∀ i, i < 31 → O ≠ A i) (k : ∀ h' U' z' s', gD A G h' U' o.2.2 → lF A O h h' → h' O = some (6, [.long z', s']) → (o.1 = 0 → ∃ r, o.2.1 r ∧ z' = gI2l r) → Q (o.1 : Int) h') (hb : ∀ r, o.2.1 r → r = 0 ∨ r = 1) (hX : ∀ h', o.1 ≠ 0 → Q (o.1 : Int) h' → X (E.getD (o.1 - 1) "") h') : gRes A G h E X (fun r2 hp1 => gR r2 ∧ (if r2 = 0 then gPF hp1 O 6 0 (.long 0) (fun hp5 => Q 0 hp5) else gPF hp1 O 6 0 (.long 1) (fun hp5 => Q 0 hp5))) o := by
  have kk := l_ret (E := E) (X := X) hO hA k hX
  intro h' U' d f
  refine ⟨fun e r hr => ?_, (kk h' U' d f).2⟩
  have := (kk h' U' d f).1 e r hr
  rcases hb r hr with rfl | rfl
  · exact ⟨by decide, if_yes rfl this⟩
  · exact ⟨by decide, if_no (by decide) this⟩
theorem l_retS {o : Nat} (hO : h O = some (6, [.long z0, sv])) (d : gD A G h U st) (hA : ∀ i, i < 31 → O ≠ A i) (k : ∀ h' U' z' s' (c : Nat), gD A G h' U' st → lF A O h h' → h' O = some (6, [.long z', s']) → Q (c : Int) h') {h' : gaH} (f : ∀ a e, h a = some e → h' a = some e) : gPF h' O 6 1 (.ref o) (fun hp5 => Q 0 hp5) := by
  have hO2 := f _ _ hO
  exact gPF_mk hO2 (by simp) (k _ U z0 (.ref o) 0 ((d.kp f).up hA hO2) (fun a e h1 h2 h3 => by rw [gaUp_ne _ _ h2]; exact f a e h3) (gaUp_self _ _ _))
-- WRAPPERS
theorem l_write_le {x c : Int} : (m_write st x c).1 ≤ 2 := by
  unfold m_write
  (try unfold exch); (try unfold settled); (try unfold takeOut)
  repeat' split
  all_goals simp
theorem l_write {x c : Int} (d : gD A G h U st) (hO : h O = some (6, [.long z0, sv])) (hA : ∀ i, i < 31 → O ≠ A i) (hx : gR x) (hc : gR c) (k : ∀ h' U' z' s', gD A G h' U' (m_write st x c).2.2 → lF A O h h' → h' O = some (6, [.long z', s']) → ((m_write st x c).1 = 0 → ∃ r, (m_write st x c).2.1 r ∧ z' = gI2l r) → Q ((m_write st x c).1 : Int) h') : w_L_write (A 22) x c O h Q := by
  unfold w_L_write
  refine ⟨d.has, gCall_mk (by decide) (by decide) (c_write d hx hc (l_ret hO hA k (fun h' e q => ?_)))⟩
  have hle := l_write_le (st := st) (x := x) (c := c)
  generalize (m_write st x c).1 = cd at e q hle ⊢
  rcases (show cd = 1 ∨ cd = 2 by omega) with rfl | rfl
  · exact Or.inl ⟨rfl, q⟩
  · exact Or.inr ⟨rfl, q⟩
theorem l_append_le {x y : Int} : (m_append st x y).1 ≤ 1 := by
  unfold m_append
  (try unfold exch); (try unfold settled); (try unfold takeOut)
  repeat' split
  all_goals simp
theorem l_append {x y : Int} (d : gD A G h U st) (hO : h O = some (6, [.long z0, sv])) (hA : ∀ i, i < 31 → O ≠ A i) (hx : gR x) (hy : gR y) (k : ∀ h' U' z' s', gD A G h' U' (m_append st x y).2.2 → lF A O h h' → h' O = some (6, [.long z', s']) → ((m_append st x y).1 = 0 → ∃ r, (m_append st x y).2.1 r ∧ z' = gI2l r) → Q ((m_append st x y).1 : Int) h') : w_L_append (A 22) x y O h Q := by
  unfold w_L_append
  refine ⟨d.has, gCall_mk (by decide) (by decide) (c_append d hx hy (l_ret hO hA k (fun h' e q => ?_)))⟩
  have hle := l_append_le (st := st) (x := x) (y := y)
  generalize (m_append st x y).1 = cd at e q hle ⊢
  obtain rfl : cd = 1 := by omega
  exact ⟨rfl, q⟩
theorem l_insertSign_le {x y : Int} {bz : Bool} : (m_insertSign st x y bz).1 ≤ 1 := by
  unfold m_insertSign
  (try unfold exch); (try unfold settled); (try unfold takeOut)
  repeat' split
  all_goals simp
theorem l_insertSign {x y z : Int} {bz : Bool} (d : gD A G h U st) (hO : h O = some (6, [.long z0, sv])) (hA : ∀ i, i < 31 → O ≠ A i) (hx : gR x) (hy : gR y) (hz : z = b2i bz) (k : ∀ h' U' z' s', gD A G h' U' (m_insertSign st x y bz).2.2 → lF A O h h' → h' O = some (6, [.long z', s']) → ((m_insertSign st x y bz).1 = 0 → ∃ r, (m_insertSign st x y bz).2.1 r ∧ z' = gI2l r) → Q ((m_insertSign st x y bz).1 : Int) h') : w_L_insertSign (A 22) x y z O h Q := by
  unfold w_L_insertSign
  refine ⟨d.has, gCall_mk (by decide) (by decide) (c_insertSign d hx hy hz (l_ret hO hA k (fun h' e q => ?_)))⟩
  have hle := l_insertSign_le (st := st) (x := x) (y := y) (bz := bz)
  generalize (m_insertSign st x y bz).1 = cd at e q hle ⊢
  obtain rfl : cd = 1 := by omega
  exact ⟨rfl, q⟩
theorem l_insertSheet_le {x y z : Int} : (m_insertSheet st x y z).1 ≤ 1 := by
  unfold m_insertSheet
  (try unfold exch); (try unfold settled); (try unfold takeOut)
  repeat' split
  all_goals simp
theorem l_insertSheet {x y z : Int} (d : gD A G h U st) (hO : h O = some (6, [.long z0, sv])) (hA : ∀ i, i < 31 → O ≠ A i) (hx : gR x) (hy : gR y) (hz : gR z) (k : ∀ h' U' z' s', gD A G h' U' (m_insertSheet st x y z).2.2 → lF A O h h' → h' O = some (6, [.long z', s']) → ((m_insertSheet st x y z).1 = 0 → ∃ r, (m_insertSheet st x y z).2.1 r ∧ z' = gI2l r) → Q ((m_insertSheet st x y z).1 : Int) h') : w_L_insertSheet (A 22) x y z O h Q := by
  unfold w_L_insertSheet
  refine ⟨d.has, gCall_mk (by decide) (by decide) (c_insertSheet d hx hy hz (l_ret hO hA k (fun h' e q => ?_)))⟩
  have hle := l_insertSheet_le (st := st) (x := x) (y := y) (z := z)
  generalize (m_insertSheet st x y z).1 = cd at e q hle ⊢
  obtain rfl : cd = 1 := by omega
  exact ⟨rfl, q⟩
theorem l_setSign_le {x y : Int} {bz : Bool} : (m_setSign st x y bz).1 ≤ 1 := by
  unfold m_setSign
  (try unfold exch); (try unfold settled); (try unfold takeOut)
  repeat' split
  all_goals simp
theorem l_setSign {x y z : Int} {bz : Bool} (d : gD A G h U st) (hO : h O = some (6, [.long z0, sv])) (hA : ∀ i, i < 31 → O ≠ A i) (hx : gR x) (hy : gR y) (hz : z = b2i bz) (k : ∀ h' U' z' s', gD A G h' U' (m_setSign st x y bz).2.2 → lF A O h h' → h' O = some (6, [.long z', s']) → ((m_setSign st x y bz).1 = 0 → ∃ r, (m_setSign st x y bz).2.1 r ∧ z' = gI2l r) → Q ((m_setSign st x y bz).1 : Int) h') : w_L_setSign (A 22) x y z O h Q := by
  unfold w_L_setSign
  refine ⟨d.has, gCall_mk (by decide) (by decide) (c_setSign d hx hy hz (l_ret hO hA k (fun h' e q => ?_)))⟩
  have hle := l_setSign_le (st := st) (x := x) (y := y) (bz := bz)
  generalize (m_setSign st x y bz).1 = cd at e q hle ⊢
  obtain rfl : cd = 1 := by omega
  exact ⟨rfl, q⟩
theorem l_removeSign_le {x y : Int} : (m_removeSign st x y).1 ≤ 1 := by
  unfold m_removeSign
  (try unfold exch); (try unfold settled); (try unfold takeOut)
  repeat' split
  all_goals simp
theorem l_removeSign {x y : Int} (d : gD A G h U st) (hO : h O = some (6, [.long z0, sv])) (hA : ∀ i, i < 31 → O ≠ A i) (hx : gR x) (hy : gR y) (k : ∀ h' U' z' s', gD A G h' U' (m_removeSign st x y).2.2 → lF A O h h' → h' O = some (6, [.long z', s']) → ((m_removeSign st x y).1 = 0 → ∃ r, (m_removeSign st x y).2.1 r ∧ z' = gI2l r) → Q ((m_removeSign st x y).1 : Int) h') : w_L_removeSign (A 22) x y O h Q := by
  unfold w_L_removeSign
  refine ⟨d.has, gCall_mk (by decide) (by decide) (c_removeSign d hx hy (l_ret hO hA k (fun h' e q => ?_)))⟩
  have hle := l_removeSign_le (st := st) (x := x) (y := y)
  generalize (m_removeSign st x y).1 = cd at e q hle ⊢
  obtain rfl : cd = 1 := by omega
  exact ⟨rfl, q⟩
theorem l_remove_le {x y z : Int} : (m_remove st x y z).1 ≤ 1 := by
  unfold m_remove
  (try unfold exch); (try unfold settled); (try unfold takeOut)
  repeat' split
  all_goals simp
theorem l_remove {x y z : Int} (d : gD A G h U st) (hO : h O = some (6, [.long z0, sv])) (hA : ∀ i, i < 31 → O ≠ A i) (hx : gR x) (hy : gR y) (hz : gR z) (k : ∀ h' U' z' s', gD A G h' U' (m_remove st x y z).2.2 → lF A O h h' → h' O = some (6, [.long z', s']) → ((m_remove st x y z).1 = 0 → ∃ r, (m_remove st x y z).2.1 r ∧ z' = gI2l r) → Q ((m_remove st x y z).1 : Int) h') : w_L_remove (A 22) x y z O h Q := by
  unfold w_L_remove
  refine ⟨d.has, gCall_mk (by decide) (by decide) (c_remove d hx hy hz (l_ret hO hA k (fun h' e q => ?_)))⟩
  have hle := l_remove_le (st := st) (x := x) (y := y) (z := z)
  generalize (m_remove st x y z).1 = cd at e q hle ⊢
  obtain rfl : cd = 1 := by omega
  exact ⟨rfl, q⟩
theorem l_replace_le {x y z v : Int} : (m_replace st x y z v).1 ≤ 1 := by
  unfold m_replace
  (try unfold exch); (try unfold settled); (try unfold takeOut)
  repeat' split
  all_goals simp
theorem l_replace {x y z v : Int} (d : gD A G h U st) (hO : h O = some (6, [.long z0, sv])) (hA : ∀ i, i < 31 → O ≠ A i) (hx : gR x) (hy : gR y) (hz : gR z) (hv : gR v) (k : ∀ h' U' z' s', gD A G h' U' (m_replace st x y z v).2.2 → lF A O h h' → h' O = some (6, [.long z', s']) → ((m_replace st x y z v).1 = 0 → ∃ r, (m_replace st x y z v).2.1 r ∧ z' = gI2l r) → Q ((m_replace st x y z v).1 : Int) h') : w_L_replace (A 22) x y z v O h Q := by
  unfold w_L_replace
  refine ⟨d.has, gCall_mk (by decide) (by decide) (c_replace d hx hy hz hv (l_ret hO hA k (fun h' e q => ?_)))⟩
  have hle := l_replace_le (st := st) (x := x) (y := y) (z := z) (v := v)
  generalize (m_replace st x y z v).1 = cd at e q hle ⊢
  obtain rfl : cd = 1 := by omega
  exact ⟨rfl, q⟩
theorem l_cutTo_le {x y : Int} : (m_cutTo st x y).1 ≤ 2 := by
  unfold m_cutTo
  (try unfold exch); (try unfold settled); (try unfold takeOut)
  repeat' split
  all_goals simp
theorem l_cutTo {x y : Int} (d : gD A G h U st) (hO : h O = some (6, [.long z0, sv])) (hA : ∀ i, i < 31 → O ≠ A i) (hx : gR x) (hy : gR y) (k : ∀ h' U' z' s', gD A G h' U' (m_cutTo st x y).2.2 → lF A O h h' → h' O = some (6, [.long z', s']) → ((m_cutTo st x y).1 = 0 → ∃ r, (m_cutTo st x y).2.1 r ∧ z' = gI2l r) → Q ((m_cutTo st x y).1 : Int) h') : w_L_cutTo (A 22) x y O h Q := by
  unfold w_L_cutTo
  refine ⟨d.has, gCall_mk (by decide) (by decide) (c_cutTo d hx hy (l_ret hO hA k (fun h' e q => ?_)))⟩
  have hle := l_cutTo_le (st := st) (x := x) (y := y)
  generalize (m_cutTo st x y).1 = cd at e q hle ⊢
  rcases (show cd = 1 ∨ cd = 2 by omega) with rfl | rfl
  · exact Or.inl ⟨rfl, q⟩
  · exact Or.inr ⟨rfl, q⟩
theorem l_turn_le {x : Int} : (m_turn st x).1 ≤ 1 := by
  unfold m_turn
  (try unfold exch); (try unfold settled); (try unfold takeOut)
  repeat' split
  all_goals simp
theorem l_turn {x : Int} (d : gD A G h U st) (hO : h O = some (6, [.long z0, sv])) (hA : ∀ i, i < 31 → O ≠ A i) (hx : gR x) (k : ∀ h' U' z' s', gD A G h' U' (m_turn st x).2.2 → lF A O h h' → h' O = some (6, [.long z', s']) → ((m_turn st x).1 = 0 → ∃ r, (m_turn st x).2.1 r ∧ z' = gI2l r) → Q ((m_turn st x).1 : Int) h') : w_L_turn (A 22) x O h Q := by
  unfold w_L_turn
  refine ⟨d.has, gCall_mk (by decide) (by decide) (c_turn d hx (l_ret hO hA k (fun h' e q => ?_)))⟩
  have hle := l_turn_le (st := st) (x := x)
  generalize (m_turn st x).1 = cd at e q hle ⊢
  obtain rfl : cd = 1 := by omega
  exact ⟨rfl, q⟩
theorem l_exchange_le {x : Int} : (m_exchange st x).1 ≤ 1 := by
  unfold m_exchange
  (try unfold exch); (try unfold settled); (try unfold takeOut)
  repeat' split
  all_goals simp
theorem l_exchange {x : Int} (d : gD A G h U st) (hO : h O = some (6, [.long z0, sv])) (hA : ∀ i, i < 31 → O ≠ A i) (hx : gR x) (k : ∀ h' U' z' s', gD A G h' U' (m_exchange st x).2.2 → lF A O h h' → h' O = some (6, [.long z', s']) → ((m_exchange st x).1 = 0 → ∃ r, (m_exchange st x).2.1 r ∧ z' = gI2l r) → Q ((m_exchange st x).1 : Int) h') : w_L_exchange (A 22) x O h Q := by
  unfold w_L_exchange
  refine ⟨d.has, gCall_mk (by decide) (by decide) (c_exchange d hx (l_ret hO hA k (fun h' e q => ?_)))⟩
  have hle := l_exchange_le (st := st) (x := x)
  generalize (m_exchange st x).1 = cd at e q hle ⊢
  obtain rfl : cd = 1 := by omega
  exact ⟨rfl, q⟩
theorem l_rotate_le {x y : Int} : (m_rotate st x y).1 ≤ 2 := by
  unfold m_rotate
  (try unfold exch); (try unfold settled); (try unfold takeOut)
  repeat' split
  all_goals simp
theorem l_rotate {x y : Int} (d : gD A G h U st) (hO : h O = some (6, [.long z0, sv])) (hA : ∀ i, i < 31 → O ≠ A i) (hx : gR x) (hy : gR y) (k : ∀ h' U' z' s', gD A G h' U' (m_rotate st x y).2.2 → lF A O h h' → h' O = some (6, [.long z', s']) → ((m_rotate st x y).1 = 0 → ∃ r, (m_rotate st x y).2.1 r ∧ z' = gI2l r) → Q ((m_rotate st x y).1 : Int) h') : w_L_rotate (A 22) x y O h Q := by
  unfold w_L_rotate
  refine ⟨d.has, gCall_mk (by decide) (by decide) (c_rotate d hx hy (l_ret hO hA k (fun h' e q => ?_)))⟩
  have hle := l_rotate_le (st := st) (x := x) (y := y)
  generalize (m_rotate st x y).1 = cd at e q hle ⊢
  rcases (show cd = 1 ∨ cd = 2 by omega) with rfl | rfl
  · exact Or.inl ⟨rfl, q⟩
  · exact Or.inr ⟨rfl, q⟩
theorem l_copy_le {x y : Int} : (m_copy st x y).1 ≤ 1 := by
  unfold m_copy
  (try unfold exch); (try unfold settled); (try unfold takeOut)
  repeat' split
  all_goals simp
theorem l_copy {x y : Int} (d : gD A G h U st) (hO : h O = some (6, [.long z0, sv])) (hA : ∀ i, i < 31 → O ≠ A i) (hx : gR x) (hy : gR y) (k : ∀ h' U' z' s', gD A G h' U' (m_copy st x y).2.2 → lF A O h h' → h' O = some (6, [.long z', s']) → ((m_copy st x y).1 = 0 → ∃ r, (m_copy st x y).2.1 r ∧ z' = gI2l r) → Q ((m_copy st x y).1 : Int) h') : w_L_copy (A 22) x y O h Q := by
  unfold w_L_copy
  refine ⟨d.has, gCall_mk (by decide) (by decide) (c_copy d hx hy (l_ret hO hA k (fun h' e q => ?_)))⟩
  have hle := l_copy_le (st := st) (x := x) (y := y)
  generalize (m_copy st x y).1 = cd at e q hle ⊢
  obtain rfl : cd = 1 := by omega
  exact ⟨rfl, q⟩
theorem l_apply_le {x y z : Int} : (m_apply st x y z).1 ≤ 2 := by
  unfold m_apply
  (try unfold exch); (try unfold settled); (try unfold takeOut)
  repeat' split
  all_goals simp
theorem l_apply {x y z : Int} (d : gD A G h U st) (hO : h O = some (6, [.long z0, sv])) (hA : ∀ i, i < 31 → O ≠ A i) (hx : gR x) (hy : gR y) (hz : gR z) (k : ∀ h' U' z' s', gD A G h' U' (m_apply st x y z).2.2 → lF A O h h' → h' O = some (6, [.long z', s']) → ((m_apply st x y z).1 = 0 → ∃ r, (m_apply st x y z).2.1 r ∧ z' = gI2l r) → Q ((m_apply st x y z).1 : Int) h') : w_L_apply (A 22) x y z O h Q := by
  unfold w_L_apply
  refine ⟨d.has, gCall_mk (by decide) (by decide) (c_apply d hx hy hz (l_ret hO hA k (fun h' e q => ?_)))⟩
  have hle := l_apply_le (st := st) (x := x) (y := y) (z := z)
  generalize (m_apply st x y z).1 = cd at e q hle ⊢
  rcases (show cd = 1 ∨ cd = 2 by omega) with rfl | rfl
  · exact Or.inl ⟨rfl, q⟩
  · exact Or.inr ⟨rfl, q⟩
theorem l_undo_le {x y z : Int} : (m_undo st x y z).1 ≤ 3 := by
  unfold m_undo
  (try unfold exch); (try unfold settled); (try unfold takeOut)
  repeat' split
  all_goals simp
theorem l_undo {x y z : Int} (d : gD A G h U st) (hO : h O = some (6, [.long z0, sv])) (hA : ∀ i, i < 31 → O ≠ A i) (hx : gR x) (hy : gR y) (hz : gR z) (k : ∀ h' U' z' s', gD A G h' U' (m_undo st x y z).2.2 → lF A O h h' → h' O = some (6, [.long z', s']) → ((m_undo st x y z).1 = 0 → ∃ r, (m_undo st x y z).2.1 r ∧ z' = gI2l r) → Q ((m_undo st x y z).1 : Int) h') : w_L_undo (A 22) x y z O h Q := by
  unfold w_L_undo
  refine ⟨d.has, gCall_mk (by decide) (by decide) (c_undo d hx hy hz (l_ret hO hA k (fun h' e q => ?_)))⟩
  have hle := l_undo_le (st := st) (x := x) (y := y) (z := z)
  generalize (m_undo st x y z).1 = cd at e q hle ⊢
  rcases (show cd = 1 ∨ cd = 2 ∨ cd = 3 by omega) with rfl | rfl | rfl
  · exact Or.inl ⟨rfl, q⟩
  · exact Or.inr (Or.inl ⟨rfl, q⟩)
  · exact Or.inr (Or.inr ⟨rfl, q⟩)
theorem l_lay_le {x y z : Int} : (m_lay st x y z).1 ≤ 2 := by
  unfold m_lay
  (try unfold exch); (try unfold settled); (try unfold takeOut)
  repeat' split
  all_goals simp
theorem l_lay {x y z : Int} (d : gD A G h U st) (hO : h O = some (6, [.long z0, sv])) (hA : ∀ i, i < 31 → O ≠ A i) (hx : gR x) (hy : gR y) (hz : gR z) (k : ∀ h' U' z' s', gD A G h' U' (m_lay st x y z).2.2 → lF A O h h' → h' O = some (6, [.long z', s']) → ((m_lay st x y z).1 = 0 → ∃ r, (m_lay st x y z).2.1 r ∧ z' = gI2l r) → Q ((m_lay st x y z).1 : Int) h') : w_L_lay G (A 22) x y z O h Q := by
  unfold w_L_lay
  refine ⟨d.has, gCall_mk (by decide) (by decide) (c_lay d hx hy hz (l_ret hO hA k (fun h' e q => ?_)))⟩
  have hle := l_lay_le (st := st) (x := x) (y := y) (z := z)
  generalize (m_lay st x y z).1 = cd at e q hle ⊢
  rcases (show cd = 1 ∨ cd = 2 by omega) with rfl | rfl
  · exact Or.inl ⟨rfl, q⟩
  · exact Or.inr ⟨rfl, q⟩
theorem l_twos_le {x y z : Int} : (m_twos st x y z).1 ≤ 2 := by
  unfold m_twos
  (try unfold exch); (try unfold settled); (try unfold takeOut)
  repeat' split
  all_goals simp
theorem l_twos {x y z : Int} (d : gD A G h U st) (hO : h O = some (6, [.long z0, sv])) (hA : ∀ i, i < 31 → O ≠ A i) (hx : gR x) (hy : gR y) (hz : gR z) (k : ∀ h' U' z' s', gD A G h' U' (m_twos st x y z).2.2 → lF A O h h' → h' O = some (6, [.long z', s']) → ((m_twos st x y z).1 = 0 → ∃ r, (m_twos st x y z).2.1 r ∧ z' = gI2l r) → Q ((m_twos st x y z).1 : Int) h') : w_L_twos (A 22) x y z O h Q := by
  unfold w_L_twos
  refine ⟨d.has, gCall_mk (by decide) (by decide) (c_twos d hx hy hz (l_ret hO hA k (fun h' e q => ?_)))⟩
  have hle := l_twos_le (st := st) (x := x) (y := y) (z := z)
  generalize (m_twos st x y z).1 = cd at e q hle ⊢
  rcases (show cd = 1 ∨ cd = 2 by omega) with rfl | rfl
  · exact Or.inl ⟨rfl, q⟩
  · exact Or.inr ⟨rfl, q⟩
theorem l_line_le {x n p s : Int} : (m_line st x n p s).1 ≤ 2 := by
  unfold m_line
  (try unfold exch); (try unfold settled); (try unfold takeOut)
  repeat' split
  all_goals simp
theorem l_line {x n p s : Int} (d : gD A G h U st) (hO : h O = some (6, [.long z0, sv])) (hA : ∀ i, i < 31 → O ≠ A i) (hx : gR x) (hn : gR n) (hp : gR p) (hs : gR s) (k : ∀ h' U' z' s', gD A G h' U' (m_line st x n p s).2.2 → lF A O h h' → h' O = some (6, [.long z', s']) → ((m_line st x n p s).1 = 0 → ∃ r, (m_line st x n p s).2.1 r ∧ z' = gI2l r) → Q ((m_line st x n p s).1 : Int) h') : w_L_line (A 22) x n p s O h Q := by
  unfold w_L_line
  refine ⟨d.has, gCall_mk (by decide) (by decide) (c_line d hx hn hp hs (l_ret hO hA k (fun h' e q => ?_)))⟩
  have hle := l_line_le (st := st) (x := x) (n := n) (p := p) (s := s)
  generalize (m_line st x n p s).1 = cd at e q hle ⊢
  rcases (show cd = 1 ∨ cd = 2 by omega) with rfl | rfl
  · exact Or.inl ⟨rfl, q⟩
  · exact Or.inr ⟨rfl, q⟩
theorem l_grow_le {x y : Int} : (m_grow st x y).1 ≤ 2 := by
  unfold m_grow
  (try unfold exch); (try unfold settled); (try unfold takeOut)
  repeat' split
  all_goals simp
theorem l_grow {x y : Int} (d : gD A G h U st) (hO : h O = some (6, [.long z0, sv])) (hA : ∀ i, i < 31 → O ≠ A i) (hx : gR x) (hy : gR y) (k : ∀ h' U' z' s', gD A G h' U' (m_grow st x y).2.2 → lF A O h h' → h' O = some (6, [.long z', s']) → ((m_grow st x y).1 = 0 → ∃ r, (m_grow st x y).2.1 r ∧ z' = gI2l r) → Q ((m_grow st x y).1 : Int) h') : w_L_grow (A 22) x y O h Q := by
  unfold w_L_grow
  refine ⟨d.has, gCall_mk (by decide) (by decide) (c_grow d hx hy (l_ret hO hA k (fun h' e q => ?_)))⟩
  have hle := l_grow_le (st := st) (x := x) (y := y)
  generalize (m_grow st x y).1 = cd at e q hle ⊢
  rcases (show cd = 1 ∨ cd = 2 by omega) with rfl | rfl
  · exact Or.inl ⟨rfl, q⟩
  · exact Or.inr ⟨rfl, q⟩
theorem l_shrink_le {x : Int} : (m_shrink st x).1 ≤ 2 := by
  unfold m_shrink
  (try unfold exch); (try unfold settled); (try unfold takeOut)
  repeat' split
  all_goals simp
theorem l_shrink {x : Int} (d : gD A G h U st) (hO : h O = some (6, [.long z0, sv])) (hA : ∀ i, i < 31 → O ≠ A i) (hx : gR x) (k : ∀ h' U' z' s', gD A G h' U' (m_shrink st x).2.2 → lF A O h h' → h' O = some (6, [.long z', s']) → ((m_shrink st x).1 = 0 → ∃ r, (m_shrink st x).2.1 r ∧ z' = gI2l r) → Q ((m_shrink st x).1 : Int) h') : w_L_shrink (A 22) x O h Q := by
  unfold w_L_shrink
  refine ⟨d.has, gCall_mk (by decide) (by decide) (c_shrink d hx (l_ret hO hA k (fun h' e q => ?_)))⟩
  have hle := l_shrink_le (st := st) (x := x)
  generalize (m_shrink st x).1 = cd at e q hle ⊢
  rcases (show cd = 1 ∨ cd = 2 by omega) with rfl | rfl
  · exact Or.inl ⟨rfl, q⟩
  · exact Or.inr ⟨rfl, q⟩
theorem l_fresh_le {x : Int} : (m_fresh st x).1 ≤ 1 := by
  unfold m_fresh
  (try unfold exch); (try unfold settled); (try unfold takeOut)
  repeat' split
  all_goals simp
theorem l_fresh {x : Int} (d : gD A G h U st) (hO : h O = some (6, [.long z0, sv])) (hA : ∀ i, i < 31 → O ≠ A i) (hx : gR x) (k : ∀ h' U' z' s', gD A G h' U' (m_fresh st x).2.2 → lF A O h h' → h' O = some (6, [.long z', s']) → ((m_fresh st x).1 = 0 → ∃ r, (m_fresh st x).2.1 r ∧ z' = gI2l r) → Q ((m_fresh st x).1 : Int) h') : w_L_fresh (A 22) x O h Q := by
  unfold w_L_fresh
  refine ⟨d.has, gCall_mk (by decide) (by decide) (c_fresh d hx (l_ret hO hA k (fun h' e q => ?_)))⟩
  have hle := l_fresh_le (st := st) (x := x)
  generalize (m_fresh st x).1 = cd at e q hle ⊢
  obtain rfl : cd = 1 := by omega
  exact ⟨rfl, q⟩
theorem l_length_le {x : Int} : (m_length st x).1 ≤ 1 := by
  unfold m_length
  (try unfold exch); (try unfold settled); (try unfold takeOut)
  repeat' split
  all_goals simp
theorem l_length {x : Int} (d : gD A G h U st) (hO : h O = some (6, [.long z0, sv])) (hA : ∀ i, i < 31 → O ≠ A i) (hx : gR x) (k : ∀ h' U' z' s', gD A G h' U' (m_length st x).2.2 → lF A O h h' → h' O = some (6, [.long z', s']) → ((m_length st x).1 = 0 → ∃ r, (m_length st x).2.1 r ∧ z' = gI2l r) → Q ((m_length st x).1 : Int) h') : w_L_length (A 22) x O h Q := by
  unfold w_L_length
  refine ⟨d.has, gCall_mk (by decide) (by decide) (c_length d hx (l_ret hO hA k (fun h' e q => ?_)))⟩
  have hle := l_length_le (st := st) (x := x)
  generalize (m_length st x).1 = cd at e q hle ⊢
  obtain rfl : cd = 1 := by omega
  exact ⟨rfl, q⟩
theorem l_isB_le {x y : Int} : (m_isB st x y).1 ≤ 1 := by
  unfold m_isB
  (try unfold exch); (try unfold settled); (try unfold takeOut)
  repeat' split
  all_goals simp
theorem b2i_01 (b : Bool) : b2i b = 0 ∨ b2i b = 1 := by cases b <;> simp [b2i]
theorem l_isB {x y : Int} (d : gD A G h U st) (hO : h O = some (6, [.long z0, sv])) (hA : ∀ i, i < 31 → O ≠ A i) (hx : gR x) (hy : gR y) (k : ∀ h' U' z' s', gD A G h' U' (m_isB st x y).2.2 → lF A O h h' → h' O = some (6, [.long z', s']) → ((m_isB st x y).1 = 0 → ∃ r, (m_isB st x y).2.1 r ∧ z' = gI2l r) → Q ((m_isB st x y).1 : Int) h') : w_L_isB (A 22) x y O h Q := by
  unfold w_L_isB
  have hb : ∀ r, (m_isB st x y).2.1 r → r = 0 ∨ r = 1 := by
    unfold m_isB
    repeat' split
    · intro r hr; obtain rfl := hr; exact b2i_01 _
    · intro r hr; exact hr.elim
    · intro r hr; exact hr.elim
  unfold w_L_isB_J15
  refine ⟨d.has, gCall_mk (by decide) (by decide) (c_isB d hx hy (l_retB hO hA k hb (fun h' e q => ?_)))⟩
  have hle := l_isB_le (st := st) (x := x) (y := y)
  generalize (m_isB st x y).1 = cd at e q hle ⊢
  obtain rfl : cd = 1 := by omega
  exact ⟨rfl, q⟩
theorem l_count_le {x : Int} {bz : Bool} : (m_count st x bz).1 ≤ 1 := by
  unfold m_count
  (try unfold exch); (try unfold settled); (try unfold takeOut)
  repeat' split
  all_goals simp
theorem l_count {x z : Int} {bz : Bool} (d : gD A G h U st) (hO : h O = some (6, [.long z0, sv])) (hA : ∀ i, i < 31 → O ≠ A i) (hx : gR x) (hz : z = b2i bz) (k : ∀ h' U' z' s', gD A G h' U' (m_count st x bz).2.2 → lF A O h h' → h' O = some (6, [.long z', s']) → ((m_count st x bz).1 = 0 → ∃ r, (m_count st x bz).2.1 r ∧ z' = gI2l r) → Q ((m_count st x bz).1 : Int) h') : w_L_count (A 22) x z O h Q := by
  unfold w_L_count
  refine ⟨d.has, gCall_mk (by decide) (by decide) (c_count d hx hz (l_ret hO hA k (fun h' e q => ?_)))⟩
  have hle := l_count_le (st := st) (x := x) (bz := bz)
  generalize (m_count st x bz).1 = cd at e q hle ⊢
  obtain rfl : cd = 1 := by omega
  exact ⟨rfl, q⟩
theorem l_find_le {x y v : Int} : (m_find st x y v).1 ≤ 1 := by
  unfold m_find
  (try unfold exch); (try unfold settled); (try unfold takeOut)
  repeat' split
  all_goals simp
theorem l_find {x y v : Int} (d : gD A G h U st) (hO : h O = some (6, [.long z0, sv])) (hA : ∀ i, i < 31 → O ≠ A i) (hx : gR x) (hy : gR y) (hv : gR v) (k : ∀ h' U' z' s', gD A G h' U' (m_find st x y v).2.2 → lF A O h h' → h' O = some (6, [.long z', s']) → ((m_find st x y v).1 = 0 → ∃ r, (m_find st x y v).2.1 r ∧ z' = gI2l r) → Q ((m_find st x y v).1 : Int) h') : w_L_find (A 22) x y v O h Q := by
  unfold w_L_find
  refine ⟨d.has, gCall_mk (by decide) (by decide) (c_find d hx hy hv (l_ret hO hA k (fun h' e q => ?_)))⟩
  have hle := l_find_le (st := st) (x := x) (y := y) (v := v)
  generalize (m_find st x y v).1 = cd at e q hle ⊢
  obtain rfl : cd = 1 := by omega
  exact ⟨rfl, q⟩
theorem l_findLast_le {x y v : Int} : (m_findLast st x y v).1 ≤ 1 := by
  unfold m_findLast
  (try unfold exch); (try unfold settled); (try unfold takeOut)
  repeat' split
  all_goals simp
theorem l_findLast {x y v : Int} (d : gD A G h U st) (hO : h O = some (6, [.long z0, sv])) (hA : ∀ i, i < 31 → O ≠ A i) (hx : gR x) (hy : gR y) (hv : gR v) (k : ∀ h' U' z' s', gD A G h' U' (m_findLast st x y v).2.2 → lF A O h h' → h' O = some (6, [.long z', s']) → ((m_findLast st x y v).1 = 0 → ∃ r, (m_findLast st x y v).2.1 r ∧ z' = gI2l r) → Q ((m_findLast st x y v).1 : Int) h') : w_L_findLast (A 22) x y v O h Q := by
  unfold w_L_findLast
  refine ⟨d.has, gCall_mk (by decide) (by decide) (c_findLast d hx hy hv (l_ret hO hA k (fun h' e q => ?_)))⟩
  have hle := l_findLast_le (st := st) (x := x) (y := y) (v := v)
  generalize (m_findLast st x y v).1 = cd at e q hle ⊢
  obtain rfl : cd = 1 := by omega
  exact ⟨rfl, q⟩
theorem l_order_le {x y : Int} : (m_order st x y).1 ≤ 1 := by
  unfold m_order
  (try unfold exch); (try unfold settled); (try unfold takeOut)
  repeat' split
  all_goals simp
theorem l_order {x y : Int} (d : gD A G h U st) (hO : h O = some (6, [.long z0, sv])) (hA : ∀ i, i < 31 → O ≠ A i) (hx : gR x) (hy : gR y) (k : ∀ h' U' z' s', gD A G h' U' (m_order st x y).2.2 → lF A O h h' → h' O = some (6, [.long z', s']) → ((m_order st x y).1 = 0 → ∃ r, (m_order st x y).2.1 r ∧ z' = gI2l r) → Q ((m_order st x y).1 : Int) h') : w_L_order (A 22) x y O h Q := by
  unfold w_L_order
  refine ⟨d.has, gCall_mk (by decide) (by decide) (c_order d hx hy (l_ret hO hA k (fun h' e q => ?_)))⟩
  have hle := l_order_le (st := st) (x := x) (y := y)
  generalize (m_order st x y).1 = cd at e q hle ⊢
  obtain rfl : cd = 1 := by omega
  exact ⟨rfl, q⟩
theorem l_isMirrored_le {x : Int} : (m_isMirrored st x).1 ≤ 1 := by
  unfold m_isMirrored
  (try unfold exch); (try unfold settled); (try unfold takeOut)
  repeat' split
  all_goals simp
theorem l_isMirrored {x : Int} (d : gD A G h U st) (hO : h O = some (6, [.long z0, sv])) (hA : ∀ i, i < 31 → O ≠ A i) (hx : gR x) (k : ∀ h' U' z' s', gD A G h' U' (m_isMirrored st x).2.2 → lF A O h h' → h' O = some (6, [.long z', s']) → ((m_isMirrored st x).1 = 0 → ∃ r, (m_isMirrored st x).2.1 r ∧ z' = gI2l r) → Q ((m_isMirrored st x).1 : Int) h') : w_L_isMirrored (A 22) x O h Q := by
  unfold w_L_isMirrored
  have hb : ∀ r, (m_isMirrored st x).2.1 r → r = 0 ∨ r = 1 := by
    unfold m_isMirrored
    repeat' split
    · intro r hr; exact hr
    · intro r hr; exact hr.elim
  unfold w_L_isMirrored_J14
  refine ⟨d.has, gCall_mk (by decide) (by decide) (c_isMirrored d hx (l_retB hO hA k hb (fun h' e q => ?_)))⟩
  have hle := l_isMirrored_le (st := st) (x := x)
  generalize (m_isMirrored st x).1 = cd at e q hle ⊢
  obtain rfl : cd = 1 := by omega
  exact ⟨rfl, q⟩
theorem l_spread_le {x y : Int} : (m_spread st x y).1 ≤ 2 := by
  unfold m_spread
  (try unfold exch); (try unfold settled); (try unfold takeOut)
  repeat' split
  all_goals simp
theorem l_spread {x y z : Int} {bz : Bool} (d : gD A G h U st) (hO : h O = some (6, [.long z0, sv])) (hA : ∀ i, i < 31 → O ≠ A i) (hx : gR x) (hy : gR y) (hz : z = b2i bz) (k : ∀ h' U' z' s', gD A G h' U' (m_spread st x y).2.2 → lF A O h h' → h' O = some (6, [.long z', s']) → ((m_spread st x y).1 = 0 → ∃ r, (m_spread st x y).2.1 r ∧ z' = gI2l r) → Q ((m_spread st x y).1 : Int) h') : w_L_spread (A 22) x y z O h Q := by
  unfold w_L_spread
  refine ⟨d.has, gCall_mk (by decide) (by decide) (c_spread d hx hy hz (l_ret hO hA k (fun h' e q => ?_)))⟩
  have hle := l_spread_le (st := st) (x := x) (y := y)
  generalize (m_spread st x y).1 = cd at e q hle ⊢
  rcases (show cd = 1 ∨ cd = 2 by omega) with rfl | rfl
  · exact Or.inl ⟨rfl, q⟩
  · exact Or.inr ⟨rfl, q⟩
theorem l_kinds_le {x y : Int} : (m_kinds st x y).1 ≤ 2 := by
  unfold m_kinds
  (try unfold exch); (try unfold settled); (try unfold takeOut)
  repeat' split
  all_goals simp
theorem l_kinds {x y z : Int} {bz : Bool} (d : gD A G h U st) (hO : h O = some (6, [.long z0, sv])) (hA : ∀ i, i < 31 → O ≠ A i) (hx : gR x) (hy : gR y) (hz : z = b2i bz) (k : ∀ h' U' z' s', gD A G h' U' (m_kinds st x y).2.2 → lF A O h h' → h' O = some (6, [.long z', s']) → ((m_kinds st x y).1 = 0 → ∃ r, (m_kinds st x y).2.1 r ∧ z' = gI2l r) → Q ((m_kinds st x y).1 : Int) h') : w_L_kinds (A 22) x y z O h Q := by
  unfold w_L_kinds
  refine ⟨d.has, gCall_mk (by decide) (by decide) (c_kinds d hx hy hz (l_ret hO hA k (fun h' e q => ?_)))⟩
  have hle := l_kinds_le (st := st) (x := x) (y := y)
  generalize (m_kinds st x y).1 = cd at e q hle ⊢
  rcases (show cd = 1 ∨ cd = 2 by omega) with rfl | rfl
  · exact Or.inl ⟨rfl, q⟩
  · exact Or.inr ⟨rfl, q⟩
theorem l_times_le {x : Int} : (m_times st x).1 ≤ 1 := by
  unfold m_times
  (try unfold exch); (try unfold settled); (try unfold takeOut)
  repeat' split
  all_goals simp
theorem l_times {x : Int} (d : gD A G h U st) (hO : h O = some (6, [.long z0, sv])) (hA : ∀ i, i < 31 → O ≠ A i) (hx : gR x) (k : ∀ h' U' z' s', gD A G h' U' (m_times st x).2.2 → lF A O h h' → h' O = some (6, [.long z', s']) → ((m_times st x).1 = 0 → ∃ r, (m_times st x).2.1 r ∧ z' = gI2l r) → Q ((m_times st x).1 : Int) h') : w_L_times (A 22) x O h Q := by
  unfold w_L_times
  refine ⟨d.has, gCall_mk (by decide) (by decide) (c_times d hx (l_ret hO hA k (fun h' e q => ?_)))⟩
  have hle := l_times_le (st := st) (x := x)
  generalize (m_times st x).1 = cd at e q hle ⊢
  obtain rfl : cd = 1 := by omega
  exact ⟨rfl, q⟩
theorem l_overlaps_le {x : Int} : (m_overlaps st x).1 ≤ 1 := by
  unfold m_overlaps
  (try unfold exch); (try unfold settled); (try unfold takeOut)
  repeat' split
  all_goals simp
theorem l_overlaps {x : Int} (d : gD A G h U st) (hO : h O = some (6, [.long z0, sv])) (hA : ∀ i, i < 31 → O ≠ A i) (hx : gR x) (k : ∀ h' U' z' s', gD A G h' U' (m_overlaps st x).2.2 → lF A O h h' → h' O = some (6, [.long z', s']) → ((m_overlaps st x).1 = 0 → ∃ r, (m_overlaps st x).2.1 r ∧ z' = gI2l r) → Q ((m_overlaps st x).1 : Int) h') : w_L_overlaps (A 22) x O h Q := by
  unfold w_L_overlaps
  refine ⟨d.has, gCall_mk (by decide) (by decide) (c_overlaps d hx (l_ret hO hA k (fun h' e q => ?_)))⟩
  have hle := l_overlaps_le (st := st) (x := x)
  generalize (m_overlaps st x).1 = cd at e q hle ⊢
  obtain rfl : cd = 1 := by omega
  exact ⟨rfl, q⟩
theorem l_mirrors_le {x : Int} : (m_mirrors st x).1 ≤ 1 := by
  unfold m_mirrors
  (try unfold exch); (try unfold settled); (try unfold takeOut)
  repeat' split
  all_goals simp
theorem l_mirrors {x : Int} (d : gD A G h U st) (hO : h O = some (6, [.long z0, sv])) (hA : ∀ i, i < 31 → O ≠ A i) (hx : gR x) (k : ∀ h' U' z' s', gD A G h' U' (m_mirrors st x).2.2 → lF A O h h' → h' O = some (6, [.long z', s']) → ((m_mirrors st x).1 = 0 → ∃ r, (m_mirrors st x).2.1 r ∧ z' = gI2l r) → Q ((m_mirrors st x).1 : Int) h') : w_L_mirrors (A 22) x O h Q := by
  unfold w_L_mirrors
  refine ⟨d.has, gCall_mk (by decide) (by decide) (c_mirrors d hx (l_ret hO hA k (fun h' e q => ?_)))⟩
  have hle := l_mirrors_le (st := st) (x := x)
  generalize (m_mirrors st x).1 = cd at e q hle ⊢
  obtain rfl : cd = 1 := by omega
  exact ⟨rfl, q⟩
theorem l_folds_le {x : Int} : (m_folds st x).1 ≤ 1 := by
  unfold m_folds
  (try unfold exch); (try unfold settled); (try unfold takeOut)
  repeat' split
  all_goals simp
theorem l_folds {x : Int} (d : gD A G h U st) (hO : h O = some (6, [.long z0, sv])) (hA : ∀ i, i < 31 → O ≠ A i) (hx : gR x) (k : ∀ h' U' z' s', gD A G h' U' (m_folds st x).2.2 → lF A O h h' → h' O = some (6, [.long z', s']) → ((m_folds st x).1 = 0 → ∃ r, (m_folds st x).2.1 r ∧ z' = gI2l r) → Q ((m_folds st x).1 : Int) h') : w_L_folds (A 22) x O h Q := by
  unfold w_L_folds
  refine ⟨d.has, gCall_mk (by decide) (by decide) (c_folds d hx (l_ret hO hA k (fun h' e q => ?_)))⟩
  have hle := l_folds_le (st := st) (x := x)
  generalize (m_folds st x).1 = cd at e q hle ⊢
  obtain rfl : cd = 1 := by omega
  exact ⟨rfl, q⟩
theorem l_least_le {x : Int} : (m_least st x).1 ≤ 1 := by
  unfold m_least
  (try unfold exch); (try unfold settled); (try unfold takeOut)
  repeat' split
  all_goals simp
theorem l_least {x : Int} (d : gD A G h U st) (hO : h O = some (6, [.long z0, sv])) (hA : ∀ i, i < 31 → O ≠ A i) (hx : gR x) (k : ∀ h' U' z' s', gD A G h' U' (m_least st x).2.2 → lF A O h h' → h' O = some (6, [.long z', s']) → ((m_least st x).1 = 0 → ∃ r, (m_least st x).2.1 r ∧ z' = gI2l r) → Q ((m_least st x).1 : Int) h') : w_L_least (A 22) x O h Q := by
  unfold w_L_least
  refine ⟨d.has, gCall_mk (by decide) (by decide) (c_least d hx (l_ret hO hA k (fun h' e q => ?_)))⟩
  have hle := l_least_le (st := st) (x := x)
  generalize (m_least st x).1 = cd at e q hle ⊢
  obtain rfl : cd = 1 := by omega
  exact ⟨rfl, q⟩
theorem l_isApart_le {x y : Int} : (m_isApart st x y).1 ≤ 1 := by
  unfold m_isApart
  (try unfold exch); (try unfold settled); (try unfold takeOut)
  repeat' split
  all_goals simp
theorem l_isApart {x y : Int} (d : gD A G h U st) (hO : h O = some (6, [.long z0, sv])) (hA : ∀ i, i < 31 → O ≠ A i) (hx : gR x) (hy : gR y) (k : ∀ h' U' z' s', gD A G h' U' (m_isApart st x y).2.2 → lF A O h h' → h' O = some (6, [.long z', s']) → ((m_isApart st x y).1 = 0 → ∃ r, (m_isApart st x y).2.1 r ∧ z' = gI2l r) → Q ((m_isApart st x y).1 : Int) h') : w_L_isApart (A 22) x y O h Q := by
  unfold w_L_isApart
  have hb : ∀ r, (m_isApart st x y).2.1 r → r = 0 ∨ r = 1 := by
    unfold m_isApart
    repeat' split
    · intro r hr; obtain rfl := hr; exact b2i_01 _
    · intro r hr; exact hr.elim
  unfold w_L_isApart_J15
  refine ⟨d.has, gCall_mk (by decide) (by decide) (c_isApart d hx hy (l_retB hO hA k hb (fun h' e q => ?_)))⟩
  have hle := l_isApart_le (st := st) (x := x) (y := y)
  generalize (m_isApart st x y).1 = cd at e q hle ⊢
  obtain rfl : cd = 1 := by omega
  exact ⟨rfl, q⟩
theorem l_size_le {x : Int} {bz : Bool} : (m_size st x bz).1 ≤ 1 := by
  unfold m_size
  (try unfold exch); (try unfold settled); (try unfold takeOut)
  repeat' split
  all_goals simp
theorem l_size {x z : Int} {bz : Bool} (d : gD A G h U st) (hO : h O = some (6, [.long z0, sv])) (hA : ∀ i, i < 31 → O ≠ A i) (hx : gR x) (hz : z = b2i bz) (k : ∀ h' U' z' s', gD A G h' U' (m_size st x bz).2.2 → lF A O h h' → h' O = some (6, [.long z', s']) → ((m_size st x bz).1 = 0 → ∃ r, (m_size st x bz).2.1 r ∧ z' = gI2l r) → Q ((m_size st x bz).1 : Int) h') : w_L_size (A 22) x z O h Q := by
  unfold w_L_size
  refine ⟨d.has, gCall_mk (by decide) (by decide) (c_size d hx hz (l_ret hO hA k (fun h' e q => ?_)))⟩
  have hle := l_size_le (st := st) (x := x) (bz := bz)
  generalize (m_size st x bz).1 = cd at e q hle ⊢
  obtain rfl : cd = 1 := by omega
  exact ⟨rfl, q⟩
theorem l_ups_le {x : Int} {bz : Bool} : (m_ups st x bz).1 ≤ 1 := by
  unfold m_ups
  (try unfold exch); (try unfold settled); (try unfold takeOut)
  repeat' split
  all_goals simp
theorem l_ups {x z : Int} {bz : Bool} (d : gD A G h U st) (hO : h O = some (6, [.long z0, sv])) (hA : ∀ i, i < 31 → O ≠ A i) (hx : gR x) (hz : z = b2i bz) (k : ∀ h' U' z' s', gD A G h' U' (m_ups st x bz).2.2 → lF A O h h' → h' O = some (6, [.long z', s']) → ((m_ups st x bz).1 = 0 → ∃ r, (m_ups st x bz).2.1 r ∧ z' = gI2l r) → Q ((m_ups st x bz).1 : Int) h') : w_L_ups (A 22) x z O h Q := by
  unfold w_L_ups
  refine ⟨d.has, gCall_mk (by decide) (by decide) (c_ups d hx hz (l_ret hO hA k (fun h' e q => ?_)))⟩
  have hle := l_ups_le (st := st) (x := x) (bz := bz)
  generalize (m_ups st x bz).1 = cd at e q hle ⊢
  obtain rfl : cd = 1 := by omega
  exact ⟨rfl, q⟩
theorem l_cross_le {x : Int} : (m_cross st x).1 ≤ 1 := by
  unfold m_cross
  (try unfold exch); (try unfold settled); (try unfold takeOut)
  repeat' split
  all_goals simp
theorem l_cross {x : Int} (d : gD A G h U st) (hO : h O = some (6, [.long z0, sv])) (hA : ∀ i, i < 31 → O ≠ A i) (hx : gR x) (k : ∀ h' U' z' s', gD A G h' U' (m_cross st x).2.2 → lF A O h h' → h' O = some (6, [.long z', s']) → ((m_cross st x).1 = 0 → ∃ r, (m_cross st x).2.1 r ∧ z' = gI2l r) → Q ((m_cross st x).1 : Int) h') : w_L_cross (A 22) x O h Q := by
  unfold w_L_cross
  refine ⟨d.has, gCall_mk (by decide) (by decide) (c_cross d hx (l_ret hO hA k (fun h' e q => ?_)))⟩
  have hle := l_cross_le (st := st) (x := x)
  generalize (m_cross st x).1 = cd at e q hle ⊢
  obtain rfl : cd = 1 := by omega
  exact ⟨rfl, q⟩
theorem l_alike_le {x : Int} : (m_alike st x).1 ≤ 1 := by
  unfold m_alike
  (try unfold exch); (try unfold settled); (try unfold takeOut)
  repeat' split
  all_goals simp
theorem l_alike {x : Int} (d : gD A G h U st) (hO : h O = some (6, [.long z0, sv])) (hA : ∀ i, i < 31 → O ≠ A i) (hx : gR x) (k : ∀ h' U' z' s', gD A G h' U' (m_alike st x).2.2 → lF A O h h' → h' O = some (6, [.long z', s']) → ((m_alike st x).1 = 0 → ∃ r, (m_alike st x).2.1 r ∧ z' = gI2l r) → Q ((m_alike st x).1 : Int) h') : w_L_alike (A 22) x O h Q := by
  unfold w_L_alike
  refine ⟨d.has, gCall_mk (by decide) (by decide) (c_alike d hx (l_ret hO hA k (fun h' e q => ?_)))⟩
  have hle := l_alike_le (st := st) (x := x)
  generalize (m_alike st x).1 = cd at e q hle ⊢
  obtain rfl : cd = 1 := by omega
  exact ⟨rfl, q⟩
theorem l_house_le {x : Int} : (m_house st x).1 ≤ 1 := by
  unfold m_house
  (try unfold exch); (try unfold settled); (try unfold takeOut)
  repeat' split
  all_goals simp
theorem l_house {x : Int} (d : gD A G h U st) (hO : h O = some (6, [.long z0, sv])) (hA : ∀ i, i < 31 → O ≠ A i) (hx : gR x) (k : ∀ h' U' z' s', gD A G h' U' (m_house st x).2.2 → lF A O h h' → h' O = some (6, [.long z', s']) → ((m_house st x).1 = 0 → ∃ r, (m_house st x).2.1 r ∧ z' = gI2l r) → Q ((m_house st x).1 : Int) h') : w_L_house (A 22) x O h Q := by
  unfold w_L_house
  refine ⟨d.has, gCall_mk (by decide) (by decide) (c_house d hx (l_ret hO hA k (fun h' e q => ?_)))⟩
  have hle := l_house_le (st := st) (x := x)
  generalize (m_house st x).1 = cd at e q hle ⊢
  obtain rfl : cd = 1 := by omega
  exact ⟨rfl, q⟩
theorem l_text {x : Int} (d : gD A G h U st) (hO : h O = some (6, [.long z0, sv])) (hA : ∀ i, i < 31 → O ≠ A i) (hx : gR x) (k : ∀ h' U' z' s' (c : Nat), gD A G h' U' st → lF A O h h' → h' O = some (6, [.long z', s']) → Q (c : Int) h') : w_L_text G (A 22) x O h Q := by
  unfold w_L_text
  exact ⟨d.has, gCall_mk (by decide) (by decide) (c_text d hx (fun _ => ⟨rfl, k h U z0 sv 1 d (fun _ _ _ _ q => q) hO⟩) (fun _ h' o f _ => l_retS hO d hA k f))⟩
theorem l_turns {x : Int} (d : gD A G h U st) (hO : h O = some (6, [.long z0, sv])) (hA : ∀ i, i < 31 → O ≠ A i) (hx : gR x) (m3 : h (G.2.2.2 1) = some (1101, gaOnes)) (k : ∀ h' U' z' s' (c : Nat), gD A G h' U' st → lF A O h h' → h' O = some (6, [.long z', s']) → Q (c : Int) h') : w_L_turns G (A 22) x O h Q := by
  unfold w_L_turns
  exact ⟨d.has, gCall_mk (by decide) (by decide) (c_turns d hx m3 (fun _ => ⟨rfl, k h U z0 sv 1 d (fun _ _ _ _ q => q) hO⟩) (fun _ h' o f _ => l_retS hO d hA k f))⟩
theorem l_grown {x z : Int} (d : gD A G h U st) (hO : h O = some (6, [.long z0, sv])) (hA : ∀ i, i < 31 → O ≠ A i) (hx : gR x) (hz : z = 0 ∨ z = 1) (k : ∀ h' U' z' s' (c : Nat), gD A G h' U' st → lF A O h h' → h' O = some (6, [.long z', s']) → Q (c : Int) h') : w_L_grown G (A 22) x z O h Q := by
  unfold w_L_grown
  exact ⟨d.has, gCall_mk (by decide) (by decide) (c_grown d hx hz (fun _ => ⟨rfl, k h U z0 sv 1 d (fun _ _ _ _ q => q) hO⟩) (fun _ h' o f _ => l_retS hO d hA k f))⟩
end WL
/-! What holds at every call: the garden, the reference, the out object, the script, and that they lie apart. -/
def lS (A B : Nat → Nat) (G : gaG) (O b : Nat) : Prop := (∀ i, i < 31 → B (6 + i) = A i) ∧ B 37 = O ∧ (∀ i j, i < 38 → j < 38 → B i = B j → i = j) ∧ (∀ i, i < 38 → b ≠ B i) ∧ (∀ i, i < 38 → G.2.2.2 0 ≠ B i) ∧ (∀ i, i < 38 → G.2.2.2 1 ≠ B i)
def lV (A B : Nat → Nat) (G : gaG) (O b L : Nat) (xs : Nat → Int32) (h : gaH) (U : Nat → List Bool) (st1 st2 : GSt) (no : Int) (z : Int64) (s : Value) : Prop := gD A G h U st1 ∧ gM B h st2 no ∧ h O = some (6, [.long z, s]) ∧ h b = some (1102, (List.range L).map (fun i => Value.int (xs i))) ∧ h (G.2.2.2 1) = some (1101, gaOnes)
theorem gM.fr {B : Nat → Nat} {h : gaH} {st : GSt} {no : Int} (d : gM B h st no) {h' : gaH} (f : ∀ a e, (∀ i, 6 ≤ i → i < 38 → a ≠ B i) → h a = some e → h' a = some e) (hB : ∀ i j, i < 38 → j < 38 → B i = B j → i = j) (ex : ∀ i, 6 ≤ i → i < 38 → ∃ e, h' (B i) = some e) : gM B h' st no := by
  obtain ⟨s, a1, a2, a3, a4, a5, a6, a7⟩ := d
  have k : ∀ i e, i < 6 → h (B i) = some e → h' (B i) = some e := fun i e hi q => f _ _ (fun j h6 hj z => by have := hB _ _ (by omega) hj z; omega) q
  refine ⟨s, k _ _ (by decide) a1, k _ _ (by decide) a2, fun w hw => ⟨f _ _ (fun j h6 hj => (a3 w hw).2.2 j hj) (a3 w hw).1, (a3 w hw).2⟩, k _ _ (by decide) a4, k _ _ (by decide) a5, fun g hg => ?_, a7.1, fun i hi => ?_⟩
  · obtain ⟨b1, row, b2, b3, b4⟩ := a6 g hg
    exact ⟨b1, row, b2, k _ _ (by omega) b3, b4⟩
  · by_cases q : i < 6
    · obtain ⟨e, z⟩ := a7.2 i hi
      exact ⟨e, k _ _ q z⟩
    · exact ex i (by omega) hi
theorem lF.fr {A : Nat → Nat} {O : Nat} {h h' : gaH} (f : gFr A h h') : lF A O h h' := fun a e h1 _ h3 => f a e h1 h3
section LV
variable {A B : Nat → Nat} {G : gaG} {O b L : Nat} {xs : Nat → Int32} {h : gaH} {U : Nat → List Bool} {st1 st2 : GSt} {no : Int} {z : Int64} {s : Value}
theorem lS.oA (S : lS A B G O b) : ∀ i, i < 31 → O ≠ A i := fun i hi q => by
  obtain ⟨s1, s2, s3, -⟩ := S
  have := s3 37 (6 + i) (by omega) (by omega) (by rw [s2, s1 i hi]; exact q)
  omega
theorem lS.n1 (S : lS A B G O b) : ∀ i, i < 6 → G.2.2.2 1 ≠ B i := fun i hi => S.2.2.2.2.2 i (by omega)
theorem lV.d (v : lV A B G O b L xs h U st1 st2 no z s) : gD A G h U st1 := v.1
theorem lV.m (v : lV A B G O b L xs h U st1 st2 no z s) : gM B h st2 no := v.2.1
theorem lV.o (v : lV A B G O b L xs h U st1 st2 no z s) : h O = some (6, [.long z, s]) := v.2.2.1
theorem lV.bb (v : lV A B G O b L xs h U st1 st2 no z s) : h b = some (1102, (List.range L).map (fun i => Value.int (xs i))) := v.2.2.2.1
theorem lV.n3 (v : lV A B G O b L xs h U st1 st2 no z s) : h (G.2.2.2 1) = some (1101, gaOnes) := v.2.2.2.2
theorem lV.cls (v : lV A B G O b L xs h U st1 st2 no z s) (S : lS A B G O b) {h' : gaH} {U' : Nat → List Bool} {st' : GSt} {z' : Int64} {s' : Value} (d : gD A G h' U' st') (f : lF A O h h') (o : h' O = some (6, [.long z', s'])) : lV A B G O b L xs h' U' st' st2 no z' s' := by
  obtain ⟨v1, v2, v3, v4, v5⟩ := v
  obtain ⟨s1, s2, s3, s4, s5, s6⟩ := S
  have k : ∀ a, (∀ i, 6 ≤ i → i < 38 → a ≠ B i) → (∀ i, i < 31 → a ≠ A i) ∧ a ≠ O := fun a q => ⟨fun i hi => by rw [← s1 i hi]; exact q _ (by omega) (by omega), by rw [← s2]; exact q _ (by omega) (by omega)⟩
  refine ⟨d, v2.fr (fun a e q => f a e (k a q).1 (k a q).2) s3 (fun i h6 hi => ?_), o, f _ _ (k b (fun i _ hi => s4 i hi)).1 (k b (fun i _ hi => s4 i hi)).2 v4, f _ _ (k _ (fun i _ hi => s6 i hi)).1 (k _ (fun i _ hi => s6 i hi)).2 v5⟩
  by_cases q : i = 37
  · rw [q, s2]; exact ⟨_, o⟩
  · obtain ⟨j, rfl⟩ : ∃ j, i = 6 + j := ⟨i - 6, by omega⟩
    rw [s1 j (by omega)]; exact d.cell j (by omega)
theorem lV.ref (v : lV A B G O b L xs h U st1 st2 no z s) (S : lS A B G O b) {h' : gaH} {st' : GSt} {no' : Int} (d : gM B h' st' no') (f : mF B h h') : lV A B G O b L xs h' U st1 st' no' z s := by
  obtain ⟨v1, v2, v3, v4, v5⟩ := v
  obtain ⟨s1, s2, s3, s4, s5, s6⟩ := S
  refine ⟨v1.fr (fun i hi => ?_) ((f _ _ (fun i hi => s5 i (by omega)) v1.mc).trans v1.mc.symm), d, f _ _ (fun i hi q => ?_) v3, f _ _ (fun i hi => s4 i (by omega)) v4, f _ _ (fun i hi => s6 i (by omega)) v5⟩
  · obtain ⟨e, q⟩ := v1.cell i hi
    rw [q]
    refine f _ _ (fun j hj z => ?_) q
    have := s3 (6 + i) j (by omega) (by omega) (by rw [s1 i hi]; exact z)
    omega
  · have := s3 37 i (by omega) (by omega) (by rw [s2]; exact q)
    omega
theorem lV.sc (v : lV A B G O b L xs h U st1 st2 no z s) {i j : Nat} {x : Int} {K : Int → Prop} (hx : x = ((i + j : Nat) : Int)) (hl : i + j < L) (hL : L ≤ 320) (k : K (xs (i + j)).toInt) : gLI h b 102 x K := by
  subst hx
  refine ⟨1102, _, (xs (i + j)).toInt, v.bb, Or.inr rfl, by omega, by omega, ?_, k⟩
  rw [Int.toNat_natCast, List.getElem?_map, List.getElem?_range hl]
  show some (Value.int (xs (i + j))) = some (Value.int (Int32.ofInt (xs (i + j)).toInt))
  rw [gi_back]
end LV
theorem r_thrown {B : Nat → Nat} {h : gaH} {st : GSt} {no : Int} {Q : Int → gaH → Prop} (d : gM B h st no) (k : Q no h) : w_X7_thrown (B 0) h Q := d.nn k
/-- both codes are the same, and both answers where the code is 0 -/
theorem cmpN {c O : Nat} {P : Int → Prop} {r : Int} {F : Prop} {h : gaH} {z : Int64} {s : Value} (hc : c ≤ 3) (hu : ∀ a b, P a → P b → a = b) (p1 : c = 0 → ∃ r, P r ∧ z = gI2l r) (p2 : c = 0 → P r) (hO : h O = some (6, [.long z, s])) (k : F) : gR (c : Int) ∧ gR (c : Int) ∧ (if (c : Int) = (c : Int) then gR (c : Int) ∧ (if (c : Int) = 0 then gL h O 6 0 (fun r15 => gR (gCmp r15 (gI2l r)) ∧ (if gCmp r15 (gI2l r) = 0 then F else False)) else F) else False) := by
  have hr : gR (c : Int) := ⟨by omega, by omega⟩
  refine ⟨hr, hr, if_yes rfl ⟨hr, ?_⟩⟩
  by_cases q : c = 0
  · obtain ⟨a, h1, h2⟩ := p1 q
    have e := hu a r h1 (p2 q)
    subst e
    subst h2
    exact if_yes (by omega) ⟨_, _, hO, rfl, gCmp_R _ _, if_yes (gCmp_self _) k⟩
  · exact if_no (by omega) k
