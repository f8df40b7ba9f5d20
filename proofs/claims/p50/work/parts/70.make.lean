theorem gNA_mk {h : gaH} {t : Nat} {v : Value} {x : Int} {c s : Nat} {K : Nat → gaH → Nat → Nat → Prop} {n : Nat} (hx : x = (n : Int)) (h1 : n ≤ 100000) (h2 : 1 ≤ c) (h3 : n ≤ s) (k : ∀ a, h a = none → K a (gaUp h a (t, List.replicate n v)) (c - 1) (s - n)) : gNA h t v x c s K := by
  subst hx
  exact ⟨by omega, by omega, h2, by omega, fun a ha => ⟨_, _, rfl, rfl, by rw [Int.toNat_natCast]; exact k a ha⟩⟩
theorem gNO_mk {h : gaH} {ci n : Nat} {fs : List Value} {c s : Nat} {K : Nat → gaH → Nat → Nat → Prop} (h2 : 1 ≤ c) (h3 : n ≤ s) (k : ∀ a, h a = none → K a (gaUp h a (ci, fs)) (c - 1) (s - n)) : gNO h ci n fs c s K := ⟨h2, h3, fun a ha => ⟨_, _, rfl, rfl, k a ha⟩⟩
/-! The makers: cells made one behind another, the newest ahead. -/
theorem lt_rfl {a b : Nat} (q : Nat.ble (a + 1) b = true) : a < b := Nat.le_of_ble_eq_true q
def aL (h0 h : gaH) (as : List (Nat × gaE)) : Prop := (as.map Prod.fst).Nodup ∧ (∀ (i : Nat) k e, as[i]? = some (k, e) → h k = some e) ∧ (∀ a, a ∉ as.map Prod.fst → h a = h0 a) ∧ ∀ a, a ∈ as.map Prod.fst → h0 a = none
theorem aL.nil (h : gaH) : aL h h [] := ⟨List.nodup_nil, fun i k e q => by simp at q, fun _ _ => rfl, fun a q => by simp at q⟩
theorem set_self {α : Type} {l : List α} {i : Nat} {x : α} (q : l[i]? = some x) : l.set i x = l := by
  refine List.ext_getElem? (fun j => ?_)
  by_cases e : i = j
  · subst e
    rw [q, List.getElem?_set_self (List.getElem?_eq_some_iff.mp q).1]
  · rw [List.getElem?_set_ne e]
section AL
variable {h0 h : gaH} {as : List (Nat × gaE)} {a o : Nat}
theorem aL.keys {i : Nat} {k : Nat} {e f : gaE} (q : as[i]? = some (k, e)) : (as.set i (k, f)).map Prod.fst = as.map Prod.fst := by
  rw [List.map_set]
  exact set_self (by rw [List.getElem?_map, q]; rfl)
theorem aL.new (d : aL h0 h as) (ho : h o = none) (e : gaE) : aL h0 (gaUp h o e) ((o, e) :: as) := by
  obtain ⟨d1, d2, d3, d4⟩ := d
  have no : o ∉ as.map Prod.fst := fun q => by
    obtain ⟨⟨k, f⟩, q1, q2⟩ := List.mem_map.mp q
    obtain ⟨i, hi, q3⟩ := List.getElem_of_mem q1
    have := d2 i k f (by rw [List.getElem?_eq_getElem hi, q3])
    dsimp only at q2
    subst q2
    rw [ho] at this; cases this
  refine ⟨List.nodup_cons.mpr ⟨no, d1⟩, fun i k f q => ?_, fun b hb => ?_, fun b hb => ?_⟩
  · cases i with
    | zero =>
      rw [List.getElem?_cons_zero] at q
      cases q
      exact gaUp_self _ _ _
    | succ i =>
      rw [List.getElem?_cons_succ] at q
      rw [gaUp_ne _ _ (fun z => no (by rw [← z]; exact List.mem_map.mpr ⟨_, List.mem_of_getElem? q, rfl⟩))]
      exact d2 i k f q
  · rw [List.map_cons, List.mem_cons, not_or] at hb
    rw [gaUp_ne _ _ hb.1]; exact d3 b hb.2
  · rw [List.map_cons, List.mem_cons] at hb
    rcases hb with z | z
    · rw [z, ← d3 o no]; exact ho
    · exact d4 b z
theorem aL.set (d : aL h0 h as) (i : Nat) {k : Nat} {e0 : gaE} (q : as[i]? = some (k, e0)) (e : gaE) : aL h0 (gaUp h k e) (as.set i (k, e)) := by
  obtain ⟨d1, d2, d3, d4⟩ := d
  have hk : as.map Prod.fst = (as.set i (k, e)).map Prod.fst := (aL.keys q).symm
  have hi : i < as.length := (List.getElem?_eq_some_iff.mp q).1
  refine ⟨by rw [← hk]; exact d1, fun j k2 f z => ?_, fun b hb => ?_, fun b hb => d4 b (by rw [hk]; exact hb)⟩
  · by_cases ij : i = j
    · subst ij
      rw [List.getElem?_set_self hi] at z
      cases z
      exact gaUp_self _ _ _
    · rw [List.getElem?_set_ne ij] at z
      have e1 : (as.map Prod.fst)[i]? = some k := by rw [List.getElem?_map, q]; rfl
      have e2 : (as.map Prod.fst)[j]? = some k2 := by rw [List.getElem?_map, z]; rfl
      have ne : k2 ≠ k := fun s => by
        subst s
        exact ij ((List.getElem?_inj (List.getElem?_eq_some_iff.mp e1).1 d1).mp (e1.trans e2.symm))
      rw [gaUp_ne _ _ ne]; exact d2 j k2 f z
  · rw [gaUp_ne _ _ (fun s => hb (by rw [s, ← hk]; exact List.mem_map.mpr ⟨_, List.mem_of_getElem? q, rfl⟩))]
    exact d3 b (by rw [hk]; exact hb)
theorem aL.no (d : aL h0 h as) {ci n : Nat} {fs : List Value} {c s : Nat} {K : Nat → gaH → Nat → Nat → Prop} (h1 : 1 ≤ c) (h2 : n ≤ s) (k : ∀ o h', aL h0 h' ((o, (ci, fs)) :: as) → K o h' (c - 1) (s - n)) : gNO h ci n fs c s K := gNO_mk h1 h2 (fun o ho => k o _ (d.new ho _))
theorem aL.na (d : aL h0 h as) {t : Nat} {v : Value} {x : Int} {n c s : Nat} {K : Nat → gaH → Nat → Nat → Prop} (hx : x = (n : Int)) (h9 : n ≤ 100000) (h1 : 1 ≤ c) (h2 : n ≤ s) (k : ∀ o h', aL h0 h' ((o, (t, List.replicate n v)) :: as) → K o h' (c - 1) (s - n)) : gNA h t v x c s K := gNA_mk hx h9 h1 h2 (fun o ho => k o _ (d.new ho _))
theorem aL.at (d : aL h0 h as) (i : Nat) {k : Nat} {e : gaE} (q : as[i]? = some (k, e)) : h k = some e := d.2.1 i k e q
theorem aL.pf (d : aL h0 h as) (i : Nat) {ci f : Nat} {fs : List Value} {v : Value} {K : gaH → Prop} (q : as[i]? = some (a, (ci, fs))) (hf : f < fs.length) (k : ∀ h', aL h0 h' (as.set i (a, (ci, fs.set f v))) → K h') : gPF h a ci f v K := gPF_mk (d.at i q) hf (k _ (d.set i q _))
theorem aL.si (d : aL h0 h as) (i : Nat) {t n : Nat} {vs : List Value} {x : Int} {v : Value} {K : gaH → Prop} (q : as[i]? = some (a, (t, vs))) (hx : x = (n : Int)) (h9 : n ≤ 100000) (hf : n < vs.length) (k : ∀ h', aL h0 h' (as.set i (a, (t, vs.set n v))) → K h') : gSI h a t x v K := by
  subst hx
  exact gSI_mk (d.at i q) (by omega) (by omega) (by rw [Int.toNat_natCast]; exact hf) (by rw [Int.toNat_natCast]; exact k _ (d.set i q _))
theorem aL.ga (d : aL h0 h as) (i : Nat) {ci f x : Nat} {fs : List Value} {K : Nat → Prop} (q : as[i]? = some (a, (ci, fs))) (hv : fs[f]? = some (.ref x)) (k : K x) : gA h a ci f K := gA_mk (d.at i q) hv k
theorem aL.gi (d : aL h0 h as) (i : Nat) {ci f : Nat} {x : Int} {fs : List Value} {K : Int → Prop} (q : as[i]? = some (a, (ci, fs))) (hv : fs[f]? = some (Value.int (Int32.ofInt x))) (k : K x) : gI h a ci f K := gI_mk (d.at i q) hv k
theorem aL.al (d : aL h0 h as) (i : Nat) {t : Nat} {x : Int} {vs : List Value} {K : Int → Prop} (q : as[i]? = some (a, (t, vs))) (hx : (vs.length : Int) = x) (k : K x) : gAL h a t K := gAL_mk (d.at i q) hx k
theorem aL.has (d : aL h0 h as) (i : Nat) {e : gaE} (q : as[i]? = some (a, e)) : gHas h a e.1 := ⟨e.2, d.at i q⟩
abbrev r64 : List Value := List.replicate 64 (gi 0)
abbrev r64b : List Value := (List.replicate 64 (gi 0)).set 0 (gi 1)
theorem c_wInit (d : aL h0 h as) (i : Nat) {Q : gaH → Prop} (q : as[i]? = some (a, (4, [.null, gi 0]))) (k : ∀ o h', aL h0 h' ((o, (100, r64)) :: as.set i (a, (4, [.ref o, gi 0]))) → Q h') : w_X4_init a h Q := by
  unfold w_X4_init
  refine d.na (n := 64) rfl (by decide) (by decide) (by decide) (fun o h1 d1 => d1.pf (i + 1) (by rw [List.getElem?_cons_succ]; exact q) (lt_rfl rfl) (fun h2 d2 => k o h2 ?_))
  exact d2
theorem c_wClear (d : aL h0 h as) (i : Nat) {Q : gaH → Prop} (q : as[i]? = some (a, (4, [.ref o, gi 0]))) (k : ∀ h', aL h0 h' as → Q h') : w_X4_clear a h Q := by
  unfold w_X4_clear
  refine d.pf i q (lt_rfl rfl) (fun h2 d2 => k h2 ?_)
  have e : as.set i (a, (4, [Value.ref o, gi 0].set 1 (gi 0))) = as := set_self q
  rw [e] at d2; exact d2
theorem c_wAdd (d : aL h0 h as) (i j : Nat) {x : Int} {Q : gaH → Prop} (q : as[i]? = some (a, (4, [.ref o, gi 0]))) (q2 : as[j]? = some (o, (100, r64))) (ne : j ≠ i) (hx : x = 0 ∨ x = 1) (k : ∀ h', aL h0 h' ((as.set j (o, (100, r64.set 0 (gi x)))).set i (a, (4, [.ref o, gi 1]))) → Q h') : w_X4_add a x h Q := by
  unfold w_X4_add
  refine d.gi i (x := 0) q rfl ⟨by decide, if_no (by decide) (d.gi i (x := 0) q rfl (d.ga i q rfl (d.al j (x := 64) q2 rfl ⟨by decide, by decide, if_no (by decide) (d.ga i q rfl (d.gi i (x := 0) q rfl ⟨ga_bool hx, d.si j (n := 0) q2 rfl (by decide) (lt_rfl rfl) (fun h1 d1 => ?_)⟩))⟩)))⟩
  have q3 : (as.set j (o, (100, r64.set 0 (gi x))))[i]? = some (a, (4, [.ref o, gi 0])) := by rw [List.getElem?_set_ne ne]; exact q
  exact d1.gi i (x := 0) q3 rfl (d1.pf i q3 (lt_rfl rfl) (fun h2 d2 => k h2 d2))

theorem c_ruInit {Q : gaH → Prop} (d : aL h0 h ((a, (3, [.null, .null, .null])) :: as)) (k : ∀ o1 o2 o3 o4 o5 h', aL h0 h' ((o5, (100, List.replicate 65 (gi 0))) :: (o4, (100, r64)) :: (o3, (4, [.ref o4, gi 0])) :: (o2, (100, r64)) :: (o1, (4, [.ref o2, gi 0])) :: (a, (3, [.ref o1, .ref o3, .ref o5])) :: as) → Q h') : w_X2_init a h Q := by
  unfold w_X2_init
  refine d.no (by decide) (by decide) (fun o1 h1 d1 => gCall_mk (by decide) (by decide) (c_wInit d1 0 rfl (fun o2 h2 d2 => ?_)))
  refine d2.pf 2 rfl (lt_rfl rfl) (fun h3 d3 => d3.no (by decide) (by decide) (fun o3 h4 d4 => gCall_mk (by decide) (by decide) (c_wInit d4 0 rfl (fun o4 h5 d5 => ?_))))
  exact d5.pf 4 rfl (lt_rfl rfl) (fun h6 d6 => d6.na (n := 65) rfl (by decide) (by decide) (by decide) (fun o5 h7 d7 => d7.pf 5 rfl (lt_rfl rfl) (fun h8 d8 => k o1 o2 o3 o4 o5 h8 d8)))

theorem c_grInit {Q : gaH → Prop} (d : aL h0 h ((a, (2, [.null, gi 0, .null, .null])) :: as)) (k : ∀ o1 o2 o3 o4 o5 h', aL h0 h' ((o5, (100, r64)) :: (o4, (4, [.ref o5, gi 1])) :: (o3, (100, r64b)) :: (o2, (4, [.ref o3, gi 1])) :: (o1, (102, r64)) :: (a, (2, [.ref o1, gi 0, .ref o2, .ref o4])) :: as) → Q h') : w_X0_init a h Q := by
  unfold w_X0_init
  refine d.na (n := 64) rfl (by decide) (by decide) (by decide) (fun o1 h1 d1 => d1.pf 1 rfl (lt_rfl rfl) (fun h2 d2 => d2.no (by decide) (by decide) (fun o2 h3 d3 => gCall_mk (by decide) (by decide) (c_wInit d3 0 rfl (fun o3 h4 d4 => ?_)))))
  refine d4.pf 3 rfl (lt_rfl rfl) (fun h5 d5 => d5.no (by decide) (by decide) (fun o4 h6 d6 => gCall_mk (by decide) (by decide) (c_wInit d6 0 rfl (fun o5 h7 d7 => ?_))))
  refine d7.pf 5 rfl (lt_rfl rfl) (fun h8 d8 => ⟨d8.has 5 rfl, ?_⟩)
  unfold w_X0_begin
  refine d8.pf 5 rfl (lt_rfl rfl) (fun h9 d9 => d9.ga 5 rfl rfl ⟨d9.has 3 rfl, c_wClear d9 3 rfl (fun h10 d10 => d10.ga 5 rfl rfl ⟨d10.has 3 rfl, c_wAdd d10 3 2 rfl rfl (by decide) (Or.inr rfl) (fun h11 d11 => ?_)⟩)⟩)
  refine d11.ga 5 rfl rfl ⟨d11.has 1 rfl, c_wClear d11 1 rfl (fun h12 d12 => d12.ga 5 rfl rfl ⟨d12.has 1 rfl, c_wAdd d12 1 0 rfl rfl (by decide) (Or.inl rfl) (fun h13 d13 => k o1 o2 o3 o4 o5 h13 d13)⟩)⟩

theorem c_init {Q : gaH → Prop} (d : aL h0 h ((a, (5, [.null, .null, .null, .null, .null, gi 0, gi 0, gi 0, gi 0])) :: as)) (k : ∀ p1 p2 p3 p4 p5 p6 p7 p8 p9 p10 p11 p12 p13 p14 p15 p16 p17 p18 p19 p20 p21 p22 p23 p24 p25 p26 p27 p28 p29 p30 h', aL h0 h' ((p30, (100, r64)) :: (p29, (4, [.ref p30, gi 1])) :: (p28, (100, r64b)) :: (p27, (4, [.ref p28, gi 1])) :: (p26, (102, r64)) :: (p25, (2, [.ref p26, gi 0, .ref p27, .ref p29])) :: (p24, (100, r64)) :: (p23, (4, [.ref p24, gi 1])) :: (p22, (100, r64b)) :: (p21, (4, [.ref p22, gi 1])) :: (p20, (102, r64)) :: (p19, (2, [.ref p20, gi 0, .ref p21, .ref p23])) :: (p18, (100, r64)) :: (p17, (4, [.ref p18, gi 0])) :: (p16, (100, r64)) :: (p15, (4, [.ref p16, gi 0])) :: (p14, (100, r64)) :: (p13, (4, [.ref p14, gi 0])) :: (p12, (100, r64)) :: (p11, (4, [.ref p12, gi 0])) :: (p10, (100, r64)) :: (p9, (4, [.ref p10, gi 0])) :: (p8, (100, List.replicate 65 (gi 0))) :: (p7, (100, r64)) :: (p6, (4, [.ref p7, gi 0])) :: (p5, (100, r64)) :: (p4, (4, [.ref p5, gi 0])) :: (p3, (3, [.ref p4, .ref p6, .ref p8])) :: (p2, (111, [.ref p19, .ref p25])) :: (p1, (110, [.ref p13, .ref p15, .ref p17])) :: (a, (5, [.ref p1, .ref p2, .ref p3, .ref p9, .ref p11, gi 0, gi 0, gi 0, gi 0])) :: as) → Q h') : w_X5_init a h Q := by
  unfold w_X5_init
  refine d.na (n := 3) rfl (by decide) (by decide) (by decide) (fun p1 h1 d1 => d1.pf 1 rfl (lt_rfl rfl) (fun h2 d2 => d2.na (n := 2) rfl (by decide) (by decide) (by decide) (fun p2 h3 d3 => d3.pf 2 rfl (lt_rfl rfl) (fun h4 d4 => d4.no (by decide) (by decide) (fun p3 h5 d5 => gCall_mk (by decide) (by decide) (c_ruInit d5 (fun p4 p5 p6 p7 p8 h6 d6 => ?_)))))))
  refine d6.pf 8 rfl (lt_rfl rfl) (fun h7 d7 => d7.no (by decide) (by decide) (fun p9 h8 d8 => gCall_mk (by decide) (by decide) (c_wInit d8 0 rfl (fun p10 h9 d9 => d9.pf 10 rfl (lt_rfl rfl) (fun h10 d10 => d10.no (by decide) (by decide) (fun p11 h11 d11 => gCall_mk (by decide) (by decide) (c_wInit d11 0 rfl (fun p12 h12 d12 => d12.pf 12 rfl (lt_rfl rfl) (fun h13 d13 => ⟨4, ?_⟩)))))))))
  unfold w_X5_init_L55
  refine d13.ga 12 rfl rfl (d13.al 11 (x := 3) rfl rfl ⟨by decide, by decide, if_no (by decide) (d13.ga 12 rfl rfl (d13.no (by decide) (by decide) (fun p13 h14 d14 => gCall_mk (by decide) (by decide) (c_wInit d14 0 rfl (fun p14 h15 d15 => ⟨d15.has 1 rfl, d15.si 13 (n := 0) rfl rfl (by decide) (lt_rfl rfl) (fun h16 d16 => ?_)⟩)))))⟩)
  unfold w_X5_init_L55
  refine d16.ga 14 rfl rfl (d16.al 13 (x := 3) rfl rfl ⟨by decide, by decide, if_no (by decide) (d16.ga 14 rfl rfl (d16.no (by decide) (by decide) (fun p15 h17 d17 => gCall_mk (by decide) (by decide) (c_wInit d17 0 rfl (fun p16 h18 d18 => ⟨d18.has 1 rfl, d18.si 15 (n := 1) rfl rfl (by decide) (lt_rfl rfl) (fun h19 d19 => ?_)⟩)))))⟩)
  unfold w_X5_init_L55
  refine d19.ga 16 rfl rfl (d19.al 15 (x := 3) rfl rfl ⟨by decide, by decide, if_no (by decide) (d19.ga 16 rfl rfl (d19.no (by decide) (by decide) (fun p17 h20 d20 => gCall_mk (by decide) (by decide) (c_wInit d20 0 rfl (fun p18 h21 d21 => ⟨d21.has 1 rfl, d21.si 17 (n := 2) rfl rfl (by decide) (lt_rfl rfl) (fun h22 d22 => ?_)⟩)))))⟩)
  unfold w_X5_init_L55
  refine d22.ga 18 rfl rfl (d22.al 17 (x := 3) rfl rfl ⟨by decide, by decide, if_yes (by decide) ⟨3, ?_⟩⟩)
  unfold w_X5_init_L85
  refine d22.ga 18 rfl rfl (d22.al 16 (x := 2) rfl rfl ⟨by decide, by decide, if_no (by decide) (d22.ga 18 rfl rfl (d22.no (by decide) (by decide) (fun p19 h23 d23 => gCall_mk (by decide) (by decide) (c_grInit d23 (fun p20 p21 p22 p23 p24 h24 d24 => ⟨d24.has 5 rfl, d24.si 22 (n := 0) rfl rfl (by decide) (lt_rfl rfl) (fun h25 d25 => ?_)⟩)))))⟩)
  unfold w_X5_init_L85
  refine d25.ga 24 rfl rfl (d25.al 22 (x := 2) rfl rfl ⟨by decide, by decide, if_no (by decide) (d25.ga 24 rfl rfl (d25.no (by decide) (by decide) (fun p25 h26 d26 => gCall_mk (by decide) (by decide) (c_grInit d26 (fun p26 p27 p28 p29 p30 h27 d27 => ⟨d27.has 5 rfl, d27.si 28 (n := 1) rfl rfl (by decide) (lt_rfl rfl) (fun h28 d28 => ?_)⟩)))))⟩)
  unfold w_X5_init_L85
  exact d28.ga 30 rfl rfl (d28.al 28 (x := 2) rfl rfl ⟨by decide, by decide, if_yes (by decide) (k p1 p2 p3 p4 p5 p6 p7 p8 p9 p10 p11 p12 p13 p14 p15 p16 p17 p18 p19 p20 p21 p22 p23 p24 p25 p26 p27 p28 p29 p30 h28 d28)⟩)

end AL

/-! What stands at the loop's start. -/
abbrev st0 : GSt := (fun _ => [], fun _ => [], fun _ => 0)
abbrev pA : List Nat := [17, 15, 13, 21, 19, 9, 7, 3, 1, 26, 24, 16, 14, 12, 20, 18, 8, 6, 2, 0, 25, 23, 30, 29, 28, 27, 11, 5, 10, 4, 22]
abbrev pB : List Nat := [9, 8, 4, 1, 3, 2]
abbrev pS : List Nat := [7, 6, 5]
abbrev ky (as : List (Nat × gaE)) (i : Nat) : Nat := (as.map Prod.fst).getD i 0
theorem ky_inj {h0 h : gaH} {as : List (Nat × gaE)} (d : aL h0 h as) {i j : Nat} (hi : i < as.length) (hj : j < as.length) (e : ky as i = ky as j) : i = j := by
  unfold ky at e
  have l1 : i < (as.map Prod.fst).length := by simpa using hi
  have l2 : j < (as.map Prod.fst).length := by simpa using hj
  rw [List.getD_eq_getElem?_getD, List.getD_eq_getElem?_getD, List.getElem?_eq_getElem l1, List.getElem?_eq_getElem l2] at e
  exact (List.getElem?_inj l1 d.1).mp (by rw [List.getElem?_eq_getElem l1, List.getElem?_eq_getElem l2]; exact congrArg some e)
theorem ky_none {h0 h : gaH} {as : List (Nat × gaE)} (d : aL h0 h as) {i : Nat} (hi : i < as.length) : h0 (ky as i) = none := by
  refine d.2.2.2 _ ?_
  unfold ky
  have l1 : i < (as.map Prod.fst).length := by simpa using hi
  rw [List.getD_eq_getElem?_getD, List.getElem?_eq_getElem l1]
  exact List.getElem_mem l1
theorem ky_off {h0 h : gaH} {as : List (Nat × gaE)} (d : aL h0 h as) {b : Nat} {e : gaE} (q : h0 b = some e) : h b = some e := (d.2.2.1 b (fun z => by rw [d.2.2.2 b z] at q; cases q)).trans q
theorem ky_ex {h0 h : gaH} {as : List (Nat × gaE)} (d : aL h0 h as) {i : Nat} (hi : i < as.length) : ∃ e, h (ky as i) = some e := by
  have e1 : as[i]? = some (as[i].1, as[i].2) := by rw [List.getElem?_eq_getElem hi]
  refine ⟨as[i].2, ?_⟩
  have := d.at i e1
  unfold ky
  rw [List.getD_eq_getElem?_getD, List.getElem?_map, e1]
  exact this

abbrev asF (a p1 p2 p3 p4 p5 p6 p7 p8 p9 p10 p11 p12 p13 p14 p15 p16 p17 p18 p19 p20 p21 p22 p23 p24 p25 p26 p27 p28 p29 p30 : Nat) : List (Nat × gaE) := (p30, (100, r64)) :: (p29, (4, [.ref p30, gi 1])) :: (p28, (100, r64b)) :: (p27, (4, [.ref p28, gi 1])) :: (p26, (102, r64)) :: (p25, (2, [.ref p26, gi 0, .ref p27, .ref p29])) :: (p24, (100, r64)) :: (p23, (4, [.ref p24, gi 1])) :: (p22, (100, r64b)) :: (p21, (4, [.ref p22, gi 1])) :: (p20, (102, r64)) :: (p19, (2, [.ref p20, gi 0, .ref p21, .ref p23])) :: (p18, (100, r64)) :: (p17, (4, [.ref p18, gi 0])) :: (p16, (100, r64)) :: (p15, (4, [.ref p16, gi 0])) :: (p14, (100, r64)) :: (p13, (4, [.ref p14, gi 0])) :: (p12, (100, r64)) :: (p11, (4, [.ref p12, gi 0])) :: (p10, (100, r64)) :: (p9, (4, [.ref p10, gi 0])) :: (p8, (100, List.replicate 65 (gi 0))) :: (p7, (100, r64)) :: (p6, (4, [.ref p7, gi 0])) :: (p5, (100, r64)) :: (p4, (4, [.ref p5, gi 0])) :: (p3, (3, [.ref p4, .ref p6, .ref p8])) :: (p2, (111, [.ref p19, .ref p25])) :: (p1, (110, [.ref p13, .ref p15, .ref p17])) :: (a, (5, [.ref p1, .ref p2, .ref p3, .ref p9, .ref p11, gi 0, gi 0, gi 0, gi 0])) :: []
section ST
variable {h0 h : gaH} {a p1 p2 p3 p4 p5 p6 p7 p8 p9 p10 p11 p12 p13 p14 p15 p16 p17 p18 p19 p20 p21 p22 p23 p24 p25 p26 p27 p28 p29 p30 : Nat} {G : gaG}
theorem st_len : (asF a p1 p2 p3 p4 p5 p6 p7 p8 p9 p10 p11 p12 p13 p14 p15 p16 p17 p18 p19 p20 p21 p22 p23 p24 p25 p26 p27 p28 p29 p30).length = 31 := rfl
theorem st_W (d : aL h0 h (asF a p1 p2 p3 p4 p5 p6 p7 p8 p9 p10 p11 p12 p13 p14 p15 p16 p17 p18 p19 p20 p21 p22 p23 p24 p25 p26 p27 p28 p29 p30)) (A : Nat → Nat) (eA : A = fun i => ky (asF a p1 p2 p3 p4 p5 p6 p7 p8 p9 p10 p11 p12 p13 p14 p15 p16 p17 p18 p19 p20 p21 p22 p23 p24 p25 p26 p27 p28 p29 p30) (pA.getD i 0)) : gW A h (fun w => if w = 5 ∨ w = 7 then [true] else if w = 6 ∨ w = 8 then [false] else []) := by
  subst eA
  refine ⟨fun w => if w = 5 ∨ w = 7 then true :: List.replicate 63 false else List.replicate 64 false, fun w => if 5 ≤ w ∧ w ≤ 8 then 1 else 0, ⟨fun i j hi hj e => ?_, fun w hw => ?_, List.replicate 65 false, by decide, d.at 22 rfl⟩, fun w hw => ?_⟩
  · have e2 := ky_inj d (show pA.getD i 0 < 31 from (by decide +kernel : ∀ i, i < 31 → pA.getD i 0 < 31) i hi) (show pA.getD j 0 < 31 from (by decide +kernel : ∀ i, i < 31 → pA.getD i 0 < 31) j hj) e
    exact (by decide +kernel : ∀ i, i < 31 → ∀ j, j < 31 → pA.getD i 0 = pA.getD j 0 → i = j) i hi j hj e2
  · match w, hw with

    | 0, _ => exact ⟨rfl, by decide, d.at 17 rfl, d.at 16 rfl⟩
    | 1, _ => exact ⟨rfl, by decide, d.at 15 rfl, d.at 14 rfl⟩
    | 2, _ => exact ⟨rfl, by decide, d.at 13 rfl, d.at 12 rfl⟩
    | 3, _ => exact ⟨rfl, by decide, d.at 21 rfl, d.at 20 rfl⟩
    | 4, _ => exact ⟨rfl, by decide, d.at 19 rfl, d.at 18 rfl⟩
    | 5, _ => exact ⟨rfl, by decide, d.at 9 rfl, d.at 8 rfl⟩
    | 6, _ => exact ⟨rfl, by decide, d.at 7 rfl, d.at 6 rfl⟩
    | 7, _ => exact ⟨rfl, by decide, d.at 3 rfl, d.at 2 rfl⟩
    | 8, _ => exact ⟨rfl, by decide, d.at 1 rfl, d.at 0 rfl⟩
    | 9, _ => exact ⟨rfl, by decide, d.at 26 rfl, d.at 25 rfl⟩
    | 10, _ => exact ⟨rfl, by decide, d.at 24 rfl, d.at 23 rfl⟩
    | n + 11, hw => omega
  · match w, hw with

    | 0, _ => rfl
    | 1, _ => rfl
    | 2, _ => rfl
    | 3, _ => rfl
    | 4, _ => rfl
    | 5, _ => rfl
    | 6, _ => rfl
    | 7, _ => rfl
    | 8, _ => rfl
    | 9, _ => rfl
    | 10, _ => rfl
    | n + 11, hw => omega
theorem st_D (d : aL h0 h (asF a p1 p2 p3 p4 p5 p6 p7 p8 p9 p10 p11 p12 p13 p14 p15 p16 p17 p18 p19 p20 p21 p22 p23 p24 p25 p26 p27 p28 p29 p30)) (A : Nat → Nat) (eA : A = fun i => ky (asF a p1 p2 p3 p4 p5 p6 p7 p8 p9 p10 p11 p12 p13 p14 p15 p16 p17 p18 p19 p20 p21 p22 p23 p24 p25 p26 p27 p28 p29 p30) (pA.getD i 0)) (m2 : h0 (G.2.2.2 0) = some (1102, gaCodes)) : gD A G h (fun w => if w = 5 ∨ w = 7 then [true] else if w = 6 ∨ w = 8 then [false] else []) st0 := by
  have W := st_W d A eA
  have hn : ∀ i, i < 31 → G.2.2.2 0 ≠ A i := fun i hi q => by
    have := ky_none d (show pA.getD i 0 < 31 from (by decide +kernel : ∀ i, i < 31 → pA.getD i 0 < 31) i hi)
    subst eA
    rw [q] at m2
    rw [this] at m2
    cases m2
  subst eA
  refine ⟨W, d.at 27 rfl, ⟨d.at 30 rfl, d.at 29 rfl, d.at 28 rfl⟩, fun g hg => ?_, fun g hg => ⟨fun t ht => absurd ht List.not_mem_nil, (by decide : (grw []).2.length ≤ 64)⟩, fun g hg => ?_, fun w hw => ?_, ky_off d m2, hn⟩
  · rcases (show g = 0 ∨ g = 1 by omega) with rfl | rfl
    · exact ⟨d.at 11 rfl, List.replicate 64 0, by decide, by decide, d.at 10 rfl, fun i hi => absurd hi (Nat.not_lt_zero _)⟩
    · exact ⟨d.at 5 rfl, List.replicate 64 0, by decide, by decide, d.at 4 rfl, fun i hi => absurd hi (Nat.not_lt_zero _)⟩
  · rcases (show g = 0 ∨ g = 1 by omega) with rfl | rfl <;> exact ⟨rfl, rfl⟩
  · rcases (show w = 0 ∨ w = 1 ∨ w = 2 by omega) with rfl | rfl | rfl <;> rfl
end ST
