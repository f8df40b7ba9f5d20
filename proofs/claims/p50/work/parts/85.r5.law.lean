/-! The law: four rounds, then that nothing was moved by asking. -/
section LW
variable {A : Nat → Nat} {G : gaG} {b L : Nat} {xs : Nat → Int32}
theorem rows_sound {ts : List Nat} (h : ts ∈ rowsA) : soundB ts = true := by
  unfold soundB
  rw [decide_eq_true (rows_roads ts h), decide_eq_true (rows_cross ts h), decide_eq_true (rows_alike ts h)]
  rfl
theorem g_L88 {st : GSt} (h0 : st.T 0 ∈ rowsA) (h1 : st.T 1 ∈ rowsA) : ∀ (n c i : Nat) (h : gaH) (U : Nat → List Bool) (kc ks : Nat), gD A G h U st → i + c = 3 → c < n → 96 + 4 * c ≤ kc → 576 + 24 * c ≤ ks → w_L_law_L88 G n (A 22) (dGa st) (i : Int) h kc ks
  | 0, _, _, _, _, _, _, _, _, hn, _, _ => absurd hn (Nat.not_lt_zero _)
  | n + 1, c, i, h, U, kc, ks, d, hi, hn, hc, hs => by
    unfold w_L_law_L88
    refine ⟨gR_of (by omega) (by omega), ?_⟩
    by_cases q : 3 ≤ (i : Int)
    · refine if_yes q ⟨d.has, gCall_mk (by omega) (by omega) (c_isSound (E := []) d (gRes.mk (fun h2 U2 r d2 f2 hr => ?_)))⟩
      rw [rows_sound h0, rows_sound h1] at hr
      have hr : r = 1 := hr
      rw [hr]
      refine ⟨by decide, if_no (by decide) ⟨d2.has, gCall_mk (by omega) (by omega) (x_digest d2 (fun h3 U3 d3 f3 => ?_))⟩⟩
      exact ⟨gCmp_R _ _, if_yes (gCmp_self _) trivial⟩
    · obtain ⟨c, rfl⟩ : ∃ e, c = e + 1 := ⟨c - 1, by omega⟩
      have hw : i < 3 := by omega
      have le := d.w.le (show i < 11 by omega)
      rw [d.s i hw] at le
      have ml := mirrors_le le
      have fl := folds_le (st.S i)
      have ok : okS (i : Int) := by omega
      have hR : gR (i : Int) := gR_of (by omega) (by omega)
      refine if_no q ⟨d.has, gCall_mk (by omega) (by omega) (c_mirrors_x d hR ?_)⟩
      rw [m_mirrors_x, if_pos ok, Int.toNat_natCast]
      refine gRes.mk (fun h2 U2 r2 d2 f2 e2 => ⟨d2.has, gCall_mk (by omega) (by omega) (c_length d2 hR ?_)⟩)
      rw [m_length, if_pos ok, Int.toNat_natCast]
      refine gRes.mk (fun h3 U3 r3 d3 f3 e3 => ?_)
      rw [e2, e3]
      refine ⟨gR_of (by omega) (by omega), gR_of (by omega) (by omega), if_no (by omega) ⟨d3.has, gCall_mk (by omega) (by omega) (c_folds_x d3 hR ?_)⟩⟩
      rw [m_folds_x, if_pos ok, Int.toNat_natCast]
      refine gRes.mk (fun h4 U4 r4 d4 f4 e4 => ⟨d4.has, gCall_mk (by omega) (by omega) (c_length d4 hR ?_)⟩)
      rw [m_length, if_pos ok, Int.toNat_natCast]
      refine gRes.mk (fun h5 U5 r5 d5 f5 e5 => ?_)
      rw [e4, e5]
      refine ⟨gR_of (by omega) (by omega), gR_of (by omega) (by omega), if_yes (by omega) ?_⟩
      rw [show (i : Int) + 1 = ((i + 1 : Nat) : Int) by omega]
      exact g_L88 h0 h1 n c (i + 1) h5 U5 _ _ d5 (by omega) (by omega) (by omega) (by omega)
theorem g_L10 (hL : L ≤ 260) : ∀ (n c i : Nat) (h : gaH) (S : Nat → List Bool) (T : Nat → List Nat) (kc ks : Nat), gE A G b ((List.range L).map (fun i => Value.int (xs i))) h S T → T 1 = (T 0).tail → (T 0).length ≤ 5 → i + c = 4 → c < n → 1000 * c + 300 ≤ kc → 6000 * c + 1800 ≤ ks → w_L_law_L10 G n b (A 22) (i : Int) h kc ks
  | 0, _, _, _, _, _, _, _, _, _, _, _, hn, _, _ => absurd hn (Nat.not_lt_zero _)
  | n + 1, c, i, h, S, T, kc, ks, e, h1, h5, hi, hn, hc, hs => by
    have vl : ((List.range L).map (fun i => Value.int (xs i))).length ≤ 260 := by rw [List.length_map, List.length_range]; exact hL
    have vi : ∀ j, j < ((List.range L).map (fun i => Value.int (xs i))).length → ∃ c : Int32, ((List.range L).map (fun i => Value.int (xs i)))[j]? = some (.int c) := fun j hj => by
      rw [List.length_map, List.length_range] at hj
      exact ⟨xs j, by rw [List.getElem?_map, List.getElem?_range hj]; rfl⟩
    unfold w_L_law_L10
    refine ⟨gR_of (by omega) (by omega), ?_⟩
    by_cases q : 4 ≤ (i : Int)
    · have ok := e.ok (show 0 < 2 by decide)
      have r0 := rowsA_in ok h5
      have r1 : T 1 ∈ rowsA := by
        rw [h1]
        exact rowsA_in (gOk_tail ok) (by rw [List.length_tail]; omega)
      have hh := e.has
      obtain ⟨hb, hv, U, C, d⟩ := e
      exact if_yes q ⟨hh, gCall_mk (by omega) (by omega) (x_digest d (fun h2 U2 d2 f2 => ⟨4, g_L88 (st := (S, T, C)) r0 r1 4 3 0 h2 U2 _ _ d2 rfl (by decide) (by omega) (by omega)⟩))⟩
    · obtain ⟨c, rfl⟩ : ∃ e, c = e + 1 := ⟨c - 1, by omega⟩
      refine if_no q (a_cell (i := 2 * i) e.2.1 vl vi (by omega) (by omega) (fun r1 => a_cell (i := 2 * i + 1) e.2.1 vl vi (by omega) (by omega) (fun r2 => gCall_mk (by omega) (by omega) (g_isGrown e (fun h2 S2 T2 e2 t1 t5 => ⟨by decide, if_no (by decide) (a_cell (i := 2 * i + 2) e2.2.1 vl vi (by omega) (by omega) (fun r3 => gCall_mk (by omega) (by omega) (g_isAny e2 (fun h3 S3 e3 => ⟨by decide, if_no (by decide) (gCall_mk (by omega) (by omega) (g_isLine e3 (fun h4 S4 e4 => ⟨by decide, if_no (by decide) ?_⟩)))⟩))))⟩)))))
      rw [show (i : Int) + 1 = ((i + 1 : Nat) : Int) by omega]
      exact g_L10 hL n c (i + 1) h4 S4 T2 _ _ e4 t1 t5 (by omega) (by omega) (by omega) (by omega)
end LW
