/-! The garden between calls: its sheets' words and its growths' turns, and the script beside it. -/
def gE (A : Nat → Nat) (G : gaG) (b : Nat) (vs : List Value) (h : gaH) (S : Nat → List Bool) (T : Nat → List Nat) : Prop := (∀ i, i < 31 → b ≠ A i) ∧ h b = some (1102, vs) ∧ ∃ (U : Nat → List Bool) (C : Nat → Int), gD A G h U (S, T, C)
theorem gAnd_max (x : Int) : ∃ m : Nat, m < 2147483648 ∧ gAnd x 2147483647 = (m : Int) := by
  have hb : ((Int32.ofInt x &&& Int32.ofInt 2147483647).toBitVec).toNat ≤ 2147483647 := by
    show ((Int32.ofInt x).toBitVec &&& (Int32.ofInt 2147483647).toBitVec).toNat ≤ 2147483647
    rw [BitVec.toNat_and]
    exact Nat.le_trans Nat.and_le_right (by decide)
  refine ⟨((Int32.ofInt x &&& Int32.ofInt 2147483647).toBitVec).toNat, by omega, ?_⟩
  exact BitVec.toInt_eq_toNat_of_lt (by omega)
section AE
variable {A : Nat → Nat} {G : gaG} {h : gaH} {b : Nat} {vs : List Value} {S : Nat → List Bool} {T : Nat → List Nat} {X : String → gaH → Prop} {Q : Int → gaH → Prop} {w v g : Nat} {x y z t : Int}
theorem a_below {n : Nat} (hn : 1 ≤ n) (h9 : n ≤ 1000) (hx : y = (n : Int)) (k : ∀ r : Nat, r < n → Q (r : Int) h) : w_L_below x y h Q := by
  subst hx
  obtain ⟨m, m1, m2⟩ := gAnd_max x
  refine ⟨gR_of (by omega) (by omega), by omega, ?_⟩
  rw [m2, gRem_nat m1 (by omega)]
  exact k _ (Nat.mod_lt _ (by omega))
theorem a_cell {b : Nat} {xs : List Value} {i : Nat} (hv : h b = some (1102, xs)) (hl : xs.length ≤ 260) (hs : ∀ j, j < xs.length → ∃ c : Int32, xs[j]? = some (.int c)) (hi : i ≤ 20) (hx : x = (i : Int)) (k : ∀ r : Int, Q r h) : w_L_cell b x h Q := by
  subst hx
  refine ⟨1102, _, hv, Or.inr rfl, gR_of (by omega) (by omega), gR_of (by omega) (by omega), ?_⟩
  by_cases q : xs.length ≤ i
  · exact if_yes (by omega) (k _)
  · obtain ⟨c, hc⟩ := hs i (by omega)
    refine if_no (by omega) ⟨1102, _, c.toInt, hv, Or.inr rfl, by omega, by omega, ?_, k _⟩
    rw [Int.toNat_natCast, hc]
    show _ = some (Value.int (Int32.ofInt c.toInt))
    rw [Int32.ofInt_toInt]
theorem gE.has (e : gE A G b vs h S T) : gHas h (A 22) 5 := by
  obtain ⟨-, -, U, C, d⟩ := e
  exact d.has
theorem gE.le (e : gE A G b vs h S T) (hw : w < 3) : (S w).length ≤ 64 := by
  obtain ⟨-, -, U, C, d⟩ := e
  have := d.w.le (show w < 11 by omega)
  rw [d.s w hw] at this
  exact this
theorem gE.ok (e : gE A G b vs h S T) (hg : g < 2) : gOk (T g) := by
  obtain ⟨-, -, U, C, d⟩ := e
  exact d.ok g hg
theorem a_fresh (e : gE A G b vs h S T) (hg : g < 2) (hx : x = (g : Int)) (k : ∀ h' r, gE A G b vs h' S (pu T g []) → Q r h') : w_X5_fresh X (A 22) x h Q := by
  obtain ⟨hb, hv, U, C, d⟩ := e
  subst hx
  refine c_fresh d (gR_of (by omega) (by omega)) ?_
  rw [m_fresh, if_pos (show okG (g : Int) by omega), Int.toNat_natCast]
  exact gRes.mk (fun h' U' r d' f hr => k h' r ⟨hb, f b _ hb hv, U', _, d'⟩)
theorem a_grow (e : gE A G b vs h S T) (hg : g < 2) {n : Nat} (hn : 1 ≤ n ∧ n ≤ 3) (hx : x = (g : Int)) (hy : y = (n : Int)) (k1 : n * (grw (T g)).2.length + (grw (T g)).1.length ≤ 64 → ∀ h', gE A G b vs h' S (pu T g (T g ++ [n])) → Q ((grw (T g ++ [n])).2.length : Int) h') (k2 : ¬ n * (grw (T g)).2.length + (grw (T g)).1.length ≤ 64 → ∀ h', gE A G b vs h' S T → Q (-9) h') : w_X5_grow X (A 22) x y h Q := by
  obtain ⟨hb, hv, U, C, d⟩ := e
  subst hx; subst hy
  refine c_grow d (gR_of (by omega) (by omega)) (gR_of (by omega) (by omega)) ?_
  rw [m_grow, if_pos (show okG (g : Int) by omega), if_pos (show 1 ≤ (n : Int) ∧ (n : Int) ≤ 3 by omega), Int.toNat_natCast, Int.toNat_natCast]
  by_cases q : n * (grw (T g)).2.length + (grw (T g)).1.length ≤ 64
  · rw [if_pos q]
    exact gRes.mk (fun h' U' r d' f hr => by rw [hr]; exact k1 q h' ⟨hb, f b _ hb hv, U', _, d'⟩)
  · rw [if_neg q]
    exact gRes.mk (fun h' U' r d' f hr => by rw [hr]; exact k2 q h' ⟨hb, f b _ hb hv, U', _, d'⟩)
theorem a_size (e : gE A G b vs h S T) (hg : g < 2) {c : Bool} (hx : x = (g : Int)) (hy : y = b2i c) (k : ∀ h', gE A G b vs h' S T → Q ((gWd (T g) c).length : Int) h') : w_X5_size X (A 22) x y h Q := by
  obtain ⟨hb, hv, U, C, d⟩ := e
  subst hx
  refine c_size d (gR_of (by omega) (by omega)) hy ?_
  rw [m_size, if_pos (show okG (g : Int) by omega), Int.toNat_natCast]
  exact gRes.mk (fun h' U' r d' f hr => by rw [hr]; exact k h' ⟨hb, f b _ hb hv, U', _, d'⟩)
theorem a_ups (e : gE A G b vs h S T) (hg : g < 2) {c : Bool} (hx : x = (g : Int)) (hy : y = b2i c) (k : ∀ h', gE A G b vs h' S T → Q (ones (gWd (T g) c) : Int) h') : w_X5_ups X (A 22) x y h Q := by
  obtain ⟨hb, hv, U, C, d⟩ := e
  subst hx
  refine c_ups d (gR_of (by omega) (by omega)) hy ?_
  rw [m_ups, if_pos (show okG (g : Int) by omega), Int.toNat_natCast]
  exact gRes.mk (fun h' U' r d' f hr => by rw [hr]; exact k h' ⟨hb, f b _ hb hv, U', _, d'⟩)
theorem a_cross (e : gE A G b vs h S T) (hg : g < 2) (hx : x = (g : Int)) (k : ∀ h', gE A G b vs h' S T → Q (crossG (T g)) h') : w_X5_cross X (A 22) x h Q := by
  obtain ⟨hb, hv, U, C, d⟩ := e
  subst hx
  refine c_cross d (gR_of (by omega) (by omega)) ?_
  rw [m_cross, if_pos (show okG (g : Int) by omega), Int.toNat_natCast]
  exact gRes.mk (fun h' U' r d' f hr => by rw [hr]; exact k h' ⟨hb, f b _ hb hv, U', _, d'⟩)
theorem a_alike (e : gE A G b vs h S T) (hg : g < 2) (hx : x = (g : Int)) (k : ∀ h', gE A G b vs h' S T → Q (unlike (grw (T g)).2 (grw (T g)).1) h') : w_X5_alike X (A 22) x h Q := by
  obtain ⟨hb, hv, U, C, d⟩ := e
  subst hx
  refine c_alike d (gR_of (by omega) (by omega)) ?_
  rw [m_alike, if_pos (show okG (g : Int) by omega), Int.toNat_natCast]
  exact gRes.mk (fun h' U' r d' f hr => by rw [hr]; exact k h' ⟨hb, f b _ hb hv, U', _, d'⟩)
theorem a_lay (e : gE A G b vs h S T) (hg : g < 2) (hw : w < 3) (hx : x = (g : Int)) (hy : y = (w : Int)) (hz : 0 ≤ z ∧ z ≤ 2) (k : ∀ h', gE A G b vs h' (pu S w (layW (T g) z)) T → Q ((layW (T g) z).length : Int) h') : w_X5_lay G X (A 22) x y z h Q := by
  obtain ⟨hb, hv, U, C, d⟩ := e
  subst hx; subst hy
  refine c_lay d (gR_of (by omega) (by omega)) (gR_of (by omega) (by omega)) (gR_of (by omega) (by omega)) ?_
  rw [m_lay, if_pos (show okG (g : Int) by omega), if_pos (show okS (w : Int) by omega), if_pos hz, Int.toNat_natCast, Int.toNat_natCast]
  exact gRes.mk (fun h' U' r d' f hr => by rw [hr]; exact k h' ⟨hb, f b _ hb hv, U', _, d'⟩)
theorem a_order (e : gE A G b vs h S T) (hw : w < 3) (hv3 : v < 3) (hx : x = (w : Int)) (hy : y = (v : Int)) (k : ∀ h', gE A G b vs h' S T → Q (cmpL (S w) (S v)) h') : w_X5_order X (A 22) x y h Q := by
  obtain ⟨hb, hv, U, C, d⟩ := e
  subst hx; subst hy
  refine c_order d (gR_of (by omega) (by omega)) (gR_of (by omega) (by omega)) ?_
  rw [m_order, if_pos (show okS (w : Int) by omega), if_pos (show okS (v : Int) by omega), Int.toNat_natCast, Int.toNat_natCast]
  exact gRes.mk (fun h' U' r d' f hr => by rw [hr]; exact k h' ⟨hb, f b _ hb hv, U', _, d'⟩)
theorem a_length (e : gE A G b vs h S T) (hw : w < 3) (hx : x = (w : Int)) (k : ∀ h', gE A G b vs h' S T → Q ((S w).length : Int) h') : w_X5_length X (A 22) x h Q := by
  obtain ⟨hb, hv, U, C, d⟩ := e
  subst hx
  refine c_length d (gR_of (by omega) (by omega)) ?_
  rw [m_length, if_pos (show okS (w : Int) by omega), Int.toNat_natCast]
  exact gRes.mk (fun h' U' r d' f hr => by rw [hr]; exact k h' ⟨hb, f b _ hb hv, U', _, d'⟩)
theorem a_folds (e : gE A G b vs h S T) (hw : w < 3) (hx : x = (w : Int)) (k : ∀ h', gE A G b vs h' S T → Q ((sm (flF (S w)) (S w).length : Nat) : Int) h') : w_X5_folds X (A 22) x h Q := by
  obtain ⟨hb, hv, U, C, d⟩ := e
  subst hx
  refine c_folds_x d (gR_of (by omega) (by omega)) ?_
  rw [m_folds_x, if_pos (show okS (w : Int) by omega), Int.toNat_natCast]
  exact gRes.mk (fun h' U' r d' f hr => by rw [hr]; exact k h' ⟨hb, f b _ hb hv, U', _, d'⟩)
theorem a_mirrors (e : gE A G b vs h S T) (hw : w < 3) (hx : x = (w : Int)) (k : ∀ h', gE A G b vs h' S T → Q ((sm (fun a => sm (mrF (S w) a) 66) (S w).length : Nat) : Int) h') : w_X5_mirrors X (A 22) x h Q := by
  obtain ⟨hb, hv, U, C, d⟩ := e
  subst hx
  refine c_mirrors_x d (gR_of (by omega) (by omega)) ?_
  rw [m_mirrors_x, if_pos (show okS (w : Int) by omega), Int.toNat_natCast]
  exact gRes.mk (fun h' U' r d' f hr => by rw [hr]; exact k h' ⟨hb, f b _ hb hv, U', _, d'⟩)
theorem a_overlaps (e : gE A G b vs h S T) (hw : w < 3) (hx : x = (w : Int)) (k : ∀ h', gE A G b vs h' S T → Q ((sm (fun p => sm (ovF (S w) p) 66) 66 : Nat) : Int) h') : w_X5_overlaps X (A 22) x h Q := by
  obtain ⟨hb, hv, U, C, d⟩ := e
  subst hx
  refine c_overlaps_x d (gR_of (by omega) (by omega)) ?_
  rw [m_overlaps_x, if_pos (show okS (w : Int) by omega), Int.toNat_natCast]
  exact gRes.mk (fun h' U' r d' f hr => by rw [hr]; exact k h' ⟨hb, f b _ hb hv, U', _, d'⟩)
theorem a_least (e : gE A G b vs h S T) (hw : w < 3) (hx : x = (w : Int)) (k : ∀ h', gE A G b vs h' S T → Q ((lst (S w) (S w).length : Nat) : Int) h') : w_X5_least X (A 22) x h Q := by
  obtain ⟨hb, hv, U, C, d⟩ := e
  subst hx
  refine c_least_x d (gR_of (by omega) (by omega)) ?_
  rw [m_least_x, if_pos (show okS (w : Int) by omega), Int.toNat_natCast]
  exact gRes.mk (fun h' U' r d' f hr => by rw [hr]; exact k h' ⟨hb, f b _ hb hv, U', _, d'⟩)
theorem a_times (e : gE A G b vs h S T) (hw : w < 3) (hx : x = (w : Int)) (k : ∀ h' r, gE A G b vs h' S T → isT (S w) r → Q r h') : w_X5_times X (A 22) x h Q := by
  obtain ⟨hb, hv, U, C, d⟩ := e
  subst hx
  refine c_times_x d (gR_of (by omega) (by omega)) ?_
  rw [m_times_x, if_pos (show okS (w : Int) by omega), Int.toNat_natCast]
  exact gRes.mk (fun h' U' r d' f hr => k h' r ⟨hb, f b _ hb hv, U', _, d'⟩ hr)
theorem a_isMirrored (e : gE A G b vs h S T) (hw : w < 3) (hx : x = (w : Int)) (k : ∀ h', gE A G b vs h' S T → Q (b2i (mir (S w) 0 (S w).length)) h') : w_X5_isMirrored X (A 22) x h Q := by
  obtain ⟨hb, hv, U, C, d⟩ := e
  subst hx
  refine c_isMirrored_x d (gR_of (by omega) (by omega)) ?_
  rw [m_isMirrored_x, if_pos (show okS (w : Int) by omega), Int.toNat_natCast]
  exact gRes.mk (fun h' U' r d' f hr => by rw [hr]; exact k h' ⟨hb, f b _ hb hv, U', _, d'⟩)
theorem a_spread (e : gE A G b vs h S T) (hw : w < 3) {l : Nat} (hl : l ≤ (S w).length) {c : Bool} (hx : x = (w : Int)) (hy : y = (l : Int)) (hz : z = b2i c) (k : ∀ h', gE A G b vs h' S T → Q (sprV (S w) l (begins (S w).length l c)) h') : w_X5_spread X (A 22) x y z h Q := by
  have hle := e.le hw
  obtain ⟨hb, hv, U, C, d⟩ := e
  subst hx; subst hy
  refine c_spread_x d (gR_of (by omega) (by omega)) (gR_of (by omega) (by omega)) hz ?_
  rw [m_spread_x, if_pos (show okS (w : Int) by omega), Int.toNat_natCast, Int.toNat_natCast, if_pos (show 0 ≤ (l : Int) ∧ (l : Int) ≤ ((S w).length : Int) by omega)]
  exact gRes.mk (fun h' U' r d' f hr => by rw [hr]; exact k h' ⟨hb, f b _ hb hv, U', _, d'⟩)
theorem a_kinds (e : gE A G b vs h S T) (hw : w < 3) {l : Nat} (hl : l ≤ (S w).length) {c : Bool} (hx : x = (w : Int)) (hy : y = (l : Int)) (hz : z = b2i c) (k : ∀ h', gE A G b vs h' S T → Q ((sm (kdF (S w) l) (begins (S w).length l c) : Nat) : Int) h') : w_X5_kinds X (A 22) x y z h Q := by
  have hle := e.le hw
  obtain ⟨hb, hv, U, C, d⟩ := e
  subst hx; subst hy
  refine c_kinds_x d (gR_of (by omega) (by omega)) (gR_of (by omega) (by omega)) hz ?_
  rw [m_kinds_x, if_pos (show okS (w : Int) by omega), Int.toNat_natCast, Int.toNat_natCast, if_pos (show 0 ≤ (l : Int) ∧ (l : Int) ≤ ((S w).length : Int) by omega)]
  exact gRes.mk (fun h' U' r d' f hr => by rw [hr]; exact k h' ⟨hb, f b _ hb hv, U', _, d'⟩)
theorem a_rotate (e : gE A G b vs h S T) (hw : w < 3) {l : Nat} (hl : l ≤ (S w).length) (hx : x = (w : Int)) (hy : y = (l : Int)) (k : ∀ h' r, gE A G b vs h' (pu S w ((S w).drop l ++ (S w).take l)) T → Q r h') : w_X5_rotate X (A 22) x y h Q := by
  have hle := e.le hw
  obtain ⟨hb, hv, U, C, d⟩ := e
  subst hx; subst hy
  refine c_rotate d (gR_of (by omega) (by omega)) (gR_of (by omega) (by omega)) ?_
  rw [m_rotate, if_pos (show okS (w : Int) by omega), Int.toNat_natCast, Int.toNat_natCast, if_pos (show 0 ≤ (l : Int) ∧ (l : Int) ≤ ((S w).length : Int) by omega)]
  exact gRes.mk (fun h' U' r d' f hr => k h' r ⟨hb, f b _ hb hv, U', _, d'⟩)
theorem a_line (e : gE A G b vs h S T) (hw : w < 3) {n p s : Nat} (hn : 1 ≤ n ∧ n ≤ 64) (hp : p ≤ n) (hs : s < n) {y1 y2 y3 : Int} (hx : x = (w : Int)) (h1 : y1 = (n : Int)) (h2 : y2 = (p : Int)) (h3 : y3 = (s : Int)) (k : ∀ h' r, gE A G b vs h' (pu S w (lineW n p s)) T → Q r h') : w_X5_line X (A 22) x y1 y2 y3 h Q := by
  obtain ⟨hb, hv, U, C, d⟩ := e
  subst hx; subst h1; subst h2; subst h3
  refine c_line d (gR_of (by omega) (by omega)) (gR_of (by omega) (by omega)) (gR_of (by omega) (by omega)) (gR_of (by omega) (by omega)) ?_
  rw [m_line, if_pos (show okS (w : Int) by omega), if_pos (show 1 ≤ (n : Int) ∧ (n : Int) ≤ 64 by omega), if_pos (show 0 ≤ (p : Int) ∧ (p : Int) ≤ (n : Int) by omega), if_pos (show 0 ≤ (s : Int) ∧ (s : Int) < (n : Int) by omega), Int.toNat_natCast, Int.toNat_natCast, Int.toNat_natCast, Int.toNat_natCast]
  exact gRes.mk (fun h' U' r d' f hr => k h' r ⟨hb, f b _ hb hv, U', _, d'⟩)
theorem a_isB (e : gE A G b vs h S T) (hw : w < 3) {l : Nat} (hl : l < (S w).length) (hx : x = (w : Int)) (hy : y = (l : Int)) (k : ∀ h', gE A G b vs h' S T → Q (b2i ((S w).getD l false)) h') : w_X5_isB X (A 22) x y h Q := by
  have hle := e.le hw
  obtain ⟨hb, hv, U, C, d⟩ := e
  subst hx; subst hy
  refine c_isB d (gR_of (by omega) (by omega)) (gR_of (by omega) (by omega)) ?_
  rw [m_isB, if_pos (show okS (w : Int) by omega), Int.toNat_natCast, Int.toNat_natCast, if_pos (show 0 ≤ (l : Int) ∧ (l : Int) < ((S w).length : Int) by omega)]
  exact gRes.mk (fun h' U' r d' f hr => by rw [hr]; exact k h' ⟨hb, f b _ hb hv, U', _, d'⟩)
theorem a_setSign (e : gE A G b vs h S T) (hw : w < 3) {l : Nat} (hl : l < (S w).length) {c : Bool} (hx : x = (w : Int)) (hy : y = (l : Int)) (hz : z = b2i c) (k : ∀ h' r, gE A G b vs h' (pu S w ((S w).set l c)) T → Q r h') : w_X5_setSign X (A 22) x y z h Q := by
  have hle := e.le hw
  obtain ⟨hb, hv, U, C, d⟩ := e
  subst hx; subst hy
  refine c_setSign d (gR_of (by omega) (by omega)) (gR_of (by omega) (by omega)) hz ?_
  rw [m_setSign, if_pos (show okS (w : Int) by omega), Int.toNat_natCast, Int.toNat_natCast, if_pos (show 0 ≤ (l : Int) ∧ (l : Int) < ((S w).length : Int) by omega)]
  exact gRes.mk (fun h' U' r d' f hr => k h' r ⟨hb, f b _ hb hv, U', _, d'⟩)
theorem a_cutTo (e : gE A G b vs h S T) (hw : w < 3) {l : Nat} (hl : l ≤ 64) (hx : x = (w : Int)) (hy : y = (l : Int)) (k : ∀ h' r, gE A G b vs h' (pu S w ((S w).take l ++ List.replicate (l - (S w).length) false)) T → Q r h') : w_X5_cutTo X (A 22) x y h Q := by
  obtain ⟨hb, hv, U, C, d⟩ := e
  subst hx; subst hy
  refine c_cutTo d (gR_of (by omega) (by omega)) (gR_of (by omega) (by omega)) ?_
  rw [m_cutTo, if_pos (show okS (w : Int) by omega), if_pos (show 0 ≤ (l : Int) ∧ (l : Int) ≤ 64 by omega), Int.toNat_natCast, Int.toNat_natCast]
  exact gRes.mk (fun h' U' r d' f hr => k h' r ⟨hb, f b _ hb hv, U', _, d'⟩)
theorem a_undo (e : gE A G b vs h S T) (hw : w < 3) {p q : Nat} (hp : 2 ≤ p ∧ p ≤ 31) (hq : 2 ≤ q ∧ q ≤ 31) (ha : unlike (codeW p) (codeW q) ≠ -1) (ho : okR (codeW p) (codeW q) (S w) 0 = true) (hx : x = (w : Int)) (hy : y = (p : Int)) (hz : z = (q : Int)) (k : ∀ h', gE A G b vs h' (pu S w (walkR (codeW p) (codeW q) (S w) 0)) T → Q ((walkR (codeW p) (codeW q) (S w) 0).length : Int) h') : w_X5_undo X (A 22) x y z h Q := by
  obtain ⟨hb, hv, U, C, d⟩ := e
  subst hx; subst hy; subst hz
  refine c_undo d (gR_of (by omega) (by omega)) (gR_of (by omega) (by omega)) (gR_of (by omega) (by omega)) ?_
  rw [m_undo, if_pos (show okS (w : Int) by omega), if_pos (show okP (p : Int) (q : Int) from ⟨by omega, by omega⟩), Int.toNat_natCast, Int.toNat_natCast, Int.toNat_natCast, if_pos ha, if_pos ho]
  exact gRes.mk (fun h' U' r d' f hr => by rw [hr]; exact k h' ⟨hb, f b _ hb hv, U', _, d'⟩)
theorem a_count (e : gE A G b vs h S T) (hw : w < 3) (hx : x = (w : Int)) (hy : y = 1) (k : ∀ h', gE A G b vs h' S T → Q (ones (S w) : Int) h') : w_X5_count X (A 22) x y h Q := by
  obtain ⟨hb, hv, U, C, d⟩ := e
  subst hx
  refine c_count d (b := true) (gR_of (by omega) (by omega)) hy ?_
  rw [m_count, if_pos (show okS (w : Int) by omega), if_pos rfl, Int.toNat_natCast]
  exact gRes.mk (fun h' U' r d' f hr => by rw [hr]; exact k h' ⟨hb, f b _ hb hv, U', _, d'⟩)
theorem a_append (e : gE A G b vs h S T) (hw : w < 3) (hv3 : v < 3) (hl : (S w).length + (S v).length ≤ 64) (hx : x = (w : Int)) (hy : y = (v : Int)) (k : ∀ h' r, gE A G b vs h' (pu S w (S w ++ S v)) T → Q r h') : w_X5_append X (A 22) x y h Q := by
  obtain ⟨hb, hv, U, C, d⟩ := e
  subst hx; subst hy
  refine c_append d (gR_of (by omega) (by omega)) (gR_of (by omega) (by omega)) ?_
  rw [m_append, if_pos (show okS (w : Int) by omega), if_pos (show okS (v : Int) by omega), Int.toNat_natCast, Int.toNat_natCast]
  unfold exch
  have e1 : (S w).length - ((S w).length - (S w).length) + (S v).length ≤ 64 := by omega
  have e2 : (S w).take (S w).length ++ S v ++ (S w).drop (S w).length = S w ++ S v := by simp
  rw [if_pos e1]
  refine gRes.mk (fun h' U' r d' f hr => ?_)
  have d2 : gD A G h' U' (pu S w ((S w).take (S w).length ++ S v ++ (S w).drop (S w).length), T, pu C 0 (C 0 + 1)) := d'
  rw [e2] at d2
  exact k h' r ⟨hb, f b _ hb hv, U', _, d2⟩
theorem a_find (e : gE A G b vs h S T) (hw : w < 3) (hv3 : v < 3) {l : Nat} (hl : l ≤ (S w).length) (hx : x = (w : Int)) (hy : y = (v : Int)) (hz : z = (l : Int)) (k : ∀ h', gE A G b vs h' S T → Q (fndU (S w) (S v) ((S w).length + 1 - l) l) h') : w_X5_find X (A 22) x y z h Q := by
  have hle := e.le hw
  obtain ⟨hb, hv, U, C, d⟩ := e
  subst hx; subst hy; subst hz
  refine c_find_x d (gR_of (by omega) (by omega)) (gR_of (by omega) (by omega)) (gR_of (by omega) (by omega)) ?_
  rw [m_find_x, if_pos (show okS (w : Int) by omega), if_pos (show okS (v : Int) by omega), Int.toNat_natCast, Int.toNat_natCast, Int.toNat_natCast, if_pos (show 0 ≤ (l : Int) ∧ (l : Int) ≤ ((S w).length : Int) by omega)]
  exact gRes.mk (fun h' U' r d' f hr => by rw [hr]; exact k h' ⟨hb, f b _ hb hv, U', _, d'⟩)
theorem a_copy (e : gE A G b vs h S T) (hw : w < 3) (hv3 : v < 3) (hx : x = (w : Int)) (hy : y = (v : Int)) (k : ∀ h' r, gE A G b vs h' (pu S v (S w)) T → Q r h') : w_X5_copy X (A 22) x y h Q := by
  obtain ⟨hb, hv, U, C, d⟩ := e
  subst hx; subst hy
  refine c_copy d (gR_of (by omega) (by omega)) (gR_of (by omega) (by omega)) ?_
  rw [m_copy, if_pos (show okS (w : Int) by omega), if_pos (show okS (v : Int) by omega), Int.toNat_natCast, Int.toNat_natCast]
  exact gRes.mk (fun h' U' r d' f hr => k h' r ⟨hb, f b _ hb hv, U', _, d'⟩)
theorem a_turn (e : gE A G b vs h S T) (hw : w < 3) (hx : x = (w : Int)) (k : ∀ h' r, gE A G b vs h' (pu S w (S w).reverse) T → Q r h') : w_X5_turn X (A 22) x h Q := by
  obtain ⟨hb, hv, U, C, d⟩ := e
  subst hx
  refine c_turn d (gR_of (by omega) (by omega)) ?_
  rw [m_turn, if_pos (show okS (w : Int) by omega), Int.toNat_natCast]
  exact gRes.mk (fun h' U' r d' f hr => k h' r ⟨hb, f b _ hb hv, U', _, d'⟩)
theorem a_apply (e : gE A G b vs h S T) (hw : w < 3) {p q : Nat} (hp : 2 ≤ p ∧ p ≤ 31) (hq : 2 ≤ q ∧ q ≤ 31) (hl : (img (codeW p) (codeW q) (S w)).length ≤ 64) (hx : x = (w : Int)) (hy : y = (p : Int)) (hz : z = (q : Int)) (k : ∀ h', gE A G b vs h' (pu S w (img (codeW p) (codeW q) (S w))) T → Q ((img (codeW p) (codeW q) (S w)).length : Int) h') : w_X5_apply X (A 22) x y z h Q := by
  obtain ⟨hb, hv, U, C, d⟩ := e
  subst hx; subst hy; subst hz
  refine c_apply d (gR_of (by omega) (by omega)) (gR_of (by omega) (by omega)) (gR_of (by omega) (by omega)) ?_
  rw [m_apply, if_pos (show okS (w : Int) by omega), if_pos (show okP (p : Int) (q : Int) from ⟨by omega, by omega⟩), Int.toNat_natCast, Int.toNat_natCast, Int.toNat_natCast, if_pos hl]
  exact gRes.mk (fun h' U' r d' f hr => by rw [hr]; exact k h' ⟨hb, f b _ hb hv, U', _, d'⟩)
end AE
