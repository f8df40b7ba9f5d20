/-! The law's wrappers: what they put into the out object. -/
def lF (A : Nat → Nat) (O : Nat) (h h' : gaH) : Prop := ∀ a e, (∀ i, i < 31 → a ≠ A i) → a ≠ O → h a = some e → h' a = some e
section WL
variable {A : Nat → Nat} {G : gaG} {h : gaH} {U : Nat → List Bool} {st : GSt} {X : String → gaH → Prop} {Q : Int → gaH → Prop} {O : Nat} {z0 : Int64} {sv : Value}
theorem gD.up (d : gD A G h U st) (hA : ∀ i, i < 31 → O ≠ A i) (hO : h O = some (6, [.long z0, sv])) {e : gaE} : gD A G (gaUp h O e) U st := by
  have k : ∀ i, i < 31 → gaUp h O e (A i) = h (A i) := fun i hi => gaUp_ne _ _ (fun q => hA i hi q.symm)
  obtain ⟨⟨R, N, ⟨i1, i2, m, m1, m2⟩, ee⟩, ru, ⟨x1, x2, x3⟩, gr, ok, gw, ss, mc, ne⟩ := d
  have hc : G.2.2.2 0 ≠ O := fun q => by rw [q, hO] at mc; cases mc
  exact ⟨⟨R, N, ⟨i1, fun w hw => ⟨(i2 w hw).1, (i2 w hw).2.1, (k w (by omega)).trans (i2 w hw).2.2.1, (k _ (by omega)).trans (i2 w hw).2.2.2⟩, m, m1, (k 30 (by decide)).trans m2⟩, ee⟩, (k 25 (by decide)).trans ru, ⟨(k 22 (by decide)).trans x1, (k 23 (by decide)).trans x2, (k 24 (by decide)).trans x3⟩, fun g hg => by
    obtain ⟨a0, row, a1, a2, a3, a4⟩ := gr g hg
    exact ⟨(k _ (by omega)).trans a0, row, a1, a2, (k _ (by omega)).trans a3, a4⟩, ok, gw, ss, by rw [gaUp_ne _ _ hc]; exact mc, ne⟩
theorem l_ret {E : List String} {o : Nat × (Int → Prop) × GSt} (hO : h O = some (6, [.long z0, sv])) (hA : ∀ i, i < 31 → O ≠ A i) (k : ∀ h' U' z' s', gD A G h' U' o.2.2 → lF A O h h' → h' O = some (6, [.long z', s']) → (o.1 = 0 → ∃ r, o.2.1 r ∧ z' = gI2l r) → Q (o.1 : Int) h') (hX : ∀ h', o.1 ≠ 0 → Q (o.1 : Int) h' → X (E.getD (o.1 - 1) "") h') : gRes A G h E X (fun r2 hp1 => gPF hp1 O 6 0 (.long (gI2l r2)) (fun hp5 => Q 0 hp5)) o := by
  intro h' U' d f
  have hO2 := f O _ hA hO
  refine ⟨fun e r hr => gPF_mk hO2 (by simp) ?_, fun e => hX h' e (k h' U' z0 sv d (fun a e h1 _ h3 => f a e h1 h3) hO2 (fun q => absurd q e))⟩
  have := k _ U' (gI2l r) sv (d.up hA hO2) (fun a e h1 h2 h3 => by rw [gaUp_ne _ _ h2]; exact f a e h1 h3) (gaUp_self _ _ _) (fun _ => ⟨r, hr, rfl⟩)
  rw [e] at this
  exact this
-- HEADER2
theorem gD.cell (d : gD A G h U st) : ∀ i, i < 31 → ∃ e, h (A i) = some e := by
  obtain ⟨⟨R, N, ⟨i1, i2, m, m1, m2⟩, ee⟩, ru, ⟨x1, x2, x3⟩, gr, ok, gw, ss, mc, ne⟩ := d
  intro i hi
  by_cases q1 : i < 11
  · exact ⟨_, (i2 i q1).2.2.1⟩
  by_cases q2 : i < 22
  · have := (i2 (i - 11) (by omega)).2.2.2
    rw [show 11 + (i - 11) = i by omega] at this
    exact ⟨_, this⟩
  obtain ⟨a0, r0, -, -, b0, -⟩ := gr 0 (by decide)
  obtain ⟨a1, r1, -, -, b1, -⟩ := gr 1 (by decide)
  rcases (show i = 22 ∨ i = 23 ∨ i = 24 ∨ i = 25 ∨ i = 26 ∨ i = 27 ∨ i = 28 ∨ i = 29 ∨ i = 30 by omega) with rfl | rfl | rfl | rfl | rfl | rfl | rfl | rfl | rfl
  · exact ⟨_, x1⟩
  · exact ⟨_, x2⟩
  · exact ⟨_, x3⟩
  · exact ⟨_, ru⟩
  · exact ⟨_, a0⟩
  · exact ⟨_, a1⟩
  · exact ⟨_, b0⟩
  · exact ⟨_, b1⟩
  · exact ⟨_, m2⟩
theorem gD.fr (d : gD A G h U st) {h' : gaH} (k : ∀ i, i < 31 → h' (A i) = h (A i)) (k0 : h' (G.2.2.2 0) = h (G.2.2.2 0)) : gD A G h' U st := by
  obtain ⟨⟨R, N, ⟨i1, i2, m, m1, m2⟩, ee⟩, ru, ⟨x1, x2, x3⟩, gr, ok, gw, ss, mc, ne⟩ := d
  exact ⟨⟨R, N, ⟨i1, fun w hw => ⟨(i2 w hw).1, (i2 w hw).2.1, (k w (by omega)).trans (i2 w hw).2.2.1, (k _ (by omega)).trans (i2 w hw).2.2.2⟩, m, m1, (k 30 (by decide)).trans m2⟩, ee⟩, (k 25 (by decide)).trans ru, ⟨(k 22 (by decide)).trans x1, (k 23 (by decide)).trans x2, (k 24 (by decide)).trans x3⟩, fun g hg => by
    obtain ⟨a0, row, a1, a2, a3, a4⟩ := gr g hg
    exact ⟨(k _ (by omega)).trans a0, row, a1, a2, (k _ (by omega)).trans a3, a4⟩, ok, gw, ss, k0.trans mc, ne⟩
theorem l_retB {E : List String} {o : Nat × (Int → Prop) × GSt} (hO : h O = some (6, [.long z0, sv])) (hA : ∀ i, i < 31 → O ≠ A i) (k : ∀ h' U' z' s', gD A G h' U' o.2.2 → lF A O h h' → h' O = some (6, [.long z', s']) → (o.1 = 0 → ∃ r, o.2.1 r ∧ z' = gI2l r) → Q (o.1 : Int) h') (hb : ∀ r, o.2.1 r → r = 0 ∨ r = 1) (hX : ∀ h', o.1 ≠ 0 → Q (o.1 : Int) h' → X (E.getD (o.1 - 1) "") h') : gRes A G h E X (fun r2 hp1 => gR r2 ∧ (if r2 = 0 then gPF hp1 O 6 0 (.long 0) (fun hp5 => Q 0 hp5) else gPF hp1 O 6 0 (.long 1) (fun hp5 => Q 0 hp5))) o := by
  have kk := l_ret (E := E) (X := X) hO hA k hX
  intro h' U' d f
  refine ⟨fun e r hr => ?_, (kk h' U' d f).2⟩
  have := (kk h' U' d f).1 e r hr
  rcases hb r hr with rfl | rfl
  · exact ⟨by decide, if_yes rfl this⟩
  · exact ⟨by decide, if_no (by decide) this⟩
theorem l_retS {o : Nat} (hO : h O = some (6, [.long z0, sv])) (d : gD A G h U st) (hA : ∀ i, i < 31 → O ≠ A i) (k : ∀ h' U' z' s' (c : Nat), gD A G h' U' st → lF A O h h' → h' O = some (6, [.long z', s']) → Q (c : Int) h') {h' : gaH} (f : ∀ a e, h a = some e → h' a = some e) : gPF h' O 6 1 (.ref o) (fun hp5 => Q 0 hp5) := by
  have hO2 := f _ _ hO
  exact gPF_mk hO2 (by simp) (k _ U z0 (.ref o) 0 ((d.kp f).up hA hO2) (fun a e h1 h2 h3 => by rw [gaUp_ne _ _ h2]; exact f a e h3) (gaUp_self _ _ _))
-- WRAPPERS
theorem l_write_le {x c : Int} : (m_write st x c).1 ≤ 2 := by
  unfold m_write
  (try unfold exch); (try unfold settled); (try unfold takeOut)
  repeat' split
  all_goals simp
theorem l_write {x c : Int} (d : gD A G h U st) (hO : h O = some (6, [.long z0, sv])) (hA : ∀ i, i < 31 → O ≠ A i) (hx : gR x) (hc : gR c) (k : ∀ h' U' z' s', gD A G h' U' (m_write st x c).2.2 → lF A O h h' → h' O = some (6, [.long z', s']) → ((m_write st x c).1 = 0 → ∃ r, (m_write st x c).2.1 r ∧ z' = gI2l r) → Q ((m_write st x c).1 : Int) h') : w_L_write (A 22) x c O h Q := by
  unfold w_L_write
  refine ⟨d.has, gCall_mk (by decide) (by decide) (c_write d hx hc (l_ret hO hA k (fun h' e q => ?_)))⟩
  have hle := l_write_le (st := st) (x := x) (c := c)
  generalize (m_write st x c).1 = cd at e q hle ⊢
  rcases (show cd = 1 ∨ cd = 2 by omega) with rfl | rfl
  · exact Or.inl ⟨rfl, q⟩
  · exact Or.inr ⟨rfl, q⟩
theorem l_append_le {x y : Int} : (m_append st x y).1 ≤ 1 := by
  unfold m_append
  (try unfold exch); (try unfold settled); (try unfold takeOut)
  repeat' split
  all_goals simp
theorem l_append {x y : Int} (d : gD A G h U st) (hO : h O = some (6, [.long z0, sv])) (hA : ∀ i, i < 31 → O ≠ A i) (hx : gR x) (hy : gR y) (k : ∀ h' U' z' s', gD A G h' U' (m_append st x y).2.2 → lF A O h h' → h' O = some (6, [.long z', s']) → ((m_append st x y).1 = 0 → ∃ r, (m_append st x y).2.1 r ∧ z' = gI2l r) → Q ((m_append st x y).1 : Int) h') : w_L_append (A 22) x y O h Q := by
  unfold w_L_append
  refine ⟨d.has, gCall_mk (by decide) (by decide) (c_append d hx hy (l_ret hO hA k (fun h' e q => ?_)))⟩
  have hle := l_append_le (st := st) (x := x) (y := y)
  generalize (m_append st x y).1 = cd at e q hle ⊢
  obtain rfl : cd = 1 := by omega
  exact ⟨rfl, q⟩
theorem l_insertSign_le {x y : Int} {bz : Bool} : (m_insertSign st x y bz).1 ≤ 1 := by
  unfold m_insertSign
  (try unfold exch); (try unfold settled); (try unfold takeOut)
  repeat' split
  all_goals simp
theorem l_insertSign {x y z : Int} {bz : Bool} (d : gD A G h U st) (hO : h O = some (6, [.long z0, sv])) (hA : ∀ i, i < 31 → O ≠ A i) (hx : gR x) (hy : gR y) (hz : z = b2i bz) (k : ∀ h' U' z' s', gD A G h' U' (m_insertSign st x y bz).2.2 → lF A O h h' → h' O = some (6, [.long z', s']) → ((m_insertSign st x y bz).1 = 0 → ∃ r, (m_insertSign st x y bz).2.1 r ∧ z' = gI2l r) → Q ((m_insertSign st x y bz).1 : Int) h') : w_L_insertSign (A 22) x y z O h Q := by
  unfold w_L_insertSign
  refine ⟨d.has, gCall_mk (by decide) (by decide) (c_insertSign d hx hy hz (l_ret hO hA k (fun h' e q => ?_)))⟩
  have hle := l_insertSign_le (st := st) (x := x) (y := y) (bz := bz)
  generalize (m_insertSign st x y bz).1 = cd at e q hle ⊢
  obtain rfl : cd = 1 := by omega
  exact ⟨rfl, q⟩
theorem l_insertSheet_le {x y z : Int} : (m_insertSheet st x y z).1 ≤ 1 := by
  unfold m_insertSheet
  (try unfold exch); (try unfold settled); (try unfold takeOut)
  repeat' split
  all_goals simp
theorem l_insertSheet {x y z : Int} (d : gD A G h U st) (hO : h O = some (6, [.long z0, sv])) (hA : ∀ i, i < 31 → O ≠ A i) (hx : gR x) (hy : gR y) (hz : gR z) (k : ∀ h' U' z' s', gD A G h' U' (m_insertSheet st x y z).2.2 → lF A O h h' → h' O = some (6, [.long z', s']) → ((m_insertSheet st x y z).1 = 0 → ∃ r, (m_insertSheet st x y z).2.1 r ∧ z' = gI2l r) → Q ((m_insertSheet st x y z).1 : Int) h') : w_L_insertSheet (A 22) x y z O h Q := by
  unfold w_L_insertSheet
  refine ⟨d.has, gCall_mk (by decide) (by decide) (c_insertSheet d hx hy hz (l_ret hO hA k (fun h' e q => ?_)))⟩
  have hle := l_insertSheet_le (st := st) (x := x) (y := y) (z := z)
  generalize (m_insertSheet st x y z).1 = cd at e q hle ⊢
  obtain rfl : cd = 1 := by omega
  exact ⟨rfl, q⟩
theorem l_setSign_le {x y : Int} {bz : Bool} : (m_setSign st x y bz).1 ≤ 1 := by
  unfold m_setSign
  (try unfold exch); (try unfold settled); (try unfold takeOut)
  repeat' split
  all_goals simp
theorem l_setSign {x y z : Int} {bz : Bool} (d : gD A G h U st) (hO : h O = some (6, [.long z0, sv])) (hA : ∀ i, i < 31 → O ≠ A i) (hx : gR x) (hy : gR y) (hz : z = b2i bz) (k : ∀ h' U' z' s', gD A G h' U' (m_setSign st x y bz).2.2 → lF A O h h' → h' O = some (6, [.long z', s']) → ((m_setSign st x y bz).1 = 0 → ∃ r, (m_setSign st x y bz).2.1 r ∧ z' = gI2l r) → Q ((m_setSign st x y bz).1 : Int) h') : w_L_setSign (A 22) x y z O h Q := by
  unfold w_L_setSign
  refine ⟨d.has, gCall_mk (by decide) (by decide) (c_setSign d hx hy hz (l_ret hO hA k (fun h' e q => ?_)))⟩
  have hle := l_setSign_le (st := st) (x := x) (y := y) (bz := bz)
  generalize (m_setSign st x y bz).1 = cd at e q hle ⊢
  obtain rfl : cd = 1 := by omega
  exact ⟨rfl, q⟩
theorem l_removeSign_le {x y : Int} : (m_removeSign st x y).1 ≤ 1 := by
  unfold m_removeSign
  (try unfold exch); (try unfold settled); (try unfold takeOut)
  repeat' split
  all_goals simp
theorem l_removeSign {x y : Int} (d : gD A G h U st) (hO : h O = some (6, [.long z0, sv])) (hA : ∀ i, i < 31 → O ≠ A i) (hx : gR x) (hy : gR y) (k : ∀ h' U' z' s', gD A G h' U' (m_removeSign st x y).2.2 → lF A O h h' → h' O = some (6, [.long z', s']) → ((m_removeSign st x y).1 = 0 → ∃ r, (m_removeSign st x y).2.1 r ∧ z' = gI2l r) → Q ((m_removeSign st x y).1 : Int) h') : w_L_removeSign (A 22) x y O h Q := by
  unfold w_L_removeSign
  refine ⟨d.has, gCall_mk (by decide) (by decide) (c_removeSign d hx hy (l_ret hO hA k (fun h' e q => ?_)))⟩
  have hle := l_removeSign_le (st := st) (x := x) (y := y)
  generalize (m_removeSign st x y).1 = cd at e q hle ⊢
  obtain rfl : cd = 1 := by omega
  exact ⟨rfl, q⟩
theorem l_remove_le {x y z : Int} : (m_remove st x y z).1 ≤ 1 := by
  unfold m_remove
  (try unfold exch); (try unfold settled); (try unfold takeOut)
  repeat' split
  all_goals simp
theorem l_remove {x y z : Int} (d : gD A G h U st) (hO : h O = some (6, [.long z0, sv])) (hA : ∀ i, i < 31 → O ≠ A i) (hx : gR x) (hy : gR y) (hz : gR z) (k : ∀ h' U' z' s', gD A G h' U' (m_remove st x y z).2.2 → lF A O h h' → h' O = some (6, [.long z', s']) → ((m_remove st x y z).1 = 0 → ∃ r, (m_remove st x y z).2.1 r ∧ z' = gI2l r) → Q ((m_remove st x y z).1 : Int) h') : w_L_remove (A 22) x y z O h Q := by
  unfold w_L_remove
  refine ⟨d.has, gCall_mk (by decide) (by decide) (c_remove d hx hy hz (l_ret hO hA k (fun h' e q => ?_)))⟩
  have hle := l_remove_le (st := st) (x := x) (y := y) (z := z)
  generalize (m_remove st x y z).1 = cd at e q hle ⊢
  obtain rfl : cd = 1 := by omega
  exact ⟨rfl, q⟩
theorem l_replace_le {x y z v : Int} : (m_replace st x y z v).1 ≤ 1 := by
  unfold m_replace
  (try unfold exch); (try unfold settled); (try unfold takeOut)
  repeat' split
  all_goals simp
theorem l_replace {x y z v : Int} (d : gD A G h U st) (hO : h O = some (6, [.long z0, sv])) (hA : ∀ i, i < 31 → O ≠ A i) (hx : gR x) (hy : gR y) (hz : gR z) (hv : gR v) (k : ∀ h' U' z' s', gD A G h' U' (m_replace st x y z v).2.2 → lF A O h h' → h' O = some (6, [.long z', s']) → ((m_replace st x y z v).1 = 0 → ∃ r, (m_replace st x y z v).2.1 r ∧ z' = gI2l r) → Q ((m_replace st x y z v).1 : Int) h') : w_L_replace (A 22) x y z v O h Q := by
  unfold w_L_replace
  refine ⟨d.has, gCall_mk (by decide) (by decide) (c_replace d hx hy hz hv (l_ret hO hA k (fun h' e q => ?_)))⟩
  have hle := l_replace_le (st := st) (x := x) (y := y) (z := z) (v := v)
  generalize (m_replace st x y z v).1 = cd at e q hle ⊢
  obtain rfl : cd = 1 := by omega
  exact ⟨rfl, q⟩
theorem l_cutTo_le {x y : Int} : (m_cutTo st x y).1 ≤ 2 := by
  unfold m_cutTo
  (try unfold exch); (try unfold settled); (try unfold takeOut)
  repeat' split
  all_goals simp
theorem l_cutTo {x y : Int} (d : gD A G h U st) (hO : h O = some (6, [.long z0, sv])) (hA : ∀ i, i < 31 → O ≠ A i) (hx : gR x) (hy : gR y) (k : ∀ h' U' z' s', gD A G h' U' (m_cutTo st x y).2.2 → lF A O h h' → h' O = some (6, [.long z', s']) → ((m_cutTo st x y).1 = 0 → ∃ r, (m_cutTo st x y).2.1 r ∧ z' = gI2l r) → Q ((m_cutTo st x y).1 : Int) h') : w_L_cutTo (A 22) x y O h Q := by
  unfold w_L_cutTo
  refine ⟨d.has, gCall_mk (by decide) (by decide) (c_cutTo d hx hy (l_ret hO hA k (fun h' e q => ?_)))⟩
  have hle := l_cutTo_le (st := st) (x := x) (y := y)
  generalize (m_cutTo st x y).1 = cd at e q hle ⊢
  rcases (show cd = 1 ∨ cd = 2 by omega) with rfl | rfl
  · exact Or.inl ⟨rfl, q⟩
  · exact Or.inr ⟨rfl, q⟩
theorem l_turn_le {x : Int} : (m_turn st x).1 ≤ 1 := by
  unfold m_turn
  (try unfold exch); (try unfold settled); (try unfold takeOut)
  repeat' split
  all_goals simp
theorem l_turn {x : Int} (d : gD A G h U st) (hO : h O = some (6, [.long z0, sv])) (hA : ∀ i, i < 31 → O ≠ A i) (hx : gR x) (k : ∀ h' U' z' s', gD A G h' U' (m_turn st x).2.2 → lF A O h h' → h' O = some (6, [.long z', s']) → ((m_turn st x).1 = 0 → ∃ r, (m_turn st x).2.1 r ∧ z' = gI2l r) → Q ((m_turn st x).1 : Int) h') : w_L_turn (A 22) x O h Q := by
  unfold w_L_turn
  refine ⟨d.has, gCall_mk (by decide) (by decide) (c_turn d hx (l_ret hO hA k (fun h' e q => ?_)))⟩
  have hle := l_turn_le (st := st) (x := x)
  generalize (m_turn st x).1 = cd at e q hle ⊢
  obtain rfl : cd = 1 := by omega
  exact ⟨rfl, q⟩
theorem l_exchange_le {x : Int} : (m_exchange st x).1 ≤ 1 := by
  unfold m_exchange
  (try unfold exch); (try unfold settled); (try unfold takeOut)
  repeat' split
  all_goals simp
theorem l_exchange {x : Int} (d : gD A G h U st) (hO : h O = some (6, [.long z0, sv])) (hA : ∀ i, i < 31 → O ≠ A i) (hx : gR x) (k : ∀ h' U' z' s', gD A G h' U' (m_exchange st x).2.2 → lF A O h h' → h' O = some (6, [.long z', s']) → ((m_exchange st x).1 = 0 → ∃ r, (m_exchange st x).2.1 r ∧ z' = gI2l r) → Q ((m_exchange st x).1 : Int) h') : w_L_exchange (A 22) x O h Q := by
  unfold w_L_exchange
  refine ⟨d.has, gCall_mk (by decide) (by decide) (c_exchange d hx (l_ret hO hA k (fun h' e q => ?_)))⟩
  have hle := l_exchange_le (st := st) (x := x)
  generalize (m_exchange st x).1 = cd at e q hle ⊢
  obtain rfl : cd = 1 := by omega
  exact ⟨rfl, q⟩
theorem l_rotate_le {x y : Int} : (m_rotate st x y).1 ≤ 2 := by
  unfold m_rotate
  (try unfold exch); (try unfold settled); (try unfold takeOut)
  repeat' split
  all_goals simp
theorem l_rotate {x y : Int} (d : gD A G h U st) (hO : h O = some (6, [.long z0, sv])) (hA : ∀ i, i < 31 → O ≠ A i) (hx : gR x) (hy : gR y) (k : ∀ h' U' z' s', gD A G h' U' (m_rotate st x y).2.2 → lF A O h h' → h' O = some (6, [.long z', s']) → ((m_rotate st x y).1 = 0 → ∃ r, (m_rotate st x y).2.1 r ∧ z' = gI2l r) → Q ((m_rotate st x y).1 : Int) h') : w_L_rotate (A 22) x y O h Q := by
  unfold w_L_rotate
  refine ⟨d.has, gCall_mk (by decide) (by decide) (c_rotate d hx hy (l_ret hO hA k (fun h' e q => ?_)))⟩
  have hle := l_rotate_le (st := st) (x := x) (y := y)
  generalize (m_rotate st x y).1 = cd at e q hle ⊢
  rcases (show cd = 1 ∨ cd = 2 by omega) with rfl | rfl
  · exact Or.inl ⟨rfl, q⟩
  · exact Or.inr ⟨rfl, q⟩
theorem l_copy_le {x y : Int} : (m_copy st x y).1 ≤ 1 := by
  unfold m_copy
  (try unfold exch); (try unfold settled); (try unfold takeOut)
  repeat' split
  all_goals simp
theorem l_copy {x y : Int} (d : gD A G h U st) (hO : h O = some (6, [.long z0, sv])) (hA : ∀ i, i < 31 → O ≠ A i) (hx : gR x) (hy : gR y) (k : ∀ h' U' z' s', gD A G h' U' (m_copy st x y).2.2 → lF A O h h' → h' O = some (6, [.long z', s']) → ((m_copy st x y).1 = 0 → ∃ r, (m_copy st x y).2.1 r ∧ z' = gI2l r) → Q ((m_copy st x y).1 : Int) h') : w_L_copy (A 22) x y O h Q := by
  unfold w_L_copy
  refine ⟨d.has, gCall_mk (by decide) (by decide) (c_copy d hx hy (l_ret hO hA k (fun h' e q => ?_)))⟩
  have hle := l_copy_le (st := st) (x := x) (y := y)
  generalize (m_copy st x y).1 = cd at e q hle ⊢
  obtain rfl : cd = 1 := by omega
  exact ⟨rfl, q⟩
theorem l_apply_le {x y z : Int} : (m_apply st x y z).1 ≤ 2 := by
  unfold m_apply
  (try unfold exch); (try unfold settled); (try unfold takeOut)
  repeat' split
  all_goals simp
theorem l_apply {x y z : Int} (d : gD A G h U st) (hO : h O = some (6, [.long z0, sv])) (hA : ∀ i, i < 31 → O ≠ A i) (hx : gR x) (hy : gR y) (hz : gR z) (k : ∀ h' U' z' s', gD A G h' U' (m_apply st x y z).2.2 → lF A O h h' → h' O = some (6, [.long z', s']) → ((m_apply st x y z).1 = 0 → ∃ r, (m_apply st x y z).2.1 r ∧ z' = gI2l r) → Q ((m_apply st x y z).1 : Int) h') : w_L_apply (A 22) x y z O h Q := by
  unfold w_L_apply
  refine ⟨d.has, gCall_mk (by decide) (by decide) (c_apply d hx hy hz (l_ret hO hA k (fun h' e q => ?_)))⟩
  have hle := l_apply_le (st := st) (x := x) (y := y) (z := z)
  generalize (m_apply st x y z).1 = cd at e q hle ⊢
  rcases (show cd = 1 ∨ cd = 2 by omega) with rfl | rfl
  · exact Or.inl ⟨rfl, q⟩
  · exact Or.inr ⟨rfl, q⟩
theorem l_undo_le {x y z : Int} : (m_undo st x y z).1 ≤ 3 := by
  unfold m_undo
  (try unfold exch); (try unfold settled); (try unfold takeOut)
  repeat' split
  all_goals simp
theorem l_undo {x y z : Int} (d : gD A G h U st) (hO : h O = some (6, [.long z0, sv])) (hA : ∀ i, i < 31 → O ≠ A i) (hx : gR x) (hy : gR y) (hz : gR z) (k : ∀ h' U' z' s', gD A G h' U' (m_undo st x y z).2.2 → lF A O h h' → h' O = some (6, [.long z', s']) → ((m_undo st x y z).1 = 0 → ∃ r, (m_undo st x y z).2.1 r ∧ z' = gI2l r) → Q ((m_undo st x y z).1 : Int) h') : w_L_undo (A 22) x y z O h Q := by
  unfold w_L_undo
  refine ⟨d.has, gCall_mk (by decide) (by decide) (c_undo d hx hy hz (l_ret hO hA k (fun h' e q => ?_)))⟩
  have hle := l_undo_le (st := st) (x := x) (y := y) (z := z)
  generalize (m_undo st x y z).1 = cd at e q hle ⊢
  rcases (show cd = 1 ∨ cd = 2 ∨ cd = 3 by omega) with rfl | rfl | rfl
  · exact Or.inl ⟨rfl, q⟩
  · exact Or.inr (Or.inl ⟨rfl, q⟩)
  · exact Or.inr (Or.inr ⟨rfl, q⟩)
theorem l_lay_le {x y z : Int} : (m_lay st x y z).1 ≤ 2 := by
  unfold m_lay
  (try unfold exch); (try unfold settled); (try unfold takeOut)
  repeat' split
  all_goals simp
theorem l_lay {x y z : Int} (d : gD A G h U st) (hO : h O = some (6, [.long z0, sv])) (hA : ∀ i, i < 31 → O ≠ A i) (hx : gR x) (hy : gR y) (hz : gR z) (k : ∀ h' U' z' s', gD A G h' U' (m_lay st x y z).2.2 → lF A O h h' → h' O = some (6, [.long z', s']) → ((m_lay st x y z).1 = 0 → ∃ r, (m_lay st x y z).2.1 r ∧ z' = gI2l r) → Q ((m_lay st x y z).1 : Int) h') : w_L_lay G (A 22) x y z O h Q := by
  unfold w_L_lay
  refine ⟨d.has, gCall_mk (by decide) (by decide) (c_lay d hx hy hz (l_ret hO hA k (fun h' e q => ?_)))⟩
  have hle := l_lay_le (st := st) (x := x) (y := y) (z := z)
  generalize (m_lay st x y z).1 = cd at e q hle ⊢
  rcases (show cd = 1 ∨ cd = 2 by omega) with rfl | rfl
  · exact Or.inl ⟨rfl, q⟩
  · exact Or.inr ⟨rfl, q⟩
theorem l_twos_le {x y z : Int} : (m_twos st x y z).1 ≤ 2 := by
  unfold m_twos
  (try unfold exch); (try unfold settled); (try unfold takeOut)
  repeat' split
  all_goals simp
theorem l_twos {x y z : Int} (d : gD A G h U st) (hO : h O = some (6, [.long z0, sv])) (hA : ∀ i, i < 31 → O ≠ A i) (hx : gR x) (hy : gR y) (hz : gR z) (k : ∀ h' U' z' s', gD A G h' U' (m_twos st x y z).2.2 → lF A O h h' → h' O = some (6, [.long z', s']) → ((m_twos st x y z).1 = 0 → ∃ r, (m_twos st x y z).2.1 r ∧ z' = gI2l r) → Q ((m_twos st x y z).1 : Int) h') : w_L_twos (A 22) x y z O h Q := by
  unfold w_L_twos
  refine ⟨d.has, gCall_mk (by decide) (by decide) (c_twos d hx hy hz (l_ret hO hA k (fun h' e q => ?_)))⟩
  have hle := l_twos_le (st := st) (x := x) (y := y) (z := z)
  generalize (m_twos st x y z).1 = cd at e q hle ⊢
  rcases (show cd = 1 ∨ cd = 2 by omega) with rfl | rfl
  · exact Or.inl ⟨rfl, q⟩
  · exact Or.inr ⟨rfl, q⟩
theorem l_line_le {x n p s : Int} : (m_line st x n p s).1 ≤ 2 := by
  unfold m_line
  (try unfold exch); (try unfold settled); (try unfold takeOut)
  repeat' split
  all_goals simp
theorem l_line {x n p s : Int} (d : gD A G h U st) (hO : h O = some (6, [.long z0, sv])) (hA : ∀ i, i < 31 → O ≠ A i) (hx : gR x) (hn : gR n) (hp : gR p) (hs : gR s) (k : ∀ h' U' z' s', gD A G h' U' (m_line st x n p s).2.2 → lF A O h h' → h' O = some (6, [.long z', s']) → ((m_line st x n p s).1 = 0 → ∃ r, (m_line st x n p s).2.1 r ∧ z' = gI2l r) → Q ((m_line st x n p s).1 : Int) h') : w_L_line (A 22) x n p s O h Q := by
  unfold w_L_line
  refine ⟨d.has, gCall_mk (by decide) (by decide) (c_line d hx hn hp hs (l_ret hO hA k (fun h' e q => ?_)))⟩
  have hle := l_line_le (st := st) (x := x) (n := n) (p := p) (s := s)
  generalize (m_line st x n p s).1 = cd at e q hle ⊢
  rcases (show cd = 1 ∨ cd = 2 by omega) with rfl | rfl
  · exact Or.inl ⟨rfl, q⟩
  · exact Or.inr ⟨rfl, q⟩
theorem l_grow_le {x y : Int} : (m_grow st x y).1 ≤ 2 := by
  unfold m_grow
  (try unfold exch); (try unfold settled); (try unfold takeOut)
  repeat' split
  all_goals simp
theorem l_grow {x y : Int} (d : gD A G h U st) (hO : h O = some (6, [.long z0, sv])) (hA : ∀ i, i < 31 → O ≠ A i) (hx : gR x) (hy : gR y) (k : ∀ h' U' z' s', gD A G h' U' (m_grow st x y).2.2 → lF A O h h' → h' O = some (6, [.long z', s']) → ((m_grow st x y).1 = 0 → ∃ r, (m_grow st x y).2.1 r ∧ z' = gI2l r) → Q ((m_grow st x y).1 : Int) h') : w_L_grow (A 22) x y O h Q := by
  unfold w_L_grow
  refine ⟨d.has, gCall_mk (by decide) (by decide) (c_grow d hx hy (l_ret hO hA k (fun h' e q => ?_)))⟩
  have hle := l_grow_le (st := st) (x := x) (y := y)
  generalize (m_grow st x y).1 = cd at e q hle ⊢
  rcases (show cd = 1 ∨ cd = 2 by omega) with rfl | rfl
  · exact Or.inl ⟨rfl, q⟩
  · exact Or.inr ⟨rfl, q⟩
theorem l_shrink_le {x : Int} : (m_shrink st x).1 ≤ 2 := by
  unfold m_shrink
  (try unfold exch); (try unfold settled); (try unfold takeOut)
  repeat' split
  all_goals simp
theorem l_shrink {x : Int} (d : gD A G h U st) (hO : h O = some (6, [.long z0, sv])) (hA : ∀ i, i < 31 → O ≠ A i) (hx : gR x) (k : ∀ h' U' z' s', gD A G h' U' (m_shrink st x).2.2 → lF A O h h' → h' O = some (6, [.long z', s']) → ((m_shrink st x).1 = 0 → ∃ r, (m_shrink st x).2.1 r ∧ z' = gI2l r) → Q ((m_shrink st x).1 : Int) h') : w_L_shrink (A 22) x O h Q := by
  unfold w_L_shrink
  refine ⟨d.has, gCall_mk (by decide) (by decide) (c_shrink d hx (l_ret hO hA k (fun h' e q => ?_)))⟩
  have hle := l_shrink_le (st := st) (x := x)
  generalize (m_shrink st x).1 = cd at e q hle ⊢
  rcases (show cd = 1 ∨ cd = 2 by omega) with rfl | rfl
  · exact Or.inl ⟨rfl, q⟩
  · exact Or.inr ⟨rfl, q⟩
theorem l_fresh_le {x : Int} : (m_fresh st x).1 ≤ 1 := by
  unfold m_fresh
  (try unfold exch); (try unfold settled); (try unfold takeOut)
  repeat' split
  all_goals simp
theorem l_fresh {x : Int} (d : gD A G h U st) (hO : h O = some (6, [.long z0, sv])) (hA : ∀ i, i < 31 → O ≠ A i) (hx : gR x) (k : ∀ h' U' z' s', gD A G h' U' (m_fresh st x).2.2 → lF A O h h' → h' O = some (6, [.long z', s']) → ((m_fresh st x).1 = 0 → ∃ r, (m_fresh st x).2.1 r ∧ z' = gI2l r) → Q ((m_fresh st x).1 : Int) h') : w_L_fresh (A 22) x O h Q := by
  unfold w_L_fresh
  refine ⟨d.has, gCall_mk (by decide) (by decide) (c_fresh d hx (l_ret hO hA k (fun h' e q => ?_)))⟩
  have hle := l_fresh_le (st := st) (x := x)
  generalize (m_fresh st x).1 = cd at e q hle ⊢
  obtain rfl : cd = 1 := by omega
  exact ⟨rfl, q⟩
theorem l_length_le {x : Int} : (m_length st x).1 ≤ 1 := by
  unfold m_length
  (try unfold exch); (try unfold settled); (try unfold takeOut)
  repeat' split
  all_goals simp
theorem l_length {x : Int} (d : gD A G h U st) (hO : h O = some (6, [.long z0, sv])) (hA : ∀ i, i < 31 → O ≠ A i) (hx : gR x) (k : ∀ h' U' z' s', gD A G h' U' (m_length st x).2.2 → lF A O h h' → h' O = some (6, [.long z', s']) → ((m_length st x).1 = 0 → ∃ r, (m_length st x).2.1 r ∧ z' = gI2l r) → Q ((m_length st x).1 : Int) h') : w_L_length (A 22) x O h Q := by
  unfold w_L_length
  refine ⟨d.has, gCall_mk (by decide) (by decide) (c_length d hx (l_ret hO hA k (fun h' e q => ?_)))⟩
  have hle := l_length_le (st := st) (x := x)
  generalize (m_length st x).1 = cd at e q hle ⊢
  obtain rfl : cd = 1 := by omega
  exact ⟨rfl, q⟩
theorem l_isB_le {x y : Int} : (m_isB st x y).1 ≤ 1 := by
  unfold m_isB
  (try unfold exch); (try unfold settled); (try unfold takeOut)
  repeat' split
  all_goals simp
theorem b2i_01 (b : Bool) : b2i b = 0 ∨ b2i b = 1 := by cases b <;> simp [b2i]
theorem l_isB {x y : Int} (d : gD A G h U st) (hO : h O = some (6, [.long z0, sv])) (hA : ∀ i, i < 31 → O ≠ A i) (hx : gR x) (hy : gR y) (k : ∀ h' U' z' s', gD A G h' U' (m_isB st x y).2.2 → lF A O h h' → h' O = some (6, [.long z', s']) → ((m_isB st x y).1 = 0 → ∃ r, (m_isB st x y).2.1 r ∧ z' = gI2l r) → Q ((m_isB st x y).1 : Int) h') : w_L_isB (A 22) x y O h Q := by
  unfold w_L_isB
  have hb : ∀ r, (m_isB st x y).2.1 r → r = 0 ∨ r = 1 := by
    unfold m_isB
    repeat' split
    · intro r hr; obtain rfl := hr; exact b2i_01 _
    · intro r hr; exact hr.elim
    · intro r hr; exact hr.elim
  unfold w_L_isB_J15
  refine ⟨d.has, gCall_mk (by decide) (by decide) (c_isB d hx hy (l_retB hO hA k hb (fun h' e q => ?_)))⟩
  have hle := l_isB_le (st := st) (x := x) (y := y)
  generalize (m_isB st x y).1 = cd at e q hle ⊢
  obtain rfl : cd = 1 := by omega
  exact ⟨rfl, q⟩
theorem l_count_le {x : Int} {bz : Bool} : (m_count st x bz).1 ≤ 1 := by
  unfold m_count
  (try unfold exch); (try unfold settled); (try unfold takeOut)
  repeat' split
  all_goals simp
theorem l_count {x z : Int} {bz : Bool} (d : gD A G h U st) (hO : h O = some (6, [.long z0, sv])) (hA : ∀ i, i < 31 → O ≠ A i) (hx : gR x) (hz : z = b2i bz) (k : ∀ h' U' z' s', gD A G h' U' (m_count st x bz).2.2 → lF A O h h' → h' O = some (6, [.long z', s']) → ((m_count st x bz).1 = 0 → ∃ r, (m_count st x bz).2.1 r ∧ z' = gI2l r) → Q ((m_count st x bz).1 : Int) h') : w_L_count (A 22) x z O h Q := by
  unfold w_L_count
  refine ⟨d.has, gCall_mk (by decide) (by decide) (c_count d hx hz (l_ret hO hA k (fun h' e q => ?_)))⟩
  have hle := l_count_le (st := st) (x := x) (bz := bz)
  generalize (m_count st x bz).1 = cd at e q hle ⊢
  obtain rfl : cd = 1 := by omega
  exact ⟨rfl, q⟩
theorem l_find_le {x y v : Int} : (m_find st x y v).1 ≤ 1 := by
  unfold m_find
  (try unfold exch); (try unfold settled); (try unfold takeOut)
  repeat' split
  all_goals simp
theorem l_find {x y v : Int} (d : gD A G h U st) (hO : h O = some (6, [.long z0, sv])) (hA : ∀ i, i < 31 → O ≠ A i) (hx : gR x) (hy : gR y) (hv : gR v) (k : ∀ h' U' z' s', gD A G h' U' (m_find st x y v).2.2 → lF A O h h' → h' O = some (6, [.long z', s']) → ((m_find st x y v).1 = 0 → ∃ r, (m_find st x y v).2.1 r ∧ z' = gI2l r) → Q ((m_find st x y v).1 : Int) h') : w_L_find (A 22) x y v O h Q := by
  unfold w_L_find
  refine ⟨d.has, gCall_mk (by decide) (by decide) (c_find d hx hy hv (l_ret hO hA k (fun h' e q => ?_)))⟩
  have hle := l_find_le (st := st) (x := x) (y := y) (v := v)
  generalize (m_find st x y v).1 = cd at e q hle ⊢
  obtain rfl : cd = 1 := by omega
  exact ⟨rfl, q⟩
theorem l_findLast_le {x y v : Int} : (m_findLast st x y v).1 ≤ 1 := by
  unfold m_findLast
  (try unfold exch); (try unfold settled); (try unfold takeOut)
  repeat' split
  all_goals simp
theorem l_findLast {x y v : Int} (d : gD A G h U st) (hO : h O = some (6, [.long z0, sv])) (hA : ∀ i, i < 31 → O ≠ A i) (hx : gR x) (hy : gR y) (hv : gR v) (k : ∀ h' U' z' s', gD A G h' U' (m_findLast st x y v).2.2 → lF A O h h' → h' O = some (6, [.long z', s']) → ((m_findLast st x y v).1 = 0 → ∃ r, (m_findLast st x y v).2.1 r ∧ z' = gI2l r) → Q ((m_findLast st x y v).1 : Int) h') : w_L_findLast (A 22) x y v O h Q := by
  unfold w_L_findLast
  refine ⟨d.has, gCall_mk (by decide) (by decide) (c_findLast d hx hy hv (l_ret hO hA k (fun h' e q => ?_)))⟩
  have hle := l_findLast_le (st := st) (x := x) (y := y) (v := v)
  generalize (m_findLast st x y v).1 = cd at e q hle ⊢
  obtain rfl : cd = 1 := by omega
  exact ⟨rfl, q⟩
theorem l_order_le {x y : Int} : (m_order st x y).1 ≤ 1 := by
  unfold m_order
  (try unfold exch); (try unfold settled); (try unfold takeOut)
  repeat' split
  all_goals simp
theorem l_order {x y : Int} (d : gD A G h U st) (hO : h O = some (6, [.long z0, sv])) (hA : ∀ i, i < 31 → O ≠ A i) (hx : gR x) (hy : gR y) (k : ∀ h' U' z' s', gD A G h' U' (m_order st x y).2.2 → lF A O h h' → h' O = some (6, [.long z', s']) → ((m_order st x y).1 = 0 → ∃ r, (m_order st x y).2.1 r ∧ z' = gI2l r) → Q ((m_order st x y).1 : Int) h') : w_L_order (A 22) x y O h Q := by
  unfold w_L_order
  refine ⟨d.has, gCall_mk (by decide) (by decide) (c_order d hx hy (l_ret hO hA k (fun h' e q => ?_)))⟩
  have hle := l_order_le (st := st) (x := x) (y := y)
  generalize (m_order st x y).1 = cd at e q hle ⊢
  obtain rfl : cd = 1 := by omega
  exact ⟨rfl, q⟩
theorem l_isMirrored_le {x : Int} : (m_isMirrored st x).1 ≤ 1 := by
  unfold m_isMirrored
  (try unfold exch); (try unfold settled); (try unfold takeOut)
  repeat' split
  all_goals simp
theorem l_isMirrored {x : Int} (d : gD A G h U st) (hO : h O = some (6, [.long z0, sv])) (hA : ∀ i, i < 31 → O ≠ A i) (hx : gR x) (k : ∀ h' U' z' s', gD A G h' U' (m_isMirrored st x).2.2 → lF A O h h' → h' O = some (6, [.long z', s']) → ((m_isMirrored st x).1 = 0 → ∃ r, (m_isMirrored st x).2.1 r ∧ z' = gI2l r) → Q ((m_isMirrored st x).1 : Int) h') : w_L_isMirrored (A 22) x O h Q := by
  unfold w_L_isMirrored
  have hb : ∀ r, (m_isMirrored st x).2.1 r → r = 0 ∨ r = 1 := by
    unfold m_isMirrored
    repeat' split
    · intro r hr; exact hr
    · intro r hr; exact hr.elim
  unfold w_L_isMirrored_J14
  refine ⟨d.has, gCall_mk (by decide) (by decide) (c_isMirrored d hx (l_retB hO hA k hb (fun h' e q => ?_)))⟩
  have hle := l_isMirrored_le (st := st) (x := x)
  generalize (m_isMirrored st x).1 = cd at e q hle ⊢
  obtain rfl : cd = 1 := by omega
  exact ⟨rfl, q⟩
theorem l_spread_le {x y : Int} : (m_spread st x y).1 ≤ 2 := by
  unfold m_spread
  (try unfold exch); (try unfold settled); (try unfold takeOut)
  repeat' split
  all_goals simp
theorem l_spread {x y z : Int} {bz : Bool} (d : gD A G h U st) (hO : h O = some (6, [.long z0, sv])) (hA : ∀ i, i < 31 → O ≠ A i) (hx : gR x) (hy : gR y) (hz : z = b2i bz) (k : ∀ h' U' z' s', gD A G h' U' (m_spread st x y).2.2 → lF A O h h' → h' O = some (6, [.long z', s']) → ((m_spread st x y).1 = 0 → ∃ r, (m_spread st x y).2.1 r ∧ z' = gI2l r) → Q ((m_spread st x y).1 : Int) h') : w_L_spread (A 22) x y z O h Q := by
  unfold w_L_spread
  refine ⟨d.has, gCall_mk (by decide) (by decide) (c_spread d hx hy hz (l_ret hO hA k (fun h' e q => ?_)))⟩
  have hle := l_spread_le (st := st) (x := x) (y := y)
  generalize (m_spread st x y).1 = cd at e q hle ⊢
  rcases (show cd = 1 ∨ cd = 2 by omega) with rfl | rfl
  · exact Or.inl ⟨rfl, q⟩
  · exact Or.inr ⟨rfl, q⟩
theorem l_kinds_le {x y : Int} : (m_kinds st x y).1 ≤ 2 := by
  unfold m_kinds
  (try unfold exch); (try unfold settled); (try unfold takeOut)
  repeat' split
  all_goals simp
theorem l_kinds {x y z : Int} {bz : Bool} (d : gD A G h U st) (hO : h O = some (6, [.long z0, sv])) (hA : ∀ i, i < 31 → O ≠ A i) (hx : gR x) (hy : gR y) (hz : z = b2i bz) (k : ∀ h' U' z' s', gD A G h' U' (m_kinds st x y).2.2 → lF A O h h' → h' O = some (6, [.long z', s']) → ((m_kinds st x y).1 = 0 → ∃ r, (m_kinds st x y).2.1 r ∧ z' = gI2l r) → Q ((m_kinds st x y).1 : Int) h') : w_L_kinds (A 22) x y z O h Q := by
  unfold w_L_kinds
  refine ⟨d.has, gCall_mk (by decide) (by decide) (c_kinds d hx hy hz (l_ret hO hA k (fun h' e q => ?_)))⟩
  have hle := l_kinds_le (st := st) (x := x) (y := y)
  generalize (m_kinds st x y).1 = cd at e q hle ⊢
  rcases (show cd = 1 ∨ cd = 2 by omega) with rfl | rfl
  · exact Or.inl ⟨rfl, q⟩
  · exact Or.inr ⟨rfl, q⟩
theorem l_times_le {x : Int} : (m_times st x).1 ≤ 1 := by
  unfold m_times
  (try unfold exch); (try unfold settled); (try unfold takeOut)
  repeat' split
  all_goals simp
theorem l_times {x : Int} (d : gD A G h U st) (hO : h O = some (6, [.long z0, sv])) (hA : ∀ i, i < 31 → O ≠ A i) (hx : gR x) (k : ∀ h' U' z' s', gD A G h' U' (m_times st x).2.2 → lF A O h h' → h' O = some (6, [.long z', s']) → ((m_times st x).1 = 0 → ∃ r, (m_times st x).2.1 r ∧ z' = gI2l r) → Q ((m_times st x).1 : Int) h') : w_L_times (A 22) x O h Q := by
  unfold w_L_times
  refine ⟨d.has, gCall_mk (by decide) (by decide) (c_times d hx (l_ret hO hA k (fun h' e q => ?_)))⟩
  have hle := l_times_le (st := st) (x := x)
  generalize (m_times st x).1 = cd at e q hle ⊢
  obtain rfl : cd = 1 := by omega
  exact ⟨rfl, q⟩
theorem l_overlaps_le {x : Int} : (m_overlaps st x).1 ≤ 1 := by
  unfold m_overlaps
  (try unfold exch); (try unfold settled); (try unfold takeOut)
  repeat' split
  all_goals simp
theorem l_overlaps {x : Int} (d : gD A G h U st) (hO : h O = some (6, [.long z0, sv])) (hA : ∀ i, i < 31 → O ≠ A i) (hx : gR x) (k : ∀ h' U' z' s', gD A G h' U' (m_overlaps st x).2.2 → lF A O h h' → h' O = some (6, [.long z', s']) → ((m_overlaps st x).1 = 0 → ∃ r, (m_overlaps st x).2.1 r ∧ z' = gI2l r) → Q ((m_overlaps st x).1 : Int) h') : w_L_overlaps (A 22) x O h Q := by
  unfold w_L_overlaps
  refine ⟨d.has, gCall_mk (by decide) (by decide) (c_overlaps d hx (l_ret hO hA k (fun h' e q => ?_)))⟩
  have hle := l_overlaps_le (st := st) (x := x)
  generalize (m_overlaps st x).1 = cd at e q hle ⊢
  obtain rfl : cd = 1 := by omega
  exact ⟨rfl, q⟩
theorem l_mirrors_le {x : Int} : (m_mirrors st x).1 ≤ 1 := by
  unfold m_mirrors
  (try unfold exch); (try unfold settled); (try unfold takeOut)
  repeat' split
  all_goals simp
theorem l_mirrors {x : Int} (d : gD A G h U st) (hO : h O = some (6, [.long z0, sv])) (hA : ∀ i, i < 31 → O ≠ A i) (hx : gR x) (k : ∀ h' U' z' s', gD A G h' U' (m_mirrors st x).2.2 → lF A O h h' → h' O = some (6, [.long z', s']) → ((m_mirrors st x).1 = 0 → ∃ r, (m_mirrors st x).2.1 r ∧ z' = gI2l r) → Q ((m_mirrors st x).1 : Int) h') : w_L_mirrors (A 22) x O h Q := by
  unfold w_L_mirrors
  refine ⟨d.has, gCall_mk (by decide) (by decide) (c_mirrors d hx (l_ret hO hA k (fun h' e q => ?_)))⟩
  have hle := l_mirrors_le (st := st) (x := x)
  generalize (m_mirrors st x).1 = cd at e q hle ⊢
  obtain rfl : cd = 1 := by omega
  exact ⟨rfl, q⟩
theorem l_folds_le {x : Int} : (m_folds st x).1 ≤ 1 := by
  unfold m_folds
  (try unfold exch); (try unfold settled); (try unfold takeOut)
  repeat' split
  all_goals simp
theorem l_folds {x : Int} (d : gD A G h U st) (hO : h O = some (6, [.long z0, sv])) (hA : ∀ i, i < 31 → O ≠ A i) (hx : gR x) (k : ∀ h' U' z' s', gD A G h' U' (m_folds st x).2.2 → lF A O h h' → h' O = some (6, [.long z', s']) → ((m_folds st x).1 = 0 → ∃ r, (m_folds st x).2.1 r ∧ z' = gI2l r) → Q ((m_folds st x).1 : Int) h') : w_L_folds (A 22) x O h Q := by
  unfold w_L_folds
  refine ⟨d.has, gCall_mk (by decide) (by decide) (c_folds d hx (l_ret hO hA k (fun h' e q => ?_)))⟩
  have hle := l_folds_le (st := st) (x := x)
  generalize (m_folds st x).1 = cd at e q hle ⊢
  obtain rfl : cd = 1 := by omega
  exact ⟨rfl, q⟩
theorem l_least_le {x : Int} : (m_least st x).1 ≤ 1 := by
  unfold m_least
  (try unfold exch); (try unfold settled); (try unfold takeOut)
  repeat' split
  all_goals simp
theorem l_least {x : Int} (d : gD A G h U st) (hO : h O = some (6, [.long z0, sv])) (hA : ∀ i, i < 31 → O ≠ A i) (hx : gR x) (k : ∀ h' U' z' s', gD A G h' U' (m_least st x).2.2 → lF A O h h' → h' O = some (6, [.long z', s']) → ((m_least st x).1 = 0 → ∃ r, (m_least st x).2.1 r ∧ z' = gI2l r) → Q ((m_least st x).1 : Int) h') : w_L_least (A 22) x O h Q := by
  unfold w_L_least
  refine ⟨d.has, gCall_mk (by decide) (by decide) (c_least d hx (l_ret hO hA k (fun h' e q => ?_)))⟩
  have hle := l_least_le (st := st) (x := x)
  generalize (m_least st x).1 = cd at e q hle ⊢
  obtain rfl : cd = 1 := by omega
  exact ⟨rfl, q⟩
theorem l_isApart_le {x y : Int} : (m_isApart st x y).1 ≤ 1 := by
  unfold m_isApart
  (try unfold exch); (try unfold settled); (try unfold takeOut)
  repeat' split
  all_goals simp
theorem l_isApart {x y : Int} (d : gD A G h U st) (hO : h O = some (6, [.long z0, sv])) (hA : ∀ i, i < 31 → O ≠ A i) (hx : gR x) (hy : gR y) (k : ∀ h' U' z' s', gD A G h' U' (m_isApart st x y).2.2 → lF A O h h' → h' O = some (6, [.long z', s']) → ((m_isApart st x y).1 = 0 → ∃ r, (m_isApart st x y).2.1 r ∧ z' = gI2l r) → Q ((m_isApart st x y).1 : Int) h') : w_L_isApart (A 22) x y O h Q := by
  unfold w_L_isApart
  have hb : ∀ r, (m_isApart st x y).2.1 r → r = 0 ∨ r = 1 := by
    unfold m_isApart
    repeat' split
    · intro r hr; obtain rfl := hr; exact b2i_01 _
    · intro r hr; exact hr.elim
  unfold w_L_isApart_J15
  refine ⟨d.has, gCall_mk (by decide) (by decide) (c_isApart d hx hy (l_retB hO hA k hb (fun h' e q => ?_)))⟩
  have hle := l_isApart_le (st := st) (x := x) (y := y)
  generalize (m_isApart st x y).1 = cd at e q hle ⊢
  obtain rfl : cd = 1 := by omega
  exact ⟨rfl, q⟩
theorem l_size_le {x : Int} {bz : Bool} : (m_size st x bz).1 ≤ 1 := by
  unfold m_size
  (try unfold exch); (try unfold settled); (try unfold takeOut)
  repeat' split
  all_goals simp
theorem l_size {x z : Int} {bz : Bool} (d : gD A G h U st) (hO : h O = some (6, [.long z0, sv])) (hA : ∀ i, i < 31 → O ≠ A i) (hx : gR x) (hz : z = b2i bz) (k : ∀ h' U' z' s', gD A G h' U' (m_size st x bz).2.2 → lF A O h h' → h' O = some (6, [.long z', s']) → ((m_size st x bz).1 = 0 → ∃ r, (m_size st x bz).2.1 r ∧ z' = gI2l r) → Q ((m_size st x bz).1 : Int) h') : w_L_size (A 22) x z O h Q := by
  unfold w_L_size
  refine ⟨d.has, gCall_mk (by decide) (by decide) (c_size d hx hz (l_ret hO hA k (fun h' e q => ?_)))⟩
  have hle := l_size_le (st := st) (x := x) (bz := bz)
  generalize (m_size st x bz).1 = cd at e q hle ⊢
  obtain rfl : cd = 1 := by omega
  exact ⟨rfl, q⟩
theorem l_ups_le {x : Int} {bz : Bool} : (m_ups st x bz).1 ≤ 1 := by
  unfold m_ups
  (try unfold exch); (try unfold settled); (try unfold takeOut)
  repeat' split
  all_goals simp
theorem l_ups {x z : Int} {bz : Bool} (d : gD A G h U st) (hO : h O = some (6, [.long z0, sv])) (hA : ∀ i, i < 31 → O ≠ A i) (hx : gR x) (hz : z = b2i bz) (k : ∀ h' U' z' s', gD A G h' U' (m_ups st x bz).2.2 → lF A O h h' → h' O = some (6, [.long z', s']) → ((m_ups st x bz).1 = 0 → ∃ r, (m_ups st x bz).2.1 r ∧ z' = gI2l r) → Q ((m_ups st x bz).1 : Int) h') : w_L_ups (A 22) x z O h Q := by
  unfold w_L_ups
  refine ⟨d.has, gCall_mk (by decide) (by decide) (c_ups d hx hz (l_ret hO hA k (fun h' e q => ?_)))⟩
  have hle := l_ups_le (st := st) (x := x) (bz := bz)
  generalize (m_ups st x bz).1 = cd at e q hle ⊢
  obtain rfl : cd = 1 := by omega
  exact ⟨rfl, q⟩
theorem l_cross_le {x : Int} : (m_cross st x).1 ≤ 1 := by
  unfold m_cross
  (try unfold exch); (try unfold settled); (try unfold takeOut)
  repeat' split
  all_goals simp
theorem l_cross {x : Int} (d : gD A G h U st) (hO : h O = some (6, [.long z0, sv])) (hA : ∀ i, i < 31 → O ≠ A i) (hx : gR x) (k : ∀ h' U' z' s', gD A G h' U' (m_cross st x).2.2 → lF A O h h' → h' O = some (6, [.long z', s']) → ((m_cross st x).1 = 0 → ∃ r, (m_cross st x).2.1 r ∧ z' = gI2l r) → Q ((m_cross st x).1 : Int) h') : w_L_cross (A 22) x O h Q := by
  unfold w_L_cross
  refine ⟨d.has, gCall_mk (by decide) (by decide) (c_cross d hx (l_ret hO hA k (fun h' e q => ?_)))⟩
  have hle := l_cross_le (st := st) (x := x)
  generalize (m_cross st x).1 = cd at e q hle ⊢
  obtain rfl : cd = 1 := by omega
  exact ⟨rfl, q⟩
theorem l_alike_le {x : Int} : (m_alike st x).1 ≤ 1 := by
  unfold m_alike
  (try unfold exch); (try unfold settled); (try unfold takeOut)
  repeat' split
  all_goals simp
theorem l_alike {x : Int} (d : gD A G h U st) (hO : h O = some (6, [.long z0, sv])) (hA : ∀ i, i < 31 → O ≠ A i) (hx : gR x) (k : ∀ h' U' z' s', gD A G h' U' (m_alike st x).2.2 → lF A O h h' → h' O = some (6, [.long z', s']) → ((m_alike st x).1 = 0 → ∃ r, (m_alike st x).2.1 r ∧ z' = gI2l r) → Q ((m_alike st x).1 : Int) h') : w_L_alike (A 22) x O h Q := by
  unfold w_L_alike
  refine ⟨d.has, gCall_mk (by decide) (by decide) (c_alike d hx (l_ret hO hA k (fun h' e q => ?_)))⟩
  have hle := l_alike_le (st := st) (x := x)
  generalize (m_alike st x).1 = cd at e q hle ⊢
  obtain rfl : cd = 1 := by omega
  exact ⟨rfl, q⟩
theorem l_house_le {x : Int} : (m_house st x).1 ≤ 1 := by
  unfold m_house
  (try unfold exch); (try unfold settled); (try unfold takeOut)
  repeat' split
  all_goals simp
theorem l_house {x : Int} (d : gD A G h U st) (hO : h O = some (6, [.long z0, sv])) (hA : ∀ i, i < 31 → O ≠ A i) (hx : gR x) (k : ∀ h' U' z' s', gD A G h' U' (m_house st x).2.2 → lF A O h h' → h' O = some (6, [.long z', s']) → ((m_house st x).1 = 0 → ∃ r, (m_house st x).2.1 r ∧ z' = gI2l r) → Q ((m_house st x).1 : Int) h') : w_L_house (A 22) x O h Q := by
  unfold w_L_house
  refine ⟨d.has, gCall_mk (by decide) (by decide) (c_house d hx (l_ret hO hA k (fun h' e q => ?_)))⟩
  have hle := l_house_le (st := st) (x := x)
  generalize (m_house st x).1 = cd at e q hle ⊢
  obtain rfl : cd = 1 := by omega
  exact ⟨rfl, q⟩
theorem l_text {x : Int} (d : gD A G h U st) (hO : h O = some (6, [.long z0, sv])) (hA : ∀ i, i < 31 → O ≠ A i) (hx : gR x) (k : ∀ h' U' z' s' (c : Nat), gD A G h' U' st → lF A O h h' → h' O = some (6, [.long z', s']) → Q (c : Int) h') : w_L_text G (A 22) x O h Q := by
  unfold w_L_text
  exact ⟨d.has, gCall_mk (by decide) (by decide) (c_text d hx (fun _ => ⟨rfl, k h U z0 sv 1 d (fun _ _ _ _ q => q) hO⟩) (fun _ h' o f _ => l_retS hO d hA k f))⟩
theorem l_turns {x : Int} (d : gD A G h U st) (hO : h O = some (6, [.long z0, sv])) (hA : ∀ i, i < 31 → O ≠ A i) (hx : gR x) (m3 : h (G.2.2.2 1) = some (1101, gaOnes)) (k : ∀ h' U' z' s' (c : Nat), gD A G h' U' st → lF A O h h' → h' O = some (6, [.long z', s']) → Q (c : Int) h') : w_L_turns G (A 22) x O h Q := by
  unfold w_L_turns
  exact ⟨d.has, gCall_mk (by decide) (by decide) (c_turns d hx m3 (fun _ => ⟨rfl, k h U z0 sv 1 d (fun _ _ _ _ q => q) hO⟩) (fun _ h' o f _ => l_retS hO d hA k f))⟩
theorem l_grown {x z : Int} (d : gD A G h U st) (hO : h O = some (6, [.long z0, sv])) (hA : ∀ i, i < 31 → O ≠ A i) (hx : gR x) (hz : z = 0 ∨ z = 1) (k : ∀ h' U' z' s' (c : Nat), gD A G h' U' st → lF A O h h' → h' O = some (6, [.long z', s']) → Q (c : Int) h') : w_L_grown G (A 22) x z O h Q := by
  unfold w_L_grown
  exact ⟨d.has, gCall_mk (by decide) (by decide) (c_grown d hx hz (fun _ => ⟨rfl, k h U z0 sv 1 d (fun _ _ _ _ q => q) hO⟩) (fun _ h' o f _ => l_retS hO d hA k f))⟩
end WL
