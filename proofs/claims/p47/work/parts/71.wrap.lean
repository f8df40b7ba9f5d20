/-! The law's wrappers: what they put into the out object. -/
def lF (A : Nat → Nat) (O : Nat) (h h' : gaH) : Prop := ∀ a e, (∀ i, i < 31 → a ≠ A i) → a ≠ O → h a = some e → h' a = some e
section WL
variable {A : Nat → Nat} {G : gaG} {h : gaH} {U : Nat → List Bool} {st : GSt} {X : String → gaH → Prop} {Q : Int → gaH → Prop} {O : Nat} {z : Int64} {s : Value}
theorem gD.up (d : gD A G h U st) (hA : ∀ i, i < 31 → O ≠ A i) (hO : h O = some (6, [.long z, s])) {e : gaE} : gD A G (gaUp h O e) U st := by
  have k : ∀ i, i < 31 → gaUp h O e (A i) = h (A i) := fun i hi => gaUp_ne _ _ (fun q => hA i hi q.symm)
  obtain ⟨⟨R, N, ⟨i1, i2, m, m1, m2⟩, ee⟩, ru, ⟨x1, x2, x3⟩, gr, ok, gw, ss, mc, ne⟩ := d
  have hc : G.2.2.2 0 ≠ O := fun q => by rw [q, hO] at mc; cases mc
  exact ⟨⟨R, N, ⟨i1, fun w hw => ⟨(i2 w hw).1, (i2 w hw).2.1, (k w (by omega)).trans (i2 w hw).2.2.1, (k _ (by omega)).trans (i2 w hw).2.2.2⟩, m, m1, (k 30 (by decide)).trans m2⟩, ee⟩, (k 25 (by decide)).trans ru, ⟨(k 22 (by decide)).trans x1, (k 23 (by decide)).trans x2, (k 24 (by decide)).trans x3⟩, fun g hg => by
    obtain ⟨a0, row, a1, a2, a3, a4⟩ := gr g hg
    exact ⟨(k _ (by omega)).trans a0, row, a1, a2, (k _ (by omega)).trans a3, a4⟩, ok, gw, ss, by rw [gaUp_ne _ _ hc]; exact mc, ne⟩
theorem l_ret {E : List String} {o : Nat × (Int → Prop) × GSt} (hO : h O = some (6, [.long z, s])) (hA : ∀ i, i < 31 → O ≠ A i) (k : ∀ h' U' z' s', gD A G h' U' o.2.2 → lF A O h h' → h' O = some (6, [.long z', s']) → (o.1 = 0 → ∃ r, o.2.1 r ∧ z' = gI2l r) → Q (o.1 : Int) h') (hX : ∀ h', o.1 ≠ 0 → Q (o.1 : Int) h' → X (E.getD (o.1 - 1) "") h') : gRes A G h E X (fun r2 hp1 => gPF hp1 O 6 0 (.long (gI2l r2)) (fun hp5 => Q 0 hp5)) o := by
  intro h' U' d f
  have hO2 := f O _ hA hO
  refine ⟨fun e r hr => gPF_mk hO2 (by simp) ?_, fun e => hX h' e (k h' U' z s d (fun a e h1 _ h3 => f a e h1 h3) hO2 (fun q => absurd q e))⟩
  have := k _ U' (gI2l r) s (d.up hA hO2) (fun a e h1 h2 h3 => by rw [gaUp_ne _ _ h2]; exact f a e h1 h3) (gaUp_self _ _ _) (fun _ => ⟨r, hr, rfl⟩)
  rw [e] at this
  exact this
-- WRAPPERS
theorem l_write_le {x c : Int} : (m_write st x c).1 ≤ 2 := by
  unfold m_write
  (try unfold exch); (try unfold settled); (try unfold takeOut)
  repeat' split
  all_goals simp
theorem l_append_le {x y : Int} : (m_append st x y).1 ≤ 1 := by
  unfold m_append
  (try unfold exch); (try unfold settled); (try unfold takeOut)
  repeat' split
  all_goals simp
theorem l_insertSheet_le {x y z : Int} : (m_insertSheet st x y z).1 ≤ 1 := by
  unfold m_insertSheet
  (try unfold exch); (try unfold settled); (try unfold takeOut)
  repeat' split
  all_goals simp
theorem l_removeSign_le {x y : Int} : (m_removeSign st x y).1 ≤ 1 := by
  unfold m_removeSign
  (try unfold exch); (try unfold settled); (try unfold takeOut)
  repeat' split
  all_goals simp
theorem l_remove_le {x y z : Int} : (m_remove st x y z).1 ≤ 1 := by
  unfold m_remove
  (try unfold exch); (try unfold settled); (try unfold takeOut)
  repeat' split
  all_goals simp
theorem l_replace_le {x y z v : Int} : (m_replace st x y z v).1 ≤ 1 := by
  unfold m_replace
  (try unfold exch); (try unfold settled); (try unfold takeOut)
  repeat' split
  all_goals simp
theorem l_cutTo_le {x y : Int} : (m_cutTo st x y).1 ≤ 2 := by
  unfold m_cutTo
  (try unfold exch); (try unfold settled); (try unfold takeOut)
  repeat' split
  all_goals simp
theorem l_turn_le {x : Int} : (m_turn st x).1 ≤ 1 := by
  unfold m_turn
  (try unfold exch); (try unfold settled); (try unfold takeOut)
  repeat' split
  all_goals simp
theorem l_exchange_le {x : Int} : (m_exchange st x).1 ≤ 1 := by
  unfold m_exchange
  (try unfold exch); (try unfold settled); (try unfold takeOut)
  repeat' split
  all_goals simp
theorem l_rotate_le {x y : Int} : (m_rotate st x y).1 ≤ 2 := by
  unfold m_rotate
  (try unfold exch); (try unfold settled); (try unfold takeOut)
  repeat' split
  all_goals simp
theorem l_copy_le {x y : Int} : (m_copy st x y).1 ≤ 1 := by
  unfold m_copy
  (try unfold exch); (try unfold settled); (try unfold takeOut)
  repeat' split
  all_goals simp
theorem l_apply_le {x y z : Int} : (m_apply st x y z).1 ≤ 2 := by
  unfold m_apply
  (try unfold exch); (try unfold settled); (try unfold takeOut)
  repeat' split
  all_goals simp
theorem l_undo_le {x y z : Int} : (m_undo st x y z).1 ≤ 3 := by
  unfold m_undo
  (try unfold exch); (try unfold settled); (try unfold takeOut)
  repeat' split
  all_goals simp
theorem l_lay_le {x y z : Int} : (m_lay st x y z).1 ≤ 2 := by
  unfold m_lay
  (try unfold exch); (try unfold settled); (try unfold takeOut)
  repeat' split
  all_goals simp
theorem l_twos_le {x y z : Int} : (m_twos st x y z).1 ≤ 2 := by
  unfold m_twos
  (try unfold exch); (try unfold settled); (try unfold takeOut)
  repeat' split
  all_goals simp
theorem l_line_le {x n p s : Int} : (m_line st x n p s).1 ≤ 2 := by
  unfold m_line
  (try unfold exch); (try unfold settled); (try unfold takeOut)
  repeat' split
  all_goals simp
theorem l_grow_le {x y : Int} : (m_grow st x y).1 ≤ 2 := by
  unfold m_grow
  (try unfold exch); (try unfold settled); (try unfold takeOut)
  repeat' split
  all_goals simp
theorem l_shrink_le {x : Int} : (m_shrink st x).1 ≤ 2 := by
  unfold m_shrink
  (try unfold exch); (try unfold settled); (try unfold takeOut)
  repeat' split
  all_goals simp
theorem l_fresh_le {x : Int} : (m_fresh st x).1 ≤ 1 := by
  unfold m_fresh
  (try unfold exch); (try unfold settled); (try unfold takeOut)
  repeat' split
  all_goals simp
end WL
