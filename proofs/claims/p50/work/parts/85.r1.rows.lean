/-! A growth's word of at most five turns: what the law asks of it. -/
theorem grw_first {t : Nat} {us : List Nat} (h : tOk (t :: us)) : (grw (t :: us)).2 = img (xT t) [false] (grw us).2 := by
  have h2 : tOk us := fun x hx => h x (List.mem_cons_of_mem _ hx)
  have ht := h t List.mem_cons_self
  rw [grw_phi _ (t :: us) rfl h, grw_phi _ us rfl h2]
  show img (codeW (cf t)) (codeW 2) (phi us [false]) = img (xT t) [false] (phi us [false])
  have e : codeW (cf t) = xT t ∧ codeW 2 = [false] := by
    rcases (show t = 1 ∨ t = 2 ∨ t = 3 by omega) with rfl | rfl | rfl <;> decide +kernel
  rw [e.1, e.2]
theorem gOk_tail : ∀ {ts : List Nat}, gOk ts → gOk ts.tail
  | [], h => h
  | t :: us, h => by
    have e := grw_first h.1
    have l := img_ge (xT t) [false] (by simp) (by simp) (grw us).2
    have h2 := h.2
    rw [e] at h2
    exact ⟨fun x hx => h.1 x (List.mem_cons_of_mem _ hx), Nat.le_trans l h2⟩
theorem grw_snoc_len (ts : List Nat) (t : Nat) : (grw (ts ++ [t])).2.length = t * (grw ts).2.length + (grw ts).1.length := by
  rw [grw_snoc]
  show (rep t (grw ts).2 ++ (grw ts).1).length = _
  rw [List.length_append, rep_len]
theorem gtT_snoc (ts : List Nat) (t : Nat) : gtT (ts ++ [t]) = max (gtT ts) t := by
  unfold gtT
  rw [List.foldl_append]; rfl
theorem grw_pos {ts : List Nat} (h : gOk ts) : 1 ≤ (grw ts).2.length := by
  have := (grw_len _ ts rfl h.1).1
  omega
section RW
variable {ts : List Nat}
theorem rows_ring (hr : ts ∈ rowsA) (h1 : 1 ≤ (grw ts).2.length) : ∃ r, r < (grw ts).2.length ∧ ∀ t, t < (grw ts).2.length → rg (grw ts).2 (r + t) = lineB (grw ts).2.length (ones (grw ts).2) 0 t := by
  have e := rows_least ts hr
  have hl := lst_lt (grw ts).2 _ h1
  generalize (grw ts).2 = u at e hl h1 ⊢
  refine ⟨lst u u.length, hl, fun t ht => ?_⟩
  rw [← lineV_at (n := u.length) (p := ones u) (s := 0) ht, ← e]
  unfold rg
  rw [List.getD_eq_getElem?_getD, List.getD_eq_getElem?_getD]
  by_cases q : lst u u.length + t < u.length
  · rw [Nat.mod_eq_of_lt q, List.getElem?_append_left (by rw [List.length_drop]; omega), List.getElem?_drop]
  · rw [Nat.mod_eq_sub_mod (by omega), Nat.mod_eq_of_lt (by omega), List.getElem?_append_right (by rw [List.length_drop]; omega), List.length_drop, List.getElem?_take_of_lt (by omega)]
    congr 2; omega
theorem rows_evn (hr : ts ∈ rowsA) (h1 : 1 ≤ (grw ts).2.length) : evn (grw ts).2 := by
  obtain ⟨r, r1, r2⟩ := rows_ring hr h1
  exact line_evn h1 r1 r2
theorem rows_kinds (hr : ts ∈ rowsA) (h1 : 1 ≤ (grw ts).2.length) {l : Nat} (hl : l ≤ (grw ts).2.length) : sm (kdF (grw ts).2 l) (begins (grw ts).2.length l true) = if l < (grw ts).2.length then l + 1 else (grw ts).2.length := by
  obtain ⟨r, r1, r2⟩ := rows_ring hr h1
  obtain ⟨q, -, q2⟩ := rows_inv ts hr
  exact kinds_line h1 r1 r2 q2 hl
theorem rows_mirrors (hr : ts ∈ rowsA) (hl : (grw ts).2.length ≤ 64) : sm (fun a => sm (mrF (grw ts).2 a) 66) (grw ts).2.length = (grw ts).2.length :=
  Nat.le_antisymm (mirrors_le hl) (mirrors_ge hl (rows_pal ts hr))
theorem rows_times (hr : ts ∈ rowsA) {r : Int} (h : isT (grw ts).2 r) : r ≤ (gtT ts : Int) + 2 := by
  have := fewT_le (c := gtT ts + 3) (by omega) (rows_few ts hr) h
  omega
end RW
