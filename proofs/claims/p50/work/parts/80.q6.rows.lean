/-! All rows of at most five turns. -/
def rowsT : Nat → List (List Nat)
  | 0 => [[]]
  | k + 1 => (rowsT k).flatMap (fun ts => [1 :: ts, 2 :: ts, 3 :: ts])
theorem rowsT_in : ∀ ts : List Nat, tOk ts → ts ∈ rowsT ts.length
  | [], _ => List.mem_singleton.mpr rfl
  | t :: ts, h => by
    have ih := rowsT_in ts (fun x hx => h x (List.mem_cons_of_mem _ hx))
    have ht := h t (List.mem_cons_self)
    show t :: ts ∈ (rowsT ts.length).flatMap _
    refine List.mem_flatMap.mpr ⟨ts, ih, ?_⟩
    rcases (show t = 1 ∨ t = 2 ∨ t = 3 by omega) with rfl | rfl | rfl <;> simp
def rowsA : List (List Nat) := ((List.range 6).flatMap rowsT).filter (fun ts => decide ((grw ts).2.length ≤ 64))
theorem rowsA_in {ts : List Nat} (h : gOk ts) (hl : ts.length ≤ 5) : ts ∈ rowsA := by
  refine List.mem_filter.mpr ⟨List.mem_flatMap.mpr ⟨ts.length, List.mem_range.mpr (by omega), rowsT_in ts h.1⟩, decide_eq_true h.2⟩
theorem rows_roads : ∀ ts ∈ rowsA, byL ts = (grw ts).2 := by decide +kernel
theorem rows_cross : ∀ ts ∈ rowsA, crossG ts = if ts.length % 2 = 0 then 1 else -1 := by decide +kernel
theorem rows_alike : ∀ ts ∈ rowsA, unlike (grw ts).2 (grw ts).1 = ((grw ts).2.length : Int) + ((grw ts).1.length : Int) - 2 := by decide +kernel
theorem rows_folds : ∀ ts ∈ rowsA, sm (flF (grw ts).2) (grw ts).2.length = 1 := by decide +kernel
theorem rows_least : ∀ ts ∈ rowsA, (grw ts).2.drop (lst (grw ts).2 (grw ts).2.length) ++ (grw ts).2.take (lst (grw ts).2 (grw ts).2.length) = lineW (grw ts).2.length (ones (grw ts).2) 0 := by decide +kernel
theorem rows_inv : ∀ ts ∈ rowsA, ∃ q, q < (grw ts).2.length ∧ ones (grw ts).2 * q % (grw ts).2.length = 1 % (grw ts).2.length := by decide +kernel
