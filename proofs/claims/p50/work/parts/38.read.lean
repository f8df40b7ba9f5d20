/-! Twos; and what is read from words, as far as its bounds. -/
def twL : Nat → List Bool
  | 0 => [false]
  | s + 1 => twL s ++ (twL s).map (fun b => !b)
theorem twL_len : ∀ s, s ≤ 6 → (twL s).length = 2 ^ s := by decide +kernel
theorem twL_img : ∀ s, s < 6 → img (codeW 5) (codeW 6) (twL s) = twL (s + 1) := by decide +kernel
theorem twL_take : ∀ s, s ≤ 6 → twL s = (twL 6).take (2 ^ s) := by decide +kernel
def bcE (a0 : Int) : Int := gAnd (((gAnd (((gAnd (a0 - (gAnd (gUshr a0 1) 1431655765)) 858993459) + (gAnd (gUshr (a0 - (gAnd (gUshr a0 1) 1431655765)) 2) 858993459)) + (gUshr ((gAnd (a0 - (gAnd (gUshr a0 1) 1431655765)) 858993459) + (gAnd (gUshr (a0 - (gAnd (gUshr a0 1) 1431655765)) 2) 858993459)) 4)) 252645135) + (gUshr (gAnd (((gAnd (a0 - (gAnd (gUshr a0 1) 1431655765)) 858993459) + (gAnd (gUshr (a0 - (gAnd (gUshr a0 1) 1431655765)) 2) 858993459)) + (gUshr ((gAnd (a0 - (gAnd (gUshr a0 1) 1431655765)) 858993459) + (gAnd (gUshr (a0 - (gAnd (gUshr a0 1) 1431655765)) 2) 858993459)) 4)) 252645135) 8)) + (gUshr ((gAnd (((gAnd (a0 - (gAnd (gUshr a0 1) 1431655765)) 858993459) + (gAnd (gUshr (a0 - (gAnd (gUshr a0 1) 1431655765)) 2) 858993459)) + (gUshr ((gAnd (a0 - (gAnd (gUshr a0 1) 1431655765)) 858993459) + (gAnd (gUshr (a0 - (gAnd (gUshr a0 1) 1431655765)) 2) 858993459)) 4)) 252645135) + (gUshr (gAnd (((gAnd (a0 - (gAnd (gUshr a0 1) 1431655765)) 858993459) + (gAnd (gUshr (a0 - (gAnd (gUshr a0 1) 1431655765)) 2) 858993459)) + (gUshr ((gAnd (a0 - (gAnd (gUshr a0 1) 1431655765)) 858993459) + (gAnd (gUshr (a0 - (gAnd (gUshr a0 1) 1431655765)) 2) 858993459)) 4)) 252645135) 8)) 16)) 63
theorem bcE_par : ∀ i : Nat, i < 64 → gAnd (bcE (i : Int)) 1 = b2i ((twL 6).getD i false) := by decide +kernel
theorem getD_take {u : List Bool} {n i : Nat} (hi : i < n) : (u.take n).getD i false = u.getD i false := by rw [List.getD_eq_getElem?_getD, List.getElem?_take_of_lt hi, ← List.getD_eq_getElem?_getD]
section PT
variable {A : Nat → Nat} {h : gaH} {U : Nat → List Bool} {w v g : Nat} {G : gaG}
end PT
