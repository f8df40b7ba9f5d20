/-! A turn's rule undone. -/
theorem img_first {t : Nat} (w : List Bool) {j : Nat} (h : j < t) : (img (xT t) [false] w).getD j false = false := by
  induction w generalizing j with
  | nil => simp [img]
  | cons b s ih =>
    cases b
    · show (xT t ++ img (xT t) [false] s).getD j false = false
      rw [List.getD_eq_getElem?_getD, List.append_assoc, List.getElem?_append_left (by simpa using h)]
      simp [List.getElem?_replicate, h]
    · show (false :: img (xT t) [false] s).getD j false = false
      cases j with
      | zero => rfl
      | succ j => exact ih (by omega)
theorem stands_app {p x r : List Bool} : stands (p ++ (x ++ r)) x p.length = true := by
  unfold stands
  rw [Bool.and_eq_true, decide_eq_true_eq, decide_eq_true_eq]
  refine ⟨by simp, ?_⟩
  rw [List.drop_left, List.take_left]
theorem stands_no {t : Nat} {p w : List Bool} : stands (p ++ (false :: img (xT t) [false] w)) (xT t) p.length = false := by
  unfold stands
  by_cases q : (((p ++ (false :: img (xT t) [false] w)).drop p.length).take (xT t).length = xT t)
  · exfalso
    rw [List.drop_left] at q
    have h : ((false :: img (xT t) [false] w).take (xT t).length).getD t false = (xT t).getD t false := by rw [q]
    rw [getD_take (by simp)] at h
    have e1 : (xT t).getD t false = true := by
      rw [List.getD_eq_getElem?_getD, List.getElem?_append_right (by simp)]
      simp
    rw [e1] at h
    cases t with
    | zero => cases h
    | succ t =>
      have : (img (xT (t + 1)) [false] w).getD t false = true := h
      rw [img_first w (by omega)] at this
      cases this
  · rw [decide_eq_false q, Bool.and_false]
theorem undo_img {t : Nat} : ∀ (w p : List Bool), okR (xT t) [false] (p ++ img (xT t) [false] w) p.length = true ∧ walkR (xT t) [false] (p ++ img (xT t) [false] w) p.length = w
  | [], p => by
    constructor
    · rw [okR_at (by simp) (by simp)]
      rw [decide_eq_true (by simp [img])]; rfl
    · rw [walkR]
      rw [dif_neg (by simp [img])]
  | b :: s, p => by
    cases b
    · have ih := undo_img (t := t) s (p ++ xT t)
      have e : p ++ img (xT t) [false] (false :: s) = (p ++ xT t) ++ img (xT t) [false] s := by
        rw [List.append_assoc]; rfl
      have st : stands (p ++ img (xT t) [false] (false :: s)) (xT t) p.length = true := stands_app (r := img (xT t) [false] s)
      rw [List.length_append] at ih
      rw [← e] at ih
      constructor
      · rw [okR_at (by simp) (by simp), st, ih.1]; simp
      · rw [walkR, dif_pos ⟨by rw [e]; simp; omega, by simp, by simp⟩, st, ih.1, if_pos (show (true && true) = true from rfl), ih.2]
    · have ih := undo_img (t := t) s (p ++ [false])
      have e : p ++ img (xT t) [false] (true :: s) = (p ++ [false]) ++ img (xT t) [false] s := by
        rw [List.append_assoc]; rfl
      have st : stands (p ++ img (xT t) [false] (true :: s)) (xT t) p.length = false := stands_no
      have st2 : stands (p ++ img (xT t) [false] (true :: s)) [false] p.length = true := stands_app (r := img (xT t) [false] s)
      rw [List.length_append] at ih
      rw [← e] at ih
      constructor
      · rw [okR_at (by simp) (by simp), st, st2]
        have := ih.1
        simp only [List.length_singleton] at this ⊢
        rw [this]; simp
      · rw [walkR, dif_pos ⟨by rw [e]; simp, by simp, by simp⟩, st, Bool.false_and, if_neg (show ¬ (false = true) from Bool.false_ne_true)]
        have := ih.2
        simp only [List.length_singleton] at this ⊢
        rw [this]
