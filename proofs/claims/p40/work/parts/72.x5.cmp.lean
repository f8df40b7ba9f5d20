/-! Answers that are true or false, held against each other through the out object. -/
theorem cmpB {c O : Nat} {P : Int → Prop} {r : Int} {F : Prop} {J : Int64 → Int64 → Prop} {h : gaH} {z : Int64} {s : Value} (hc : c ≤ 3) (hu : ∀ a b, P a → P b → a = b) (hb : ∀ a, P a → a = 0 ∨ a = 1) (p1 : c = 0 → ∃ r, P r ∧ z = gI2l r) (p2 : c = 0 → P r) (hO : h O = some (6, [.long z, s])) (hJ : ∀ t, J t t) (k : F) : gR (c : Int) ∧ gR (c : Int) ∧ (if (c : Int) = (c : Int) then gR (c : Int) ∧ (if (c : Int) = 0 then gL h O 6 0 (fun r15 => gR r ∧ (if r = 0 then J r15 0 else J r15 1)) else F) else False) := by
  have hr : gR (c : Int) := ⟨by omega, by omega⟩
  refine ⟨hr, hr, if_yes rfl ⟨hr, ?_⟩⟩
  by_cases q : c = 0
  · obtain ⟨a, h1, h2⟩ := p1 q
    have e := hu a r h1 (p2 q)
    subst e
    subst h2
    refine if_yes (by omega) ⟨_, _, hO, rfl, ?_⟩
    rcases hb a h1 with rfl | rfl
    · exact ⟨by decide, if_yes rfl (hJ _)⟩
    · exact ⟨by decide, if_no (by decide) (hJ _)⟩
  · exact if_no (by omega) k
