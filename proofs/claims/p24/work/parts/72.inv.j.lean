/-! What holds at every call: the garden, the reference, the out object, the script, and that they lie apart. -/
def lS (A B : Nat → Nat) (G : gaG) (O b : Nat) : Prop := (∀ i, i < 31 → B (6 + i) = A i) ∧ B 37 = O ∧ (∀ i j, i < 38 → j < 38 → B i = B j → i = j) ∧ (∀ i, i < 38 → b ≠ B i) ∧ (∀ i, i < 38 → G.2.2.2 0 ≠ B i) ∧ (∀ i, i < 38 → G.2.2.2 1 ≠ B i)
def lV (A B : Nat → Nat) (G : gaG) (O b L : Nat) (xs : Nat → Int32) (h : gaH) (U : Nat → List Bool) (st1 st2 : GSt) (no : Int) (z : Int64) (s : Value) : Prop := gD A G h U st1 ∧ gM B h st2 no ∧ h O = some (6, [.long z, s]) ∧ h b = some (1102, (List.range L).map (fun i => Value.int (xs i))) ∧ h (G.2.2.2 1) = some (1101, gaOnes)
theorem gM.fr {B : Nat → Nat} {h : gaH} {st : GSt} {no : Int} (d : gM B h st no) {h' : gaH} (f : ∀ a e, (∀ i, 6 ≤ i → i < 38 → a ≠ B i) → h a = some e → h' a = some e) (hB : ∀ i j, i < 38 → j < 38 → B i = B j → i = j) (ex : ∀ i, 6 ≤ i → i < 38 → ∃ e, h' (B i) = some e) : gM B h' st no := by
  obtain ⟨s, a1, a2, a3, a4, a5, a6, a7⟩ := d
  have k : ∀ i e, i < 6 → h (B i) = some e → h' (B i) = some e := fun i e hi q => f _ _ (fun j h6 hj z => by have := hB _ _ (by omega) hj z; omega) q
  refine ⟨s, k _ _ (by decide) a1, k _ _ (by decide) a2, fun w hw => ⟨f _ _ (fun j h6 hj => (a3 w hw).2.2 j hj) (a3 w hw).1, (a3 w hw).2⟩, k _ _ (by decide) a4, k _ _ (by decide) a5, fun g hg => ?_, a7.1, fun i hi => ?_⟩
  · obtain ⟨b1, row, b2, b3, b4⟩ := a6 g hg
    exact ⟨b1, row, b2, k _ _ (by omega) b3, b4⟩
  · by_cases q : i < 6
    · obtain ⟨e, z⟩ := a7.2 i hi
      exact ⟨e, k _ _ q z⟩
    · exact ex i (by omega) hi
theorem lF.fr {A : Nat → Nat} {O : Nat} {h h' : gaH} (f : gFr A h h') : lF A O h h' := fun a e h1 _ h3 => f a e h1 h3
section LV
variable {A B : Nat → Nat} {G : gaG} {O b L : Nat} {xs : Nat → Int32} {h : gaH} {U : Nat → List Bool} {st1 st2 : GSt} {no : Int} {z : Int64} {s : Value}
theorem lS.oA (S : lS A B G O b) : ∀ i, i < 31 → O ≠ A i := fun i hi q => by
  obtain ⟨s1, s2, s3, -⟩ := S
  have := s3 37 (6 + i) (by omega) (by omega) (by rw [s2, s1 i hi]; exact q)
  omega
theorem lS.n1 (S : lS A B G O b) : ∀ i, i < 6 → G.2.2.2 1 ≠ B i := fun i hi => S.2.2.2.2.2 i (by omega)
theorem lV.d (v : lV A B G O b L xs h U st1 st2 no z s) : gD A G h U st1 := v.1
theorem lV.m (v : lV A B G O b L xs h U st1 st2 no z s) : gM B h st2 no := v.2.1
theorem lV.o (v : lV A B G O b L xs h U st1 st2 no z s) : h O = some (6, [.long z, s]) := v.2.2.1
theorem lV.bb (v : lV A B G O b L xs h U st1 st2 no z s) : h b = some (1102, (List.range L).map (fun i => Value.int (xs i))) := v.2.2.2.1
theorem lV.n3 (v : lV A B G O b L xs h U st1 st2 no z s) : h (G.2.2.2 1) = some (1101, gaOnes) := v.2.2.2.2
theorem lV.cls (v : lV A B G O b L xs h U st1 st2 no z s) (S : lS A B G O b) {h' : gaH} {U' : Nat → List Bool} {st' : GSt} {z' : Int64} {s' : Value} (d : gD A G h' U' st') (f : lF A O h h') (o : h' O = some (6, [.long z', s'])) : lV A B G O b L xs h' U' st' st2 no z' s' := by
  obtain ⟨v1, v2, v3, v4, v5⟩ := v
  obtain ⟨s1, s2, s3, s4, s5, s6⟩ := S
  have k : ∀ a, (∀ i, 6 ≤ i → i < 38 → a ≠ B i) → (∀ i, i < 31 → a ≠ A i) ∧ a ≠ O := fun a q => ⟨fun i hi => by rw [← s1 i hi]; exact q _ (by omega) (by omega), by rw [← s2]; exact q _ (by omega) (by omega)⟩
  refine ⟨d, v2.fr (fun a e q => f a e (k a q).1 (k a q).2) s3 (fun i h6 hi => ?_), o, f _ _ (k b (fun i _ hi => s4 i hi)).1 (k b (fun i _ hi => s4 i hi)).2 v4, f _ _ (k _ (fun i _ hi => s6 i hi)).1 (k _ (fun i _ hi => s6 i hi)).2 v5⟩
  by_cases q : i = 37
  · rw [q, s2]; exact ⟨_, o⟩
  · obtain ⟨j, rfl⟩ : ∃ j, i = 6 + j := ⟨i - 6, by omega⟩
    rw [s1 j (by omega)]; exact d.cell j (by omega)
theorem lV.ref (v : lV A B G O b L xs h U st1 st2 no z s) (S : lS A B G O b) {h' : gaH} {st' : GSt} {no' : Int} (d : gM B h' st' no') (f : mF B h h') : lV A B G O b L xs h' U st1 st' no' z s := by
  obtain ⟨v1, v2, v3, v4, v5⟩ := v
  obtain ⟨s1, s2, s3, s4, s5, s6⟩ := S
  refine ⟨v1.fr (fun i hi => ?_) ((f _ _ (fun i hi => s5 i (by omega)) v1.mc).trans v1.mc.symm), d, f _ _ (fun i hi q => ?_) v3, f _ _ (fun i hi => s4 i (by omega)) v4, f _ _ (fun i hi => s6 i (by omega)) v5⟩
  · obtain ⟨e, q⟩ := v1.cell i hi
    rw [q]
    refine f _ _ (fun j hj z => ?_) q
    have := s3 (6 + i) j (by omega) (by omega) (by rw [s1 i hi]; exact z)
    omega
  · have := s3 37 i (by omega) (by omega) (by rw [s2]; exact q)
    omega
theorem lV.sc (v : lV A B G O b L xs h U st1 st2 no z s) {i j : Nat} {x : Int} {K : Int → Prop} (hx : x = ((i + j : Nat) : Int)) (hl : i + j < L) (hL : L ≤ 320) (k : K (xs (i + j)).toInt) : gLI h b 102 x K := by
  subst hx
  refine ⟨1102, _, (xs (i + j)).toInt, v.bb, Or.inr rfl, by omega, by omega, ?_, k⟩
  rw [Int.toNat_natCast, List.getElem?_map, List.getElem?_range hl]
  show some (Value.int (xs (i + j))) = some (Value.int (Int32.ofInt (xs (i + j)).toInt))
  rw [gi_back]
end LV
theorem r_thrown {B : Nat → Nat} {h : gaH} {st : GSt} {no : Int} {Q : Int → gaH → Prop} (d : gM B h st no) (k : Q no h) : w_X7_thrown (B 0) h Q := d.nn k
/-- both codes are the same, and both answers where the code is 0 -/
theorem cmpN {c O : Nat} {P : Int → Prop} {r : Int} {F : Prop} {h : gaH} {z : Int64} {s : Value} (hc : c ≤ 3) (hu : ∀ a b, P a → P b → a = b) (p1 : c = 0 → ∃ r, P r ∧ z = gI2l r) (p2 : c = 0 → P r) (hO : h O = some (6, [.long z, s])) (k : F) : gR (c : Int) ∧ gR (c : Int) ∧ (if (c : Int) = (c : Int) then gR (c : Int) ∧ (if (c : Int) = 0 then gL h O 6 0 (fun r15 => gR (gCmp r15 (gI2l r)) ∧ (if gCmp r15 (gI2l r) = 0 then F else False)) else F) else False) := by
  have hr : gR (c : Int) := ⟨by omega, by omega⟩
  refine ⟨hr, hr, if_yes rfl ⟨hr, ?_⟩⟩
  by_cases q : c = 0
  · obtain ⟨a, h1, h2⟩ := p1 q
    have e := hu a r h1 (p2 q)
    subst e
    subst h2
    exact if_yes (by omega) ⟨_, _, hO, rfl, gCmp_R _ _, if_yes (gCmp_self _) k⟩
  · exact if_no (by omega) k
/-! Answers that are true or false, held against each other through the out object. -/
theorem cmpB {c O : Nat} {P : Int → Prop} {r : Int} {F : Prop} {J : Int64 → Int64 → Prop} {h : gaH} {z : Int64} {s : Value} (hc : c ≤ 3) (hu : ∀ a b, P a → P b → a = b) (hb : ∀ a, P a → a = 0 ∨ a = 1) (p1 : c = 0 → ∃ r, P r ∧ z = gI2l r) (p2 : c = 0 → P r) (hO : h O = some (6, [.long z, s])) (hJ : ∀ t, J t t) (k : F) : gR (c : Int) ∧ gR (c : Int) ∧ (if (c : Int) = (c : Int) then gR (c : Int) ∧ (if (c : Int) = 0 then gL h O 6 0 (fun r15 => gR r ∧ (if r = 0 then J r15 0 else J r15 1)) else F) else False) := by
  have hr : gR (c : Int) := ⟨by omega, by omega⟩
  refine ⟨hr, hr, if_yes rfl ⟨hr, ?_⟩⟩
  by_cases q : c = 0
  · obtain ⟨a, h1, h2⟩ := p1 q
    have e := hu a r h1 (p2 q)
    subst e
    subst h2
    refine if_yes (by omega) ⟨_, _, hO, rfl, ?_⟩
    rcases hb a h1 with rfl | rfl
    · exact ⟨by decide, if_yes rfl (hJ _)⟩
    · exact ⟨by decide, if_no (by decide) (hJ _)⟩
  · exact if_no (by omega) k
