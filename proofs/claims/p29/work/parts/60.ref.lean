/-! The reference: undo. -/
def stepv (x y u : List Bool) (j : Nat) : Int := if (stands u x j && okR x y u (j + x.length)) = true then 1 else if (stands u y j && okR x y u (j + y.length)) = true then 2 else 0
theorem stepv_pos {x y u : List Bool} (hx : 0 < x.length) (hy : 0 < y.length) {j : Nat} (hj : j < u.length) : (0 < stepv x y u j ↔ okR x y u j = true) := by
  rw [okR_at hx hy j, decide_eq_false (by omega), Bool.false_or]
  unfold stepv
  cases stands u x j && okR x y u (j + x.length) <;> cases stands u y j && okR x y u (j + y.length) <;> decide
theorem stepv_R (x y u : List Bool) (j : Nat) : 0 ≤ stepv x y u j ∧ stepv x y u j ≤ 2 := by
  unfold stepv
  split
  · decide
  · split <;> decide
theorem unl_same {u v : List Bool} (h : u ++ v = v ++ u) : ∀ f i, unl u v f i = -1
  | 0, _ => rfl
  | f + 1, i => by
    unfold unl
    rw [h]
    split
    · rfl
    · rw [if_pos rfl]; exact unl_same h f (i + 1)
theorem unlike_dec (u v : List Bool) : decide (unlike u v ≠ -1) = !decide (u ++ v = v ++ u) := by
  by_cases q : u ++ v = v ++ u
  · rw [decide_eq_true q, decide_eq_false (fun z => z (unl_same q _ _))]; rfl
  · rw [decide_eq_false q, decide_eq_true (unlike_iff q)]; rfl
def mJ (h : gaH) (a : Nat) (xs : List Int) : Prop := h a = some (102, xs.map gi)
section RU
variable {B : Nat → Nat} {h h0 : gaH} {st : GSt} {no : Int} {a b o : Nat} {u v : List Bool} {w g : Nat} {x y z : Int} {Q : Int → gaH → Prop}
theorem mJ.at {xs : List Int} (r : mJ h a xs) {i : Nat} {c : Int} (hx : x = (i : Int)) (hi : xs[i]? = some c) (hl : i ≤ 1000) {K : Int → Prop} (k : K c) : gLI h a 102 x K := by
  subst hx
  exact gLI_mk r (by omega) (by omega) (by rw [Int.toNat_natCast, List.getElem?_map, hi]; rfl) k
theorem mJ.on {xs : List Int} {h' : gaH} (r : mJ h a xs) (k : mK h h') : mJ h' a xs := k _ _ r
theorem r_isApartRule (hx : 2 ≤ x ∧ x ≤ 31) (hy : 2 ≤ y ∧ y ≤ 31) (k : ∀ h', mK h h' → Q (b2i (decide (unlike (codeW x.toNat) (codeW y.toNat) ≠ -1))) h') : w_X7_isApartRule x y h Q := by
  obtain ⟨c, rfl⟩ : ∃ w : Nat, x = w := ⟨x.toNat, by omega⟩
  obtain ⟨e, rfl⟩ : ∃ w : Nat, y = w := ⟨y.toNat, by omega⟩
  simp only [Int.toNat_natCast] at k
  have l1 := (code_ok c (by omega) (by omega)).2
  have l2 := (code_ok e (by omega) (by omega)).2
  unfold w_X7_isApartRule
  refine gCall_mk (by decide) (by decide) (r_ofCode (c := c) rfl (by omega) (by omega) (fun p h1 f1 => gCall_mk (by decide) (by decide) (r_ofCode (c := e) rfl (by omega) (by omega) (fun q h2 f2 => ?_))))
  have rp := f1.2.2.on f2.2.1
  have rq := f2.2.2
  refine rp.len (rp.len (gCall_mk (by decide) (by decide) (r_spliced rp rq rfl rfl (Nat.le_refl _) (Nat.le_refl _) (by omega) (by omega) (fun o h3 f3 => ?_))))
  have rp3 := rp.on f3.2.1
  have rq3 := rq.on f3.2.1
  refine rq3.len (rq3.len (gCall_mk (by decide) (by decide) (r_spliced rq3 rp3 rfl rfl (Nat.le_refl _) (Nat.le_refl _) (by omega) (by omega) (fun o2 h4 f4 => ?_))))
  have ra := f3.2.2.on f4.2.1
  have rb := f4.2.2
  simp only [List.take_length, List.drop_length, List.append_nil] at ra rb
  refine r_areSame ra rb (by simp; omega) (by simp; omega) ⟨b2i_R _, ?_⟩
  have kk := k h4 (f1.2.1.tr (f2.2.1.tr (f3.2.1.tr f4.2.1)))
  rw [unlike_dec] at kk
  generalize decide (codeW c ++ codeW e = codeW e ++ codeW c) = t at kk ⊢
  cases t
  · exact if_yes rfl kk
  · exact if_no (by decide) kk
theorem r_isApart (d : gM B h st no) (hx : gR x) (hy : gR y) (k : mRes B h Q (m_isApart st x y)) : w_X7_isApart (B 0) x y h Q := by
  unfold w_X7_isApart
  refine r_isNoRule hx hy ⟨d.has, r_start d rfl (by decide) (fun q h1 d1 f1 => ?_) (fun q h1 d1 f1 => ?_)⟩
  · have q1 := nd q
    rw [m_isApart, if_pos q1] at k
    refine ⟨by decide, if_yes rfl (gCall_mk (by decide) (by decide) (r_isApartRule q1.1 q1.2 (fun h2 k2 => ⟨b2i_R _, ?_⟩)))⟩
    have kk := fun r hr => k.ok (r := r) (d1.kp k2) (f1.tr (mF.kp k2)) hr
    generalize decide (unlike (codeW x.toNat) (codeW y.toNat) ≠ -1) = t at kk ⊢
    cases t
    · exact if_yes rfl (kk _ rfl)
    · exact if_no (by decide) (kk _ rfl)
  · rw [m_isApart, if_neg (nn q)] at k
    exact ⟨by decide, if_no (by decide) (k.ex d1 f1)⟩
theorem r_flag {X Y m : List Bool} {c : Nat} {xs : List Int} (ru : mR h a u) (rm : mR h c m) (ro : mJ h o xs) (hX : 0 < X.length) (hY : 0 < Y.length) (hm : 0 < m.length) (hul : u.length ≤ 64) (hml : m.length ≤ 1000) {j : Nat} (hj : j < u.length) (hxs : ∀ i, j < i → i < u.length → xs[i]? = some (stepv X Y u i)) {F0 F1 : gaH → Prop} (k1 : (stands u m j && okR X Y u (j + m.length)) = true → F1 h) (k0 : (stands u m j && okR X Y u (j + m.length)) = false → F0 h) :
    w_X7_standsAt a c (j : Int) h (fun r2 hp1 => gR r2 ∧ (if r2 = 0 then F0 hp1 else gAL hp1 c 102 (fun r3 => gAL hp1 a 102 (fun r4 => gR ((j : Int) + r3) ∧ gR r4 ∧ (if ((j : Int) + r3) = r4 then F1 hp1 else gAL hp1 c 102 (fun r5 => gLI hp1 o 102 ((j : Int) + r5) (fun r6 => gR r6 ∧ (if r6 ≤ 0 then F0 hp1 else F1 hp1)))))))) := by
  refine r_standsAt ru rm rfl (by omega) (by omega) hml ⟨b2i_R _, ?_⟩
  cases e : stands u m j
  · rw [e] at k0; exact if_yes rfl (k0 rfl)
  · rw [e, Bool.true_and] at k0 k1
    have hle := stands_le e
    refine if_no (by decide) (rm.len (ru.len ⟨by omega, by omega, ?_⟩))
    by_cases q : j + m.length = u.length
    · refine if_yes (by omega) (k1 ?_)
      rw [q, okR_at hX hY, decide_eq_true rfl, Bool.true_or]
    · have sp := stepv_pos hX hY (show j + m.length < u.length by omega)
      have sr := stepv_R X Y u (j + m.length)
      refine if_no (by omega) (rm.len (ro.at (i := j + m.length) (by omega) (hxs _ (by omega) (by omega)) (by omega) ⟨by omega, ?_⟩))
      by_cases z : stepv X Y u (j + m.length) ≤ 0
      · refine if_yes z (k0 ?_)
        cases e2 : okR X Y u (j + m.length)
        · rfl
        · exact absurd (sp.mpr e2) (by omega)
      · exact if_no z (k1 (sp.mp (by omega)))
theorem r_steps_L13 {Q : Nat → gaH → Prop} {X Y : List Bool} {p q : Nat} (ru : mR h0 a u) (rX : mR h0 p X) (rY : mR h0 q Y) (hX : 0 < X.length) (hY : 0 < Y.length) (hXl : X.length ≤ 100) (hYl : Y.length ≤ 100) (hul : u.length ≤ 64) (ho : h0 o = none) (k : ∀ h' xs, mK h0 h' → mJ h' o xs → (∀ i, i < u.length → xs[i]? = some (stepv X Y u i)) → Q o h') {kc ks : Nat} : ∀ (z j : Nat) (h : gaH) (xs : List Int), mK h0 h → mJ h o xs → xs.length = u.length + 1 → (∀ i, j ≤ i → i < u.length → xs[i]? = some (stepv X Y u i)) → j ≤ u.length → j < z → w_X7_steps_L13 Q z a p q o ((j : Int) - 1) h kc ks
  | 0, _, _, _, _, _, _, _, _, h9 => absurd h9 (Nat.not_lt_zero _)
  | z + 1, j, h, xs, kp, rx, hxl, hxs, hj, h9 => by
    unfold w_X7_steps_L13
    refine ⟨by omega, ?_⟩
    by_cases q0 : j = 0
    · subst q0
      exact if_yes (by decide) (k h xs kp rx (fun i hi => hxs i (Nat.zero_le _) hi))
    · refine if_no (by omega) ?_
      have ej : (j : Int) - 1 = ((j - 1 : Nat) : Int) := by omega
      rw [ej]
      have fin : ∀ c : Int, c = stepv X Y u (j - 1) → w_X7_steps_J114 Q (w_X7_steps_L13 Q z) a p q o ((j - 1 : Nat) : Int) o ((j - 1 : Nat) : Int) c h kc ks := by
        intro c hc
        unfold w_X7_steps_J114
        refine gSI_mk rx (by omega) (by omega) (by rw [Int.toNat_natCast]; simp; omega) ?_
        rw [Int.toNat_natCast, ← List.map_set, show ((j - 1 : Nat) : Int) + -1 = ((j - 1 : Nat) : Int) - 1 by omega]
        refine r_steps_L13 ru rX rY hX hY hXl hYl hul ho k z (j - 1) _ (xs.set (j - 1) c) (kp.up ho _) (gaUp_self _ _ _) (by simpa using hxl) (fun i h1 h2 => ?_) (by omega) (by omega)
        by_cases e : i = j - 1
        · rw [e, List.getElem?_set_self (by omega), hc]
        · rw [List.getElem?_set_ne (by omega)]; exact hxs i (by omega) h2
      have hx2 : ∀ i, j - 1 < i → i < u.length → xs[i]? = some (stepv X Y u i) := fun i h1 h2 => hxs i (by omega) h2
      have second : ∀ t : Bool, t = (stands u X (j - 1) && okR X Y u (j - 1 + X.length)) → w_X7_steps_J53 Q (w_X7_steps_L13 Q z) a p q o ((j - 1 : Nat) : Int) (b2i t) h kc ks := by
        intro t ht
        unfold w_X7_steps_J53
        refine r_flag (X := X) (Y := Y) (F0 := fun hp => w_X7_steps_J89 Q (w_X7_steps_L13 Q z) a p q o ((j - 1 : Nat) : Int) (b2i t) hp kc ks) (F1 := fun hp => w_X7_steps_J85 Q (w_X7_steps_L13 Q z) a p q o ((j - 1 : Nat) : Int) (b2i t) hp kc ks) (ru.on kp) (rY.on kp) rx hX hY hY hul (by omega) (by omega) hx2 (fun e => ?_) (fun e => ?_)
        · unfold w_X7_steps_J85 w_X7_steps_J90
          refine ⟨b2i_R _, ?_⟩
          cases t
          · refine if_yes rfl ⟨by decide, if_no (by decide) (fin 2 ?_)⟩
            unfold stepv; rw [← ht, e]; rfl
          · refine if_no (by decide) (fin 1 ?_)
            unfold stepv; rw [← ht]; rfl
        · unfold w_X7_steps_J89 w_X7_steps_J90
          refine ⟨b2i_R _, ?_⟩
          cases t
          · refine if_yes rfl ⟨by decide, if_yes rfl (fin 0 ?_)⟩
            unfold stepv; rw [← ht, e]; rfl
          · refine if_no (by decide) (fin 1 ?_)
            unfold stepv; rw [← ht]; rfl
      refine r_flag (X := X) (Y := Y) (F0 := fun hp => w_X7_steps_J52 Q (w_X7_steps_L13 Q z) a p q o ((j - 1 : Nat) : Int) hp kc ks) (F1 := fun hp => w_X7_steps_J48 Q (w_X7_steps_L13 Q z) a p q o ((j - 1 : Nat) : Int) hp kc ks) (ru.on kp) (rX.on kp) rx hX hY hX hul (by omega) (by omega) hx2 (fun e => second true e.symm) (fun e => second false e.symm)
theorem r_steps {Q : Nat → gaH → Prop} {X Y : List Bool} {p q : Nat} (ru : mR h a u) (rX : mR h p X) (rY : mR h q Y) (hX : 0 < X.length) (hY : 0 < Y.length) (hXl : X.length ≤ 100) (hYl : Y.length ≤ 100) (hul : u.length ≤ 64) (k : ∀ h' o xs, mK h h' → h o = none → mJ h' o xs → (∀ i, i < u.length → xs[i]? = some (stepv X Y u i)) → Q o h') : w_X7_steps a p q h Q := by
  unfold w_X7_steps
  refine ru.len (gNA_mk (n := u.length + 1) (by omega) (by omega) (by decide) (by omega) (fun o ho => ?_))
  have kp := (mK.rf (h := h)).up ho (102, List.replicate (u.length + 1) (gi 0))
  refine (ru.on kp).len ⟨66, ?_⟩
  exact r_steps_L13 ru rX rY hX hY hXl hYl hul ho (fun h' xs k' r' e => k h' o xs k' ho r' e) 66 u.length _ (List.replicate (u.length + 1) 0) kp (by unfold mJ; rw [gaUp_self]; simp) (by simp) (fun i h1 h2 => by omega) (Nat.le_refl _) (by omega)
end RU
