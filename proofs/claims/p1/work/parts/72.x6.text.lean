/-! Texts, sign by sign: what a StringBuilder holds, what a text holds, and texts held against each other. -/
/-- a text made anew: its signs -/
def sTx (h0 h : gaH) (o : Nat) (cs : List Int) : Prop := h0 o = none ∧ ∃ v, h0 v = none ∧ h o = some (0, [.ref v, gi 0, gi 0, gi 0]) ∧ h v = some (101, cs.map gi)
def sby (h0 h : gaH) (b : Nat) (n : Nat) (cs : List Int) : Prop := sbd h0 h b n ∧ ∀ v bs, h b = some (1, [.ref v, gi 0, gi 0, gi (n : Int)]) → h v = some (101, bs) → bs.take cs.length = cs.map gi
/-- the signs of a word, of a row of turns -/
def txt (u : List Bool) : List Int := u.map (fun c => if c = true then 98 else 97)
def ttx (ts : List Nat) : List Int := ts.map (fun t => ((48 + t % 10 : Nat) : Int))
theorem txt_len {u : List Bool} : (txt u).length = u.length := List.length_map _
theorem ttx_len {ts : List Nat} : (ttx ts).length = ts.length := List.length_map _
theorem take_set1 {α : Type} {l : List α} {n : Nat} {a : α} (hn : n < l.length) : (l.set n a).take (n + 1) = l.take n ++ [a] := by
  apply List.ext_getElem?
  intro i
  rw [List.getElem?_take]
  by_cases q : i < n
  · rw [if_pos (by omega), List.getElem?_set_ne (by omega), List.getElem?_append_left (by rw [List.length_take]; omega), List.getElem?_take, if_pos q]
  · by_cases q2 : i = n
    · subst q2
      rw [if_pos (by omega), List.getElem?_set_self hn, List.getElem?_append_right (by rw [List.length_take]; omega), List.length_take, show i - min i l.length = 0 by omega]
      rfl
    · rw [if_neg (by omega), List.getElem?_append_right (by rw [List.length_take]; omega), List.length_take]
      obtain ⟨d, hd⟩ : ∃ d, i - min n l.length = d + 1 := ⟨i - min n l.length - 1, by omega⟩
      rw [hd]
      rfl
theorem take_next {α : Type} {l : List α} {i : Nat} {d : α} (hi : i < l.length) : l.take (i + 1) = l.take i ++ [l.getD i d] := by
  rw [List.take_succ, List.getD_eq_getElem?_getD, List.getElem?_eq_getElem hi]
  rfl
theorem txt_next {u : List Bool} {i : Nat} (hi : i < u.length) {c : Int} (hc : c = if u.getD i false = true then 98 else 97) : txt (u.take (i + 1)) = txt (u.take i) ++ [c] := by
  subst hc
  rw [take_next (d := false) hi]
  unfold txt
  rw [List.map_append]
  rfl
theorem ttx_next {u : List Nat} {i : Nat} (hi : i < u.length) {c : Int} (hc : c = ((48 + (u.getD i 0) % 10 : Nat) : Int)) : ttx (u.take (i + 1)) = ttx (u.take i) ++ [c] := by
  subst hc
  rw [take_next (d := 0) hi]
  unfold ttx
  rw [List.map_append]
  rfl
theorem map_gi_fits {cs : List Int} {bs : List Value} {n : Nat} (e : bs.take n = cs.map gi) (f : ∀ x ∈ bs, fits (gaTy 101) x = true) : ∀ x ∈ cs.map gi, fits (gaTy 101) x = true := fun x hx => f x (by rw [← e] at hx; exact List.mem_of_mem_take hx)
section SX
variable {G : gaG} {h0 h : gaH} {b n : Nat} {cs : List Int}
theorem sby_init {Q : gaH → Prop} {b : Nat} (hb : h0 b = none) (k : ∀ h', sby h0 h' b 0 [] → Q h') : w_J4_init_da8c8 G b (gaUp h0 b (1, [.null, gi 0, gi 0, gi 0])) Q := sb_init hb (fun h' sb => k h' ⟨sb, fun v bs _ _ => by simp⟩)
theorem sby_ensure {Q : gaH → Prop} (sx : sby h0 h b n cs) (hcs : cs.length ≤ n) {m : Nat} {x : Int} (hx : x = (m : Int)) (hm : m ≤ 65) (hmn : n ≤ m) (hnm : m ≤ n + 1) (k : ∀ h', sby h0 h' b n cs → (∀ v bs, h' b = some (1, [.ref v, gi 0, gi 0, gi (n : Int)]) → h' v = some (101, bs) → m ≤ bs.length) → Q h') : w_J5_ensureCapacityInternal_d00df b x h Q := by
  subst hx
  obtain ⟨sb, ct⟩ := id sx
  obtain ⟨v, bs, a1, a2, a3, a4, a5, a6, a7, a8, a9⟩ := id sb
  have ce := ct v bs a1 a2
  unfold w_J5_ensureCapacityInternal_d00df
  refine gA_mk a1 rfl (gAL_mk a2 rfl (gI_mk a1 rfl (x := 0) ?_))
  rw [gShr0 (by omega)]
  (first | refine And.intro (show gR _ from by first | assumption | omega | decide | exact b2i_R _ | exact gR_of (by omega) (by omega)) ?_ | refine And.intro (show gHas _ _ _ from by first | exact gW.has (gD.w (by assumption)) (by omega) | exact gD.has (by assumption) | exact gRu.has (gD.ru (by assumption)) | exact gGr.has (gD.gr (by assumption) _ (by omega))) ?_ | refine gCall_mk (by decide) (by decide) ?_ | refine if_yes (by first | assumption | omega | decide | exact b2i_R _ | exact gR_of (by omega) (by omega)) ?_ | refine if_no (by first | assumption | omega | decide | exact b2i_R _ | exact gR_of (by omega) (by omega)) ?_)
  by_cases q : m ≤ bs.length
  · exact if_yes (by omega) (k h sx (fun v2 bs2 e1 e2 => by
      rw [a1] at e1; cases e1; rw [a2] at e2; cases e2; exact q))
  · refine if_no (by omega) (gA_mk a1 rfl ⟨⟨_, a1⟩, ?_⟩)
    have hl : bs.length = 16 ∨ bs.length = 34 := by omega
    have nn : n = bs.length := by omega
    unfold w_J5_newCapacity_0f7a4
    refine gA_mk a1 rfl (gAL_mk a2 rfl (gI_mk a1 rfl (x := 0) (gI_mk a1 rfl (x := 0) ?_)))
    rw [gShl0 (by omega), show gShl 2 0 = 2 by decide +kernel]
    unfold w_J8_newLength_cabcc
    (first | refine And.intro (show gR _ from by first | assumption | omega | decide | exact b2i_R _ | exact gR_of (by omega) (by omega)) ?_ | refine And.intro (show gHas _ _ _ from by first | exact gW.has (gD.w (by assumption)) (by omega) | exact gD.has (by assumption) | exact gRu.has (gD.ru (by assumption)) | exact gGr.has (gD.gr (by assumption) _ (by omega))) ?_ | refine gCall_mk (by decide) (by decide) ?_ | refine if_yes (by first | assumption | omega | decide | exact b2i_R _ | exact gR_of (by omega) (by omega)) ?_ | refine if_no (by first | assumption | omega | decide | exact b2i_R _ | exact gR_of (by omega) (by omega)) ?_); (first | refine And.intro (show gR _ from by first | assumption | omega | decide | exact b2i_R _ | exact gR_of (by omega) (by omega)) ?_ | refine And.intro (show gHas _ _ _ from by first | exact gW.has (gD.w (by assumption)) (by omega) | exact gD.has (by assumption) | exact gRu.has (gD.ru (by assumption)) | exact gGr.has (gD.gr (by assumption) _ (by omega))) ?_ | refine gCall_mk (by decide) (by decide) ?_ | refine if_yes (by first | assumption | omega | decide | exact b2i_R _ | exact gR_of (by omega) (by omega)) ?_ | refine if_no (by first | assumption | omega | decide | exact b2i_R _ | exact gR_of (by omega) (by omega)) ?_); (first | refine And.intro (show gR _ from by first | assumption | omega | decide | exact b2i_R _ | exact gR_of (by omega) (by omega)) ?_ | refine And.intro (show gHas _ _ _ from by first | exact gW.has (gD.w (by assumption)) (by omega) | exact gD.has (by assumption) | exact gRu.has (gD.ru (by assumption)) | exact gGr.has (gD.gr (by assumption) _ (by omega))) ?_ | refine gCall_mk (by decide) (by decide) ?_ | refine if_yes (by first | assumption | omega | decide | exact b2i_R _ | exact gR_of (by omega) (by omega)) ?_ | refine if_no (by first | assumption | omega | decide | exact b2i_R _ | exact gR_of (by omega) (by omega)) ?_); (first | refine And.intro (show gR _ from by first | assumption | omega | decide | exact b2i_R _ | exact gR_of (by omega) (by omega)) ?_ | refine And.intro (show gHas _ _ _ from by first | exact gW.has (gD.w (by assumption)) (by omega) | exact gD.has (by assumption) | exact gRu.has (gD.ru (by assumption)) | exact gGr.has (gD.gr (by assumption) _ (by omega))) ?_ | refine gCall_mk (by decide) (by decide) ?_ | refine if_yes (by first | assumption | omega | decide | exact b2i_R _ | exact gR_of (by omega) (by omega)) ?_ | refine if_no (by first | assumption | omega | decide | exact b2i_R _ | exact gR_of (by omega) (by omega)) ?_); (first | refine And.intro (show gR _ from by first | assumption | omega | decide | exact b2i_R _ | exact gR_of (by omega) (by omega)) ?_ | refine And.intro (show gHas _ _ _ from by first | exact gW.has (gD.w (by assumption)) (by omega) | exact gD.has (by assumption) | exact gRu.has (gD.ru (by assumption)) | exact gGr.has (gD.gr (by assumption) _ (by omega))) ?_ | refine gCall_mk (by decide) (by decide) ?_ | refine if_yes (by first | assumption | omega | decide | exact b2i_R _ | exact gR_of (by omega) (by omega)) ?_ | refine if_no (by first | assumption | omega | decide | exact b2i_R _ | exact gR_of (by omega) (by omega)) ?_); (first | refine And.intro (show gR _ from by first | assumption | omega | decide | exact b2i_R _ | exact gR_of (by omega) (by omega)) ?_ | refine And.intro (show gHas _ _ _ from by first | exact gW.has (gD.w (by assumption)) (by omega) | exact gD.has (by assumption) | exact gRu.has (gD.ru (by assumption)) | exact gGr.has (gD.gr (by assumption) _ (by omega))) ?_ | refine gCall_mk (by decide) (by decide) ?_ | refine if_yes (by first | assumption | omega | decide | exact b2i_R _ | exact gR_of (by omega) (by omega)) ?_ | refine if_no (by first | assumption | omega | decide | exact b2i_R _ | exact gR_of (by omega) (by omega)) ?_)
    (first | refine And.intro (show gR _ from by first | assumption | omega | decide | exact b2i_R _ | exact gR_of (by omega) (by omega)) ?_ | refine And.intro (show gHas _ _ _ from by first | exact gW.has (gD.w (by assumption)) (by omega) | exact gD.has (by assumption) | exact gRu.has (gD.ru (by assumption)) | exact gGr.has (gD.gr (by assumption) _ (by omega))) ?_ | refine gCall_mk (by decide) (by decide) ?_ | refine if_yes (by first | assumption | omega | decide | exact b2i_R _ | exact gR_of (by omega) (by omega)) ?_ | refine if_no (by first | assumption | omega | decide | exact b2i_R _ | exact gR_of (by omega) (by omega)) ?_); (first | refine And.intro (show gR _ from by first | assumption | omega | decide | exact b2i_R _ | exact gR_of (by omega) (by omega)) ?_ | refine And.intro (show gHas _ _ _ from by first | exact gW.has (gD.w (by assumption)) (by omega) | exact gD.has (by assumption) | exact gRu.has (gD.ru (by assumption)) | exact gGr.has (gD.gr (by assumption) _ (by omega))) ?_ | refine gCall_mk (by decide) (by decide) ?_ | refine if_yes (by first | assumption | omega | decide | exact b2i_R _ | exact gR_of (by omega) (by omega)) ?_ | refine if_no (by first | assumption | omega | decide | exact b2i_R _ | exact gR_of (by omega) (by omega)) ?_)
    refine gI_mk a1 rfl (x := 0) ?_
    have emax : (bs.length : Int) + max ((m : Int) - (bs.length : Int)) ((bs.length : Int) + 2) = ((2 * bs.length + 2 : Nat) : Int) := by omega
    rw [emax, gShr0 (by omega)]
    refine gI_mk a1 rfl (x := 0) (gCall_mk (by decide) (by decide) ?_)
    rw [gShl0 (by omega)]
    unfold w_J7_copyOf_9075b
    refine gAL_mk a2 rfl ?_
    (first | refine And.intro (show gR _ from by first | assumption | omega | decide | exact b2i_R _ | exact gR_of (by omega) (by omega)) ?_ | refine And.intro (show gHas _ _ _ from by first | exact gW.has (gD.w (by assumption)) (by omega) | exact gD.has (by assumption) | exact gRu.has (gD.ru (by assumption)) | exact gGr.has (gD.gr (by assumption) _ (by omega))) ?_ | refine gCall_mk (by decide) (by decide) ?_ | refine if_yes (by first | assumption | omega | decide | exact b2i_R _ | exact gR_of (by omega) (by omega)) ?_ | refine if_no (by first | assumption | omega | decide | exact b2i_R _ | exact gR_of (by omega) (by omega)) ?_); (first | refine And.intro (show gR _ from by first | assumption | omega | decide | exact b2i_R _ | exact gR_of (by omega) (by omega)) ?_ | refine And.intro (show gHas _ _ _ from by first | exact gW.has (gD.w (by assumption)) (by omega) | exact gD.has (by assumption) | exact gRu.has (gD.ru (by assumption)) | exact gGr.has (gD.gr (by assumption) _ (by omega))) ?_ | refine gCall_mk (by decide) (by decide) ?_ | refine if_yes (by first | assumption | omega | decide | exact b2i_R _ | exact gR_of (by omega) (by omega)) ?_ | refine if_no (by first | assumption | omega | decide | exact b2i_R _ | exact gR_of (by omega) (by omega)) ?_)
    refine if_no (by omega) (gNA_mk (n := 2 * bs.length + 2) rfl (by omega) (by decide) (by omega) (fun c hc => ?_))
    have cv := new_ne a2 hc
    have cb := new_ne a1 hc
    refine gAL_mk (up_keep hc a2) rfl ?_
    (first | refine And.intro (show gR _ from by first | assumption | omega | decide | exact b2i_R _ | exact gR_of (by omega) (by omega)) ?_ | refine And.intro (show gHas _ _ _ from by first | exact gW.has (gD.w (by assumption)) (by omega) | exact gD.has (by assumption) | exact gRu.has (gD.ru (by assumption)) | exact gGr.has (gD.gr (by assumption) _ (by omega))) ?_ | refine gCall_mk (by decide) (by decide) ?_ | refine if_yes (by first | assumption | omega | decide | exact b2i_R _ | exact gR_of (by omega) (by omega)) ?_ | refine if_no (by first | assumption | omega | decide | exact b2i_R _ | exact gR_of (by omega) (by omega)) ?_); (first | refine And.intro (show gR _ from by first | assumption | omega | decide | exact b2i_R _ | exact gR_of (by omega) (by omega)) ?_ | refine And.intro (show gHas _ _ _ from by first | exact gW.has (gD.w (by assumption)) (by omega) | exact gD.has (by assumption) | exact gRu.has (gD.ru (by assumption)) | exact gGr.has (gD.gr (by assumption) _ (by omega))) ?_ | refine gCall_mk (by decide) (by decide) ?_ | refine if_yes (by first | assumption | omega | decide | exact b2i_R _ | exact gR_of (by omega) (by omega)) ?_ | refine if_no (by first | assumption | omega | decide | exact b2i_R _ | exact gR_of (by omega) (by omega)) ?_)
    refine ⟨cv, ⟨bs, _, up_keep hc a2, gaUp_self _ _ _, by omega, by omega, by omega, by omega, by omega, by omega, by simp; omega, a3, fun us e1 e2 => ?_⟩⟩
    rw [List.length_replicate] at e1
    have hc0 : h0 c = none := by
      cases q2 : h0 c with
      | none => rfl
      | some e => rw [a9 c e q2] at hc; cases hc
    have g1 : gaUp (gaUp (gaUp h c (101, List.replicate (2 * bs.length + 2) (gi 0))) c (101, us)) b (1, [.ref c, gi 0, gi 0, gi (n : Int)]) b = some (1, [.ref c, gi 0, gi 0, gi (n : Int)]) := gaUp_self _ _ _
    have g2 : gaUp (gaUp (gaUp h c (101, List.replicate (2 * bs.length + 2) (gi 0))) c (101, us)) b (1, [.ref c, gi 0, gi 0, gi (n : Int)]) c = some (101, us) := by rw [gaUp_ne _ _ (Ne.symm cb), gaUp_self]
    refine gPF_mk (fs := [.ref v, gi 0, gi 0, gi (n : Int)]) (by rw [gaUp_ne _ _ cb, gaUp_ne _ _ cb]; exact a1) (by simp) (k _ ⟨⟨c, us, g1, g2, fun x hx => ?_, by omega, by omega, cb, a7, hc0, fun a e ha => ?_⟩, fun v2 bs2 f1 f2 => ?_⟩ (fun v2 bs2 f1 f2 => ?_))
    · rcases e2.1 x hx with q3 | q3
      · exact a3 x q3
      · exact fits0 x q3
    · have := a9 a e ha
      rw [gaUp_ne _ _ (new_ne ha a7), gaUp_ne _ _ (new_ne this hc), gaUp_ne _ _ (new_ne this hc)]; exact this
    · cases g1.symm.trans f1
      cases g2.symm.trans f2
      rw [← ce]
      apply List.ext_getElem?
      intro i
      rw [List.getElem?_take, List.getElem?_take]
      by_cases q3 : i < cs.length
      · rw [if_pos q3, if_pos q3, e2.2 i]
        unfold gCi
        rw [if_pos ⟨by omega, by omega⟩]
        congr 1
        omega
      · rw [if_neg q3, if_neg q3]
    · cases g1.symm.trans f1
      cases g2.symm.trans f2
      omega
theorem sby_put {K : gaH → Prop} {m : Nat} (sb : sby h0 h b m cs) {v : Nat} {bs : List Value} (a1 : h b = some (1, [.ref v, gi 0, gi 0, gi (m : Int)])) (a2 : h v = some (101, bs)) {c : Int} (h1 : 0 ≤ c) (h2 : c ≤ 127) {x : Int} (hx : x = (cs.length : Int)) (hp : cs.length < bs.length) (k : ∀ h', sby h0 h' b m (cs ++ [c]) → h' b = some (1, [.ref v, gi 0, gi 0, gi (m : Int)]) → (∃ bs', h' v = some (101, bs') ∧ bs'.length = bs.length) → K h') : gSI h v 101 x (gi c) K := by
  subst hx
  obtain ⟨sd, ct⟩ := sb
  have e0 := ct v bs a1 a2
  obtain ⟨v', bs', b1, b2, b3, b4, b5, b6, b7, b8, b9⟩ := id sd
  rw [a1] at b1; cases b1
  rw [a2] at b2; cases b2
  have f1 : gaUp h v (101, bs.set cs.length (gi c)) b = some (1, [.ref v, gi 0, gi 0, gi (m : Int)]) := by rw [gaUp_ne _ _ b6]; exact a1
  have f2 : gaUp h v (101, bs.set cs.length (gi c)) v = some (101, bs.set cs.length (gi c)) := gaUp_self _ _ _
  have kk := k _ ⟨⟨v, bs.set cs.length (gi c), f1, f2, fun x hx => by
    rcases List.mem_or_eq_of_mem_set hx with q | q
    · exact b3 x q
    · rw [q]; exact (narrow_byte2 h1 h2).2, by simpa using b4, by simpa using b5, b6, b7, b8, fun a e ha => by rw [gaUp_ne _ _ (new_ne ha b8)]; exact b9 a e ha⟩, fun v2 bs2 g1 g2 => by
    cases f1.symm.trans g1
    cases f2.symm.trans g2
    rw [List.length_append, List.map_append, ← e0]
    exact take_set1 hp⟩ f1 ⟨_, f2, by simp⟩
  exact gSI_mk a2 (by omega) (by omega) (by omega) (by rw [Int.toNat_natCast]; exact kk)
theorem sby_cnt {K : gaH → Prop} (sb : sby h0 h b n cs) {m : Nat} {x : Int} (hx : x = (m : Int)) (hm : ∀ v bs, h b = some (1, [.ref v, gi 0, gi 0, gi (n : Int)]) → h v = some (101, bs) → m ≤ bs.length) (k : ∀ h', sby h0 h' b m cs → (∀ a, a ≠ b → h' a = h a) → (∀ v, h b = some (1, [.ref v, gi 0, gi 0, gi (n : Int)]) → h' b = some (1, [.ref v, gi 0, gi 0, gi (m : Int)])) → K h') : gPF h b 1 3 (gi x) K := by
  obtain ⟨v0, bs0, b1, b2, _, _, _, b6, -⟩ := id sb.1
  refine sb_cnt sb.1 hx hm (fun h' s keep e => k h' ⟨s, fun v bs g1 g2 => ?_⟩ keep e)
  cases (e v0 b1).symm.trans g1
  rw [keep v0 (Ne.symm b6), b2] at g2
  cases g2
  exact sb.2 v0 bs0 b1 b2
/-- a sign is added -/
theorem sby_char {Q : Nat → gaH → Prop} (sx : sby h0 h b n cs) (hc : cs.length = n) (hn : n < 65) {c : Int} (h1 : 0 ≤ c) (h2 : c ≤ 127) (k : ∀ h', sby h0 h' b (n + 1) (cs ++ [c]) → Q b h') : w_J4_append_cf468 G b c h Q := by
  unfold w_J4_append_cf468
  refine ⟨sx.1.has, gCall_mk (by decide) (by decide) ?_⟩
  unfold w_J5_append_3fe6f
  obtain ⟨v0, bs0, b1, -⟩ := id sx.1
  refine gI_mk b1 rfl (x := (n : Int)) ⟨sx.1.has, gCall_mk (by decide) (by decide) (sby_ensure sx (by omega) (m := n + 1) (by omega) (by omega) (by omega) (by omega) (fun h' s1 le => ⟨s1.1.has, sb_lat s1.1 ?_⟩))⟩
  (first | refine And.intro (show gR _ from by first | assumption | omega | decide | exact b2i_R _ | exact gR_of (by omega) (by omega)) ?_ | refine And.intro (show gHas _ _ _ from by first | exact gW.has (gD.w (by assumption)) (by omega) | exact gD.has (by assumption) | exact gRu.has (gD.ru (by assumption)) | exact gGr.has (gD.gr (by assumption) _ (by omega))) ?_ | refine gCall_mk (by decide) (by decide) ?_ | refine if_yes (by first | assumption | omega | decide | exact b2i_R _ | exact gR_of (by omega) (by omega)) ?_ | refine if_no (by first | assumption | omega | decide | exact b2i_R _ | exact gR_of (by omega) (by omega)) ?_); (first | refine And.intro (show gR _ from by first | assumption | omega | decide | exact b2i_R _ | exact gR_of (by omega) (by omega)) ?_ | refine And.intro (show gHas _ _ _ from by first | exact gW.has (gD.w (by assumption)) (by omega) | exact gD.has (by assumption) | exact gRu.has (gD.ru (by assumption)) | exact gGr.has (gD.gr (by assumption) _ (by omega))) ?_ | refine gCall_mk (by decide) (by decide) ?_ | refine if_yes (by first | assumption | omega | decide | exact b2i_R _ | exact gR_of (by omega) (by omega)) ?_ | refine if_no (by first | assumption | omega | decide | exact b2i_R _ | exact gR_of (by omega) (by omega)) ?_)
  refine if_no (by omega) ⟨by decide, if_no (by decide) ?_⟩
  obtain ⟨v, bs, a1, a2, _, _, _, a6, -⟩ := id s1.1
  have hl := le v bs a1 a2
  refine gA_mk a1 rfl (gI_mk a1 rfl (x := (n : Int)) (sby_cnt s1 (m := n + 1) (by omega) le (fun h2' s2 keep e => ?_)))
  rw [gI2b_byte h1 h2]
  exact ⟨(narrow_byte2 h1 h2).1, sby_put s2 (e v a1) ((keep v (Ne.symm a6)).trans a2) h1 h2 (by omega) (by omega) (fun h3 s3 _ _ => k h3 s3)⟩
/-- a turn is added -/
theorem sby_turn {Q : Nat → gaH → Prop} (sx : sby h0 h b n cs) (hc : cs.length = n) (hn : n < 65) (m3 : h0 (G.2.2.2 1) = some (1101, gaOnes)) {t : Nat} (ht : 1 ≤ t ∧ t ≤ 3) (k : ∀ h', sby h0 h' b (n + 1) (cs ++ [((48 + t % 10 : Nat) : Int)]) → Q b h') : w_J4_append_bf812 G b (t : Int) h Q := by
  unfold w_J4_append_bf812
  refine ⟨sx.1.has, gCall_mk (by decide) (by decide) ?_⟩
  unfold w_J5_append_c97b9
  obtain ⟨v0, bs0, b1, -⟩ := id sx.1
  refine gI_mk b1 rfl (x := (n : Int)) ?_
  unfold w_J6_stringSize_0f7a4
  refine ⟨by omega, if_no (by omega) ⟨1, ?_⟩⟩
  unfold w_J6_stringSize_0f7a4_L16
  refine ⟨by decide, if_no (by decide) ⟨by omega, by decide, if_no (by omega) ⟨sx.1.has, gCall_mk (by decide) (by decide) (sby_ensure sx (by omega) (m := n + 1) (by omega) (by omega) (by omega) (by omega) (fun h' s1 le => ⟨s1.1.has, sb_lat s1.1 ?_⟩))⟩⟩⟩
  (first | refine And.intro (show gR _ from by first | assumption | omega | decide | exact b2i_R _ | exact gR_of (by omega) (by omega)) ?_ | refine And.intro (show gHas _ _ _ from by first | exact gW.has (gD.w (by assumption)) (by omega) | exact gD.has (by assumption) | exact gRu.has (gD.ru (by assumption)) | exact gGr.has (gD.gr (by assumption) _ (by omega))) ?_ | refine gCall_mk (by decide) (by decide) ?_ | refine if_yes (by first | assumption | omega | decide | exact b2i_R _ | exact gR_of (by omega) (by omega)) ?_ | refine if_no (by first | assumption | omega | decide | exact b2i_R _ | exact gR_of (by omega) (by omega)) ?_); (first | refine And.intro (show gR _ from by first | assumption | omega | decide | exact b2i_R _ | exact gR_of (by omega) (by omega)) ?_ | refine And.intro (show gHas _ _ _ from by first | exact gW.has (gD.w (by assumption)) (by omega) | exact gD.has (by assumption) | exact gRu.has (gD.ru (by assumption)) | exact gGr.has (gD.gr (by assumption) _ (by omega))) ?_ | refine gCall_mk (by decide) (by decide) ?_ | refine if_yes (by first | assumption | omega | decide | exact b2i_R _ | exact gR_of (by omega) (by omega)) ?_ | refine if_no (by first | assumption | omega | decide | exact b2i_R _ | exact gR_of (by omega) (by omega)) ?_)
  obtain ⟨v, bs, a1, a2, a3, a4, a5, a6, a7, a8, a9⟩ := id s1.1
  have hl := le v bs a1 a2
  refine gA_mk a1 rfl ?_
  unfold w_J6_getChars_ba4f3
  refine ⟨by omega, if_yes (by omega) ?_⟩
  unfold w_J6_getChars_ba4f3_J12
  refine ⟨by decide, if_yes rfl ⟨1, ?_⟩⟩
  unfold w_J6_getChars_ba4f3_L22
  refine ⟨by omega, if_yes (by omega) ⟨1101, gaOnes, ((48 + t % 10 : Nat) : Int), a9 _ _ m3, Or.inr rfl, by omega, by omega, ?_, ?_⟩⟩
  · rw [Int.neg_neg, Int.toNat_natCast]
    rcases (show t = 1 ∨ t = 2 ∨ t = 3 by omega) with rfl | rfl | rfl <;> rfl
  · refine ⟨(narrow_byte2 (by omega) (by omega)).1, sby_put s1 a1 a2 (by omega) (by omega) (by omega) (by omega) (fun h2 s2 e1 e2 => ⟨by omega, if_yes (by omega) ?_⟩)⟩
    unfold w_J6_getChars_ba4f3_J104
    refine ⟨by decide, if_yes rfl ?_⟩
    refine sby_cnt s2 (m := n + 1) (by omega) (fun v2 bs3 f1 f2 => ?_) (fun h3 s3 _ _ => k h3 s3)
    obtain ⟨bs4, e3, e4⟩ := e2
    rw [e1] at f1; cases f1
    rw [e3] at f2; cases f2
    omega
theorem sby_toString {Q : Nat → gaH → Prop} (sx : sby h0 h b n cs) (hc : cs.length = n) (hn : n ≤ 64) (k : ∀ h' o, (∀ a e, h0 a = some e → h' a = some e) → sTx h0 h' o cs → Q o h') : w_J4_toString_0e30d G b h Q := by
  obtain ⟨sb, ct⟩ := sx
  obtain ⟨v, bs, a1, a2, a3, a4, a5, a6, a7, a8, a9⟩ := id sb
  have ce := ct v bs a1 a2
  unfold w_J4_toString_0e30d
  refine gNO_mk (by decide) (by decide) (fun o ho => gCall_mk (by decide) (by decide) ?_)
  have ob := new_ne a1 ho
  have ov := new_ne a2 ho
  have ho0 : h0 o = none := by
    cases q2 : h0 o with
    | none => rfl
    | some e => rw [a9 o e q2] at ho; cases ho
  unfold w_J0_init_81219
  refine gCall_mk (by decide) (by decide) ?_
  unfold w_J0_init_db425 w_J5_getValue_6d5f1
  have e1 : gaUp h o (0, [.null, gi 0, gi 0, gi 0]) b = some (1, [.ref v, gi 0, gi 0, gi (n : Int)]) := up_keep ho a1
  refine ⟨⟨_, e1⟩, gA_mk e1 rfl ⟨⟨_, e1⟩, ?_⟩⟩
  unfold w_J4_length_8abf5 w_J5_length_8abf5
  refine ⟨⟨_, e1⟩, gI_mk e1 rfl (x := (n : Int)) ⟨⟨_, e1⟩, ?_⟩⟩
  unfold w_J5_isLatin1_aae02
  refine gI_mk e1 rfl (x := 0) ⟨by decide, if_yes rfl ⟨by decide, if_no (by decide) (gPF_mk (gaUp_self _ _ _) (by decide) (gCall_mk (by decide) (by decide) ?_))⟩⟩
  have e2 : gaUp (gaUp h o (0, [.null, gi 0, gi 0, gi 0])) o (0, [.null, gi 0, gi 0, gi 0].set 1 (gi 0)) v = some (101, bs) := by rw [gaUp_ne _ _ ov, gaUp_ne _ _ ov]; exact a2
  have e3 : ∀ a e, h0 a = some e → gaUp (gaUp h o (0, [.null, gi 0, gi 0, gi 0])) o (0, [.null, gi 0, gi 0, gi 0].set 1 (gi 0)) a = some e := fun a e ha => by rw [gaUp_ne _ _ (new_ne ha ho0), gaUp_ne _ _ (new_ne ha ho0)]; exact a9 a e ha
  have e4 : gaUp (gaUp h o (0, [.null, gi 0, gi 0, gi 0])) o (0, [.null, gi 0, gi 0, gi 0].set 1 (gi 0)) o = some (0, [.null, gi 0, gi 0, gi 0]) := gaUp_self _ _ _
  generalize gaUp (gaUp h o (0, [.null, gi 0, gi 0, gi 0])) o (0, [.null, gi 0, gi 0, gi 0].set 1 (gi 0)) = g at e2 e3 e4 ⊢
  have fin : ∀ c f, g c = none → ∀ us, us = cs.map gi → gPF (gaUp (gaUp g c f) c (101, us)) o 0 0 (.ref c) (fun h' => Q o h') := fun c f hc us hu => by
    have oc := new_ne e4 hc
    have hc0 : h0 c = none := by
      cases q2 : h0 c with
      | none => rfl
      | some e => rw [e3 c e q2] at hc; cases hc
    exact gPF_mk (by rw [gaUp_ne _ _ oc, gaUp_ne _ _ oc]; exact e4) (by decide) (k _ o (fun a e ha => by
      have h9 := e3 a e ha
      rw [gaUp_ne _ _ (new_ne ha ho0), gaUp_ne _ _ (new_ne h9 hc), gaUp_ne _ _ (new_ne h9 hc)]; exact h9) ⟨ho0, c, hc0, gaUp_self _ _ _, by rw [gaUp_ne _ _ (Ne.symm oc), gaUp_self, hu]⟩)
  have fin1 : ∀ c us, g c = none → us = cs.map gi → gPF (gaUp g c (101, us)) o 0 0 (.ref c) (fun h' => Q o h') := fun c us hc hu => by
    have oc := new_ne e4 hc
    have hc0 : h0 c = none := by
      cases q2 : h0 c with
      | none => rfl
      | some e => rw [e3 c e q2] at hc; cases hc
    exact gPF_mk (by rw [gaUp_ne _ _ oc]; exact e4) (by decide) (k _ o (fun a e ha => by
      have h9 := e3 a e ha
      rw [gaUp_ne _ _ (new_ne ha ho0), gaUp_ne _ _ (new_ne h9 hc)]; exact h9) ⟨ho0, c, hc0, gaUp_self _ _ _, by rw [gaUp_ne _ _ (Ne.symm oc), gaUp_self, hu]⟩)
  unfold w_J7_copyOfRange_39247
  refine ⟨by decide, if_yes rfl (gAL_mk e2 rfl ⟨by omega, by omega, ?_⟩)⟩
  by_cases q : n = bs.length
  · refine if_yes (by omega) ⟨bs, e2, a3, by decide, by omega, fun c hcn => ⟨_, _, rfl, rfl, ⟨_, gaUp_self _ _ _⟩, ?_⟩⟩
    exact fin1 c _ hcn (by rw [← ce, hc, q, List.take_length])
  · refine if_no (by omega) ?_
    unfold w_J7_copyOfRange_39247_J10 w_J7_copyOfRangeByte_39247 w_J7_checkLength_df160
    refine gCall_mk (by decide) (by decide) ⟨by omega, by decide, if_yes (by omega) ?_⟩
    refine gNA_mk (n := n) (by omega) (by omega) (by decide) (by omega) (fun c hcn => ?_)
    refine gAL_mk (up_keep hcn e2) rfl ?_
    refine ⟨by omega, by omega, new_ne e2 hcn, ?_⟩
    refine ⟨bs, _, up_keep hcn e2, gaUp_self _ _ _, by omega, by omega, by omega, by omega, by omega, by omega, by simp; omega, a3, fun us u1 u2 => ?_⟩
    refine fin c _ hcn _ ?_
    rw [List.length_replicate] at u1
    rw [← ce, hc]
    apply List.ext_getElem?
    intro i
    rw [List.getElem?_take, u2.2 i]
    unfold gCi
    by_cases q3 : i < n
    · rw [if_pos q3, if_pos ⟨by omega, by omega⟩]
      congr 1
      omega
    · rw [if_neg q3, if_neg (by omega), List.getElem?_eq_none (by rw [List.length_replicate]; omega)]
theorem tx_same {Q : Int → gaH → Prop} {x y : Nat} (z : ∀ c ∈ cs, gR c) (hv : h x = some (101, cs.map gi)) (hw : h y = some (101, cs.map gi)) (k : Q 1 h) (hl : cs.length ≤ 100000) : ∀ (m i : Nat), i ≤ cs.length → cs.length - i < m → w_J1_equals_b5fdf_L9 Q m x y (i : Int) h
  | 0, _, _, h1 => absurd h1 (Nat.not_lt_zero _)
  | m + 1, i, hi, h1 => by
    unfold w_J1_equals_b5fdf_L9
    refine gAL_mk hv rfl ?_
    rw [List.length_map]
    refine ⟨⟨by omega, by omega⟩, ⟨by omega, by omega⟩, ?_⟩
    by_cases q : cs.length ≤ i
    · exact if_yes (by omega) k
    · have hi2 : i < cs.length := by omega
      have ha : (cs.map gi)[i]? = some (gi cs[i]) := by rw [List.getElem?_map, List.getElem?_eq_getElem hi2]; rfl
      refine if_no (by omega) ⟨101, _, cs[i], hv, Or.inl rfl, by omega, by omega, by rw [Int.toNat_natCast]; exact ha, ⟨101, _, cs[i], hw, Or.inl rfl, by omega, by omega, by rw [Int.toNat_natCast]; exact ha, z _ (List.getElem_mem hi2), z _ (List.getElem_mem hi2), if_yes rfl ?_⟩⟩
      rw [show (i : Int) + 1 = ((i + 1 : Nat) : Int) by omega]
      exact tx_same z hv hw k hl m (i + 1) (by omega) (by omega)
theorem tx_equals {Q : Int → gaH → Prop} {x y v w : Nat} (z : ∀ c ∈ cs, gR c) (hl : cs.length ≤ 100000) (hx : h x = some (0, [.ref v, gi 0, gi 0, gi 0])) (hv : h v = some (101, cs.map gi)) (hy : h y = some (0, [.ref w, gi 0, gi 0, gi 0])) (hw : h w = some (101, cs.map gi)) (k : Q 1 h) : w_J0_equals_9ea2d G x y h Q := by
  unfold w_J0_equals_9ea2d
  by_cases q : x = y
  · exact if_yes q k
  · refine if_no q ⟨⟨_, hy⟩, ⟨_, hy⟩, gI_mk hx rfl (x := 0) (gI_mk hy rfl (x := 0) ⟨by decide, by decide, if_yes rfl ?_⟩)⟩
    unfold w_J0_equals_9ea2d_J36
    refine gA_mk hx rfl (gA_mk hy rfl ?_)
    unfold w_J1_equals_b5fdf
    refine gAL_mk hv rfl (gAL_mk hw rfl ⟨?_, ?_, if_yes rfl ⟨cs.length + 1, tx_same z hv hw ⟨by decide, if_no (by decide) k⟩ hl _ 0 (by omega) (by omega)⟩⟩)
    · rw [List.length_map]; exact ⟨by omega, by omega⟩
    · rw [List.length_map]; exact ⟨by omega, by omega⟩
theorem txt_R {u : List Bool} : ∀ c ∈ txt u, gR c := fun c hc => by
  obtain ⟨x, -, rfl⟩ := List.mem_map.mp hc
  cases x <;> decide
theorem ttx_R {ts : List Nat} : ∀ c ∈ ttx ts, gR c := fun c hc => by
  obtain ⟨x, -, rfl⟩ := List.mem_map.mp hc
  exact ⟨by omega, by omega⟩
end SX
