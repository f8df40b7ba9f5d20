/-! The law's first question: a growth of at most five turns. -/
theorem cmpL_self (u : List Bool) : cmpL u u = 0 := (cmpL_eq u u).mpr rfl
section GN
variable {A : Nat → Nat} {G : gaG} {h : gaH} {b : Nat} {vs : List Value} {S : Nat → List Bool} {T : Nat → List Nat} {X : String → gaH → Prop} {Q : Int → gaH → Prop} {kc ks : Nat}
theorem g_J419 (e : gE A G b vs h S T) (h1 : T 1 = (T 0).tail) (hS : S 0 = (grw (T 0)).2) {v3 : Int} (hv3 : v3 = (((T 0).headD 0 : Nat) : Int)) (hc : 10 ≤ kc) (hs : 60 ≤ ks) (k : ∀ h' S', gE A G b vs h' S' T → Q 1 h') : w_L_isGrown_J419 G X Q (A 22) v3 h kc ks := by
  have hok := e.ok (show 0 < 2 by decide)
  generalize hts : T 0 = ts at *
  unfold w_L_isGrown_J419
  cases ts with
  | nil =>
    subst hv3
    exact ⟨by decide, if_yes rfl (k _ _ e)⟩
  | cons t us =>
    have ht := hok.1 t List.mem_cons_self
    have hv3 : v3 = (t : Int) := hv3
    have h1 : T 1 = us := h1
    subst hv3
    refine ⟨gR_of (by omega) (by omega), if_no (by omega) ⟨e.has, gCall_mk (by omega) (by omega) (a_lay (g := 1) (w := 1) e (by decide) (by decide) rfl rfl (by decide) (fun h2 e2 => ⟨e2.has, gCall_mk (by omega) (by omega) ?_⟩))⟩⟩
    rw [h1, show layW us 0 = (grw us).2 from rfl] at e2
    have hS2 : pu S 1 (grw us).2 0 = img (xT t) [false] (grw us).2 := by
      rw [pu_ne _ _ (by decide), hS, grw_first hok.1]
    have hp : gShl 2 (t : Int) + 1 = ((2 * 2 ^ t + 1 : Nat) : Int) ∧ (2 ≤ 2 * 2 ^ t + 1 ∧ 2 * 2 ^ t + 1 ≤ 31) ∧ codeW (2 * 2 ^ t + 1) = xT t ∧ codeW 2 = [false] ∧ unlike (codeW (2 * 2 ^ t + 1)) (codeW 2) ≠ -1 := by
      rcases (show t = 1 ∨ t = 2 ∨ t = 3 by omega) with rfl | rfl | rfl <;> decide +kernel
    have hu := undo_img (t := t) (grw us).2 []
    rw [List.nil_append] at hu
    have hu1 : okR (codeW (2 * 2 ^ t + 1)) (codeW 2) (pu S 1 (grw us).2 0) 0 = true := by rw [hp.2.2.1, hp.2.2.2.1, hS2]; exact hu.1
    have hu2 : walkR (codeW (2 * 2 ^ t + 1)) (codeW 2) (pu S 1 (grw us).2 0) 0 = (grw us).2 := by rw [hp.2.2.1, hp.2.2.2.1, hS2]; exact hu.2
    refine a_undo (w := 0) e2 (by decide) hp.2.1 (q := 2) (by decide) hp.2.2.2.2 hu1 rfl hp.1 rfl (fun h3 e3 => ?_)
    rw [hu2] at e3 ⊢
    refine ⟨e3.has, gCall_mk (by omega) (by omega) (a_size (g := 1) (c := false) e3 (by decide) rfl rfl (fun h4 e4 => ?_))⟩
    rw [h1]
    have l1 := e3.le (w := 0) (by decide)
    rw [pu_self] at l1
    refine ⟨gR_of (by omega) (by omega), gR_of (by show _ ≤ ((grw us).2.length : Int); omega) (by show ((grw us).2.length : Int) ≤ _; omega), if_yes rfl ⟨e4.has, gCall_mk (by omega) (by omega) (a_order (w := 0) (v := 1) e4 (by decide) (by decide) rfl rfl (fun h5 e5 => ?_))⟩⟩
    rw [pu_self, pu_ne _ _ (by decide), pu_self, cmpL_self]
    exact ⟨by decide, if_yes rfl (k _ _ e5)⟩
theorem g_J307 (e : gE A G b vs h S T) (h1 : T 1 = (T 0).tail) (hl : (T 0).length ≤ 5) (hS : S 0 = (grw (T 0)).2) (hS1 : S 1 = (grw (T 0)).2) {v3 v6 t0 t1 : Int} (hv3 : v3 = (((T 0).headD 0 : Nat) : Int)) (hv6 : v6 = ((grw (T 0)).2.length : Int)) (ht : t0 = t1) (hR : gR t0) (hc : 32 ≤ kc) (hs : 192 ≤ ks) (k : ∀ h' S', gE A G b vs h' S' T → Q 1 h') : w_L_isGrown_J307 G X Q (A 22) v3 v6 t0 t1 h kc ks := by
  have hok := e.ok (show 0 < 2 by decide)
  have hr := rowsA_in hok hl
  have p1 := grw_pos hok
  have p2 := hok.2
  have on := ones_le (grw (T 0)).2
  unfold w_L_isGrown_J307
  refine ⟨hR, by rw [← ht]; exact hR, if_yes ht ⟨e.has, gCall_mk (by omega) (by omega) (a_kinds (w := 0) (l := (grw (T 0)).2.length) (c := true) e (by decide) (by rw [hS]; exact Nat.le_refl _) rfl hv6 rfl (fun h2 e2 => ?_))⟩⟩
  rw [hS, rows_kinds hr p1 (Nat.le_refl _), if_neg (Nat.lt_irrefl _)]
  refine ⟨gR_of (by omega) (by omega), gR_of (by omega) (by omega), if_yes hv6.symm ⟨e2.has, gCall_mk (by omega) (by omega) (a_least (w := 1) e2 (by decide) rfl (fun h3 e3 => ?_))⟩⟩
  rw [hS1]
  have ll := lst_lt (grw (T 0)).2 _ p1
  refine ⟨e3.has, gCall_mk (by omega) (by omega) (a_rotate (w := 1) (l := lst (grw (T 0)).2 (grw (T 0)).2.length) e3 (by decide) (by rw [hS1]; omega) rfl rfl (fun h4 r4 e4 => ?_))⟩
  rw [hS1, rows_least _ hr] at e4
  refine ⟨e4.has, gCall_mk (by omega) (by omega) (a_ups (g := 0) (c := false) e4 (by decide) rfl rfl (fun h5 e5 => ?_))⟩
  refine ⟨e5.has, gCall_mk (by omega) (by omega) (a_line (w := 2) (n := (grw (T 0)).2.length) (p := ones (grw (T 0)).2) (s := 0) e5 (by decide) ⟨p1, p2⟩ on p1 rfl hv6 rfl rfl (fun h6 r6 e6 => ?_))⟩
  refine ⟨e6.has, gCall_mk (by omega) (by omega) (a_order (w := 1) (v := 2) e6 (by decide) (by decide) rfl rfl (fun h7 e7 => ?_))⟩
  rw [pu_ne _ _ (by decide), pu_self, pu_self, cmpL_self]
  have z0 : pu (pu S 1 (lineW (grw (T 0)).2.length (ones (grw (T 0)).2) 0)) 2 (lineW (grw (T 0)).2.length (ones (grw (T 0)).2) 0) 0 = (grw (T 0)).2 := by
    rw [pu_ne _ _ (by decide), pu_ne _ _ (by decide), hS]
  refine ⟨by decide, if_yes rfl ⟨gR_of (by omega) (by omega), ?_⟩⟩
  by_cases q : v6 ≤ 1
  · exact if_yes q (g_J419 e7 h1 z0 hv3 (by omega) (by omega) k)
  have ends := rows_ends _ hr (by omega)
  refine if_no q ⟨e7.has, gCall_mk (by omega) (by omega) (a_lay (g := 0) (w := 1) e7 (by decide) (by decide) rfl rfl (by decide) (fun h8 e8 => ?_))⟩
  rw [show layW (T 0) 0 = (grw (T 0)).2 from rfl] at e8
  refine ⟨e8.has, gCall_mk (by omega) (by omega) (a_isB (w := 1) (l := (grw (T 0)).2.length - 1) e8 (by decide) (by rw [pu_self]; omega) rfl (by omega) (fun h9 e9 => ?_))⟩
  refine ⟨e9.has, gCall_mk (by omega) (by omega) (a_isB (w := 1) (l := (grw (T 0)).2.length - 2) e9 (by decide) (by rw [pu_self]; omega) rfl (by omega) (fun h10 e10 => ?_))⟩
  rw [pu_self]
  refine ⟨b2i_R _, b2i_R _, if_no (fun z => ends.1 ((b2i_eq _ _).mp z)) ⟨e10.has, gCall_mk (by omega) (by omega) (a_cutTo (w := 1) (l := (grw (T 0)).2.length - 2) e10 (by decide) (by omega) rfl (by omega) (fun h11 r11 e11 => ?_))⟩⟩
  rw [pu_self, show (grw (T 0)).2.length - 2 - (grw (T 0)).2.length = 0 by omega, List.replicate_zero, List.append_nil] at e11
  refine ⟨e11.has, gCall_mk (by omega) (by omega) (a_isMirrored (w := 1) e11 (by decide) rfl (fun h12 e12 => ?_))⟩
  rw [pu_self, List.length_take, Nat.min_eq_left (by omega), ends.2]
  refine ⟨by decide, if_no (by decide) (g_J419 e12 h1 ?_ hv3 (by omega) (by omega) k)⟩
  rw [pu_ne _ _ (by decide), pu_ne _ _ (by decide), z0]
theorem g_J190 (e : gE A G b vs h S T) (h1 : T 1 = (T 0).tail) (hl : (T 0).length ≤ 5) (hS : S 0 = (grw (T 0)).2) (hS1 : S 1 = (grw (T 0)).2) {v2 v3 v4 v6 t0 t1 : Int} (hv3 : v3 = (((T 0).headD 0 : Nat) : Int)) (hv4 : v4 = (gtT (T 0) : Int)) (h4 : gtT (T 0) ≤ 3) (hv6 : v6 = ((grw (T 0)).2.length : Int)) (ht : t0 = t1) (hR : gR t0) (hc : 43 ≤ kc) (hs : 258 ≤ ks) (k : ∀ h' S', gE A G b vs h' S' T → Q 1 h') : w_L_isGrown_J190 G X Q (A 22) v2 v3 v4 v6 t0 t1 h kc ks := by
  have hok := e.ok (show 0 < 2 by decide)
  have hr := rowsA_in hok hl
  have p1 := grw_pos hok
  have p2 := hok.2
  have p3 := hok.elder
  unfold w_L_isGrown_J190
  refine ⟨hR, by rw [← ht]; exact hR, if_yes ht ⟨e.has, gCall_mk (by omega) (by omega) (a_alike (g := 0) e (by decide) rfl (fun h2 e2 => ?_))⟩⟩
  rw [rows_alike _ hr]
  refine ⟨e2.has, gCall_mk (by omega) (by omega) (a_size (g := 0) (c := true) e2 (by decide) rfl rfl (fun h3 e3 => ?_))⟩
  rw [show gWd (T 0) true = (grw (T 0)).1 from rfl]
  refine ⟨gR_of (by omega) (by omega), gR_of (by omega) (by omega), if_yes (by rw [hv6]) ⟨e3.has, gCall_mk (by omega) (by omega) (a_folds (w := 0) e3 (by decide) rfl (fun h4 e4 => ?_))⟩⟩
  rw [hS, rows_folds _ hr]
  refine ⟨by decide, if_yes rfl ⟨e4.has, gCall_mk (by omega) (by omega) (a_mirrors (w := 0) e4 (by decide) rfl (fun h5 e5 => ?_))⟩⟩
  rw [hS, rows_mirrors hr p2]
  refine ⟨gR_of (by omega) (by omega), gR_of (by omega) (by omega), if_yes hv6.symm ⟨e5.has, gCall_mk (by omega) (by omega) (a_times (w := 0) e5 (by decide) rfl (fun h6 r6 e6 t6 => ?_))⟩⟩
  rw [hS] at t6
  have t7 := rows_times hr t6
  have t8 : 0 ≤ r6 := by
    rcases t6.2 with ⟨a, _⟩ | ⟨_, _, c, a, _⟩ <;> omega
  refine ⟨gR_of (by omega) (by omega), gR_of (by omega) (by omega), if_yes (by omega) (a_below (n := (grw (T 0)).2.length + 1) (by omega) (by omega) (by omega) (fun l hl2 => ⟨e6.has, gCall_mk (by omega) (by omega) (a_spread (w := 0) (l := l) (c := false) e6 (by decide) (by rw [hS]; omega) rfl rfl rfl (fun h7 e7 => ?_))⟩))⟩
  have ev := rows_evn hr p1
  have sR : ∀ c : Bool, -64 ≤ sprV (grw (T 0)).2 l (begins (grw (T 0)).2.length l c) := fun c => by
    have := mnf_le (f := upF (grw (T 0)).2 l) (l := l) (n := begins (grw (T 0)).2.length l c)
    show _ ≤ (mxf _ _ : Int) - (mnf _ _ _ : Int)
    omega
  have s1 := evn_spr p1 ev (show l ≤ (grw (T 0)).2.length by omega) false
  have s2 := evn_spr p1 ev (show l ≤ (grw (T 0)).2.length by omega) true
  have s3 := sR false
  have s4 := sR true
  rw [hS]
  refine ⟨gR_of (by omega) (by omega), if_no (by omega) ⟨e7.has, gCall_mk (by omega) (by omega) (a_spread (w := 0) (l := l) (c := true) e7 (by decide) (by rw [hS]; omega) rfl rfl rfl (fun h8 e8 => ?_))⟩⟩
  rw [hS]
  refine ⟨gR_of (by omega) (by omega), if_no (by omega) ⟨e8.has, gCall_mk (by omega) (by omega) (a_kinds (w := 0) (l := l) (c := true) e8 (by decide) (by rw [hS]; omega) rfl rfl rfl (fun h9 e9 => ?_))⟩⟩
  rw [hS, rows_kinds hr p1 (by omega)]
  refine ⟨gR_of (by omega) (by omega), gR_of (by omega) (by omega), ?_⟩
  by_cases q : v6 ≤ (l : Int)
  · rw [if_neg (show ¬ l < (grw (T 0)).2.length by omega)]
    exact if_yes q (g_J307 e9 h1 hl hS hS1 hv3 hv6 hv6.symm (gR_of (by omega) (by omega)) (by omega) (by omega) k)
  · rw [if_pos (show l < (grw (T 0)).2.length by omega)]
    exact if_no q (g_J307 e9 h1 hl hS hS1 hv3 hv6 (by omega) (gR_of (by omega) (by omega)) (by omega) (by omega) k)
theorem gtT_le {ts : List Nat} (h : tOk ts) : gtT ts ≤ 3 := by
  unfold gtT
  have : ∀ (us : List Nat) (m : Nat), m ≤ 3 → (∀ t ∈ us, t ≤ 3) → us.foldl max m ≤ 3 := fun us => by
    induction us with
    | nil => intro m hm _; exact hm
    | cons t us ih =>
      intro m hm hu
      refine ih _ ?_ (fun x hx => hu x (List.mem_cons_of_mem _ hx))
      have := hu t List.mem_cons_self
      omega
  exact this ts 0 (by decide) (fun t ht => (h t ht).2)
theorem g_L30 {v1 v2 : Int} (k : ∀ h' S' T', gE A G b vs h' S' T' → T' 1 = (T' 0).tail → (T' 0).length ≤ 5 → Q 1 h') : ∀ (n c : Nat) (h : gaH) (S : Nat → List Bool) (T : Nat → List Nat) (kc ks : Nat) (v3 v4 v5 v6 : Int), gE A G b vs h S T → T 1 = (T 0).tail → (T 0).length + c ≤ 5 → c < n → v3 = (((T 0).headD 0 : Nat) : Int) → v4 = (gtT (T 0) : Int) → v5 = ((T 0).length : Int) → v6 = (c : Int) → 58 + 4 * c ≤ kc → 348 + 24 * c ≤ ks → w_L_isGrown_L30 G X Q n (A 22) v1 v2 v3 v4 v5 v6 h kc ks
  | 0, _, _, _, _, _, _, _, _, _, _, _, _, _, hn, _, _, _, _, _, _ => absurd hn (Nat.not_lt_zero _)
  | n + 1, c, h, S, T, kc, ks, v3, v4, v5, v6, e, h1, hl, hn, hv3, hv4, hv5, hv6, hc, hs => by
    have hok := e.ok (show 0 < 2 by decide)
    have p1 := grw_pos hok
    have p2 := hok.2
    have g3 := gtT_le hok.1
    unfold w_L_isGrown_L30
    refine ⟨gR_of (by omega) (by omega), ?_⟩
    by_cases q : v6 ≤ 0
    · have hr := rowsA_in hok (by omega)
      refine if_yes q ⟨e.has, gCall_mk (by omega) (by omega) (a_size (g := 0) (c := false) e (by decide) rfl rfl (fun h2 e2 => ?_))⟩
      rw [show gWd (T 0) false = (grw (T 0)).2 from rfl]
      have rl : gR ((grw (T 0)).2.length : Int) := gR_of (by omega) (by omega)
      refine ⟨e2.has, gCall_mk (by omega) (by omega) (a_lay (g := 0) (w := 0) e2 (by decide) (by decide) rfl rfl (by decide) (fun h3 e3 => ?_))⟩
      rw [show layW (T 0) 0 = (grw (T 0)).2 from rfl] at e3 ⊢
      refine ⟨rl, rl, if_yes rfl ⟨e3.has, gCall_mk (by omega) (by omega) (a_lay (g := 0) (w := 1) e3 (by decide) (by decide) rfl rfl (by decide) (fun h4 e4 => ?_))⟩⟩
      rw [show layW (T 0) 1 = (grw (T 0)).2 from rfl] at e4 ⊢
      refine ⟨rl, rl, if_yes rfl ⟨e4.has, gCall_mk (by omega) (by omega) (a_lay (g := 0) (w := 2) e4 (by decide) (by decide) rfl rfl (by decide) (fun h5 e5 => ?_))⟩⟩
      rw [show layW (T 0) 2 = byL (T 0) from rfl, rows_roads _ hr] at e5 ⊢
      refine ⟨rl, rl, if_yes rfl ⟨e5.has, gCall_mk (by omega) (by omega) (a_order (w := 0) (v := 1) e5 (by decide) (by decide) rfl rfl (fun h6 e6 => ?_))⟩⟩
      have z0 : pu (pu (pu S 0 (grw (T 0)).2) 1 (grw (T 0)).2) 2 (grw (T 0)).2 0 = (grw (T 0)).2 := by rw [pu_ne _ _ (by decide), pu_ne _ _ (by decide), pu_self]
      have z1 : pu (pu (pu S 0 (grw (T 0)).2) 1 (grw (T 0)).2) 2 (grw (T 0)).2 1 = (grw (T 0)).2 := by rw [pu_ne _ _ (by decide), pu_self]
      have z2 : pu (pu (pu S 0 (grw (T 0)).2) 1 (grw (T 0)).2) 2 (grw (T 0)).2 2 = (grw (T 0)).2 := pu_self _ _ _
      rw [z0, z1, cmpL_self]
      refine ⟨by decide, if_yes rfl ⟨e6.has, gCall_mk (by omega) (by omega) (a_order (w := 1) (v := 2) e6 (by decide) (by decide) rfl rfl (fun h7 e7 => ?_))⟩⟩
      rw [z1, z2, cmpL_self]
      refine ⟨by decide, if_yes rfl ⟨e7.has, gCall_mk (by omega) (by omega) (a_cross (g := 0) e7 (by decide) rfl (fun h8 e8 => ?_))⟩⟩
      have em : gRem v5 2 = (((T 0).length % 2 : Nat) : Int) := by rw [hv5]; exact gRem_nat (b := 2) (by omega) (by decide)
      have hx := rows_cross _ hr
      rw [em, hx]
      refine ⟨gR_of (by omega) (by omega), ?_⟩
      by_cases z : (T 0).length % 2 = 0
      · rw [if_pos z]
        exact if_yes (by omega) (g_J190 e8 h1 (by omega) z0 z1 hv3 hv4 g3 rfl rfl (by decide) (by omega) (by omega) (fun h' S' e' => k h' S' T e' h1 (by omega)))
      · rw [if_neg z]
        exact if_no (by omega) (g_J190 e8 h1 (by omega) z0 z1 hv3 hv4 g3 rfl rfl (by decide) (by omega) (by omega) (fun h' S' e' => k h' S' T e' h1 (by omega)))
    · obtain ⟨c, rfl⟩ : ∃ d, c = d + 1 := ⟨c - 1, by omega⟩
      refine if_no q (a_below (n := 3) (by decide) (by decide) rfl (fun r hr => ⟨e.has, gCall_mk (by omega) (by omega) (a_grow (g := 0) (n := r + 1) e (by decide) (by omega) rfl (by omega) (fun z h2 e2 => ?_) (fun z h2 e2 => ?_))⟩))
      · have hok2 := e2.ok (show 0 < 2 by decide)
        rw [pu_self] at hok2
        have l2 := hok2.2
        have g4 := gtT_snoc (T 0) (r + 1)
        refine ⟨gR_of (by omega) (by omega), if_no (by omega) ⟨gR_of (by rw [hv3]; omega) (by
          rw [hv3]
          cases hts : T 0 with
          | nil => decide
          | cons t us =>
            have := hok.1 t (by rw [hts]; exact List.mem_cons_self)
            show (t : Int) ≤ _
            omega), ?_⟩⟩
        have step : ∀ (T' : Nat → List Nat) (v : Int) (h3 : gaH) (c2 s2 : Nat), gE A G b vs h3 S T' → T' 0 = T 0 ++ [r + 1] → T' 1 = (T' 0).tail → v = (((T' 0).headD 0 : Nat) : Int) → 58 + 4 * c ≤ c2 → 348 + 24 * c ≤ s2 → w_L_isGrown_J87 G X Q (w_L_isGrown_L30 G X Q n) (A 22) v1 v2 v v4 (v5 + 1) v6 (1 + (r : Int)) h3 c2 s2 := fun T' v h3 c2 s2 e3 t0 t1 hv c1 s1 => by
          unfold w_L_isGrown_J87
          refine ⟨gR_of (by omega) (by omega), gR_of (by omega) (by omega), ?_⟩
          have tl : (T' 0).length = (T 0).length + 1 := by rw [t0]; simp
          have tg : gtT (T' 0) = max (gtT (T 0)) (r + 1) := by rw [t0, g4]
          by_cases y : 1 + (r : Int) ≤ v4
          · exact if_yes y (g_L30 k n c h3 S T' c2 s2 _ _ _ _ e3 t1 (by omega) (by omega) hv (by omega) (by omega) (by omega) c1 s1)
          · exact if_no y (g_L30 k n c h3 S T' c2 s2 _ _ _ _ e3 t1 (by omega) (by omega) hv (by omega) (by omega) (by omega) c1 s1)
        cases hts : T 0 with
        | nil =>
          refine if_yes (by rw [hv3, hts]; rfl) (step _ _ _ _ _ e2 (pu_self _ _ _) ?_ ?_ (by omega) (by omega))
          · rw [pu_ne _ _ (by decide), pu_self, h1, hts]; rfl
          · rw [pu_self, hts]; show 1 + (r : Int) = ((r + 1 : Nat) : Int); omega
        | cons t us =>
          have ht := hok.1 t (by rw [hts]; exact List.mem_cons_self)
          have hv3' : v3 = (t : Int) := by rw [hv3, hts]; rfl
          have h1' : pu T 0 (T 0 ++ [r + 1]) 1 = us := by rw [pu_ne _ _ (by decide), h1, hts]; rfl
          have ok3 := gOk_tail hok2
          rw [hts] at ok3
          have ok3 : gOk (us ++ [r + 1]) := ok3
          have l3 := ok3.2
          rw [grw_snoc_len] at l3
          refine if_no (by omega) ⟨e2.has, gCall_mk (by omega) (by omega) (a_grow (g := 1) (n := r + 1) e2 (by decide) (by omega) rfl (by omega) (fun y h3 e3 => ?_) (fun y _ _ => ?_))⟩
          · rw [h1'] at e3
            refine step _ _ _ _ _ e3 ?_ ?_ ?_ (by omega) (by omega)
            · rw [pu_ne _ _ (by decide), pu_self]
            · rw [pu_self, pu_ne _ _ (by decide), pu_self, hts]; rfl
            · rw [pu_ne _ _ (by decide), pu_self, hts]; exact hv3'
          · rw [h1'] at y
            exact absurd l3 y
      · refine ⟨by decide, if_yes rfl (g_L30 k n c h2 S T _ _ _ _ _ _ e2 h1 (by omega) (by omega) hv3 hv4 hv5 (by omega) (by omega) (by omega))⟩
theorem g_isGrown (e : gE A G b vs h S T) {v1 v2 : Int} (k : ∀ h' S' T', gE A G b vs h' S' T' → T' 1 = (T' 0).tail → (T' 0).length ≤ 5 → Q 1 h') : w_L_isGrown G X (A 22) v1 v2 h Q := by
  unfold w_L_isGrown
  refine ⟨e.has, gCall_mk (by decide) (by decide) (a_fresh (g := 0) e (by decide) rfl (fun h1 r1 e1 => ⟨e1.has, gCall_mk (by decide) (by decide) (a_fresh (g := 1) e1 (by decide) rfl (fun h2 r2 e2 => a_below (n := 6) (by decide) (by decide) rfl (fun r hr => ⟨r + 1, ?_⟩)))⟩))⟩
  have t0 : pu (pu T 0 []) 1 [] 0 = [] := by rw [pu_ne _ _ (by decide), pu_self]
  have t1 : pu (pu T 0 []) 1 [] 1 = [] := pu_self _ _ _
  exact g_L30 k (r + 1) r h2 S _ _ _ _ _ _ _ e2 (by rw [t0, t1]; rfl) (by rw [t0]; simp; omega) (by omega) (by rw [t0]; rfl) (by rw [t0]; rfl) (by rw [t0]; rfl) rfl (by omega) (by omega)
end GN
