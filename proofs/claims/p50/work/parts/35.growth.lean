/-! Growths: their words by copies, by rules, by their line. -/
def rep (t : Nat) (y : List Bool) : List Bool := (List.replicate t y).flatten
theorem rep_succ (t : Nat) (y : List Bool) : rep (t + 1) y = rep t y ++ y := by
  unfold rep
  rw [List.replicate_succ']
  simp
theorem rep_len (t : Nat) (y : List Bool) : (rep t y).length = t * y.length := by simp [rep]
/-- elder and younger -/
def gstep (p : List Bool × List Bool) (t : Nat) : List Bool × List Bool := (p.2, rep t p.2 ++ p.1)
def grw (ts : List Nat) : List Bool × List Bool := ts.foldl gstep ([true], [false])
theorem grw_snoc (ts : List Nat) (t : Nat) : grw (ts ++ [t]) = gstep (grw ts) t := by simp [grw]
def cf (t : Nat) : Nat := if t = 1 then 5 else if t = 2 then 9 else if t = 3 then 17 else 0
def phi (ts : List Nat) (w : List Bool) : List Bool := ts.foldr (fun t w => img (codeW (cf t)) (codeW 2) w) w
def tOk (ts : List Nat) : Prop := ∀ t ∈ ts, 1 ≤ t ∧ t ≤ 3
theorem tOk.snoc {ts : List Nat} {t : Nat} (h : tOk (ts ++ [t])) : tOk ts ∧ (1 ≤ t ∧ t ≤ 3) := ⟨fun x hx => h x (List.mem_append_left _ hx), h t (by simp)⟩
theorem phi_app (ts : List Nat) : ∀ (u v : List Bool), phi ts (u ++ v) = phi ts u ++ phi ts v := by
  induction ts with
  | nil => intro u v; rfl
  | cons t ts ih => intro u v; show img _ _ (phi ts (u ++ v)) = _; rw [ih, img_app]; rfl
theorem phi_rep (ts : List Nat) (u : List Bool) : ∀ n, phi ts (rep n u) = rep n (phi ts u)
  | 0 => by
    show phi ts [] = []
    induction ts with
    | nil => rfl
    | cons t ts ih => show img _ _ (phi ts []) = []; rw [ih]; rfl
  | n + 1 => by rw [rep_succ, phi_app, phi_rep ts u n, rep_succ]
theorem phi_snoc (ts : List Nat) (t : Nat) (w : List Bool) : phi (ts ++ [t]) w = phi ts (img (codeW (cf t)) (codeW 2) w) := by simp [phi]
theorem cf_len {t : Nat} (h : 1 ≤ t ∧ t ≤ 3) : 1 ≤ (codeW (cf t)).length ∧ cf t < 65536 ∧ codeW (cf t) = rep t [false] ++ [true] ∧ codeW 2 = [false] := by
  obtain ⟨h1, h2⟩ := h
  rcases (show t = 1 ∨ t = 2 ∨ t = 3 by omega) with rfl | rfl | rfl <;> decide
theorem grw_phi : ∀ (n : Nat) (ts : List Nat), ts.length = n → tOk ts → grw ts = (phi ts [true], phi ts [false])
  | 0, ts, hn, _ => by
    rw [List.length_eq_zero_iff.mp hn]; rfl
  | n + 1, ts, hn, hok => by
    obtain ⟨us, t, rfl⟩ : ∃ us t, ts = us ++ [t] := ⟨ts.dropLast, ts.getLast (by intro h; rw [h] at hn; simp at hn), (List.dropLast_concat_getLast _).symm⟩
    obtain ⟨h1, h2⟩ := hok.snoc
    obtain ⟨-, -, c1, c2⟩ := cf_len h2
    have e1 : img (codeW (cf t)) (codeW 2) [true] = [false] := by rw [c2]; rfl
    have e2 : img (codeW (cf t)) (codeW 2) [false] = rep t [false] ++ [true] := by rw [c1]; simp [img]
    rw [grw_snoc, grw_phi n us (by simpa using hn) h1, phi_snoc, phi_snoc, e1, e2, phi_app, phi_rep]
    rfl
theorem img_ge (x y : List Bool) (hx : 1 ≤ x.length) (hy : 1 ≤ y.length) : ∀ u : List Bool, u.length ≤ (img x y u).length
  | [] => Nat.zero_le _
  | b :: t => by
    have := img_ge x y hx hy t
    simp only [img, List.length_append, List.length_cons]
    split <;> omega
theorem phi_ge (ts : List Nat) (hok : tOk ts) (w : List Bool) : w.length ≤ (phi ts w).length := by
  induction ts with
  | nil => exact Nat.le_refl _
  | cons t ts ih =>
    have h1 := ih (fun x hx => hok x (List.mem_cons_of_mem _ hx))
    obtain ⟨c0, -, c1, c2⟩ := cf_len (hok t List.mem_cons_self)
    exact Nat.le_trans h1 (img_ge _ _ c0 (by rw [c2]; decide) _)
theorem phi_split (ts us : List Nat) (w : List Bool) : phi (ts ++ us) w = phi ts (phi us w) := by simp [phi]
/-- the younger word's length is that of the turns and one at least -/
theorem grw_len : ∀ (n : Nat) (ts : List Nat), ts.length = n → tOk ts → n + 1 ≤ (grw ts).2.length ∧ 1 ≤ (grw ts).1.length
  | 0, ts, hn, _ => by rw [List.length_eq_zero_iff.mp hn]; decide
  | n + 1, ts, hn, hok => by
    obtain ⟨us, t, rfl⟩ : ∃ us t, ts = us ++ [t] := ⟨ts.dropLast, ts.getLast (by intro h; rw [h] at hn; simp at hn), (List.dropLast_concat_getLast _).symm⟩
    obtain ⟨h1, h2⟩ := hok.snoc
    obtain ⟨a1, a2⟩ := grw_len n us (by simpa using hn) h1
    rw [grw_snoc]
    show n + 1 + 1 ≤ (rep t (grw us).2 ++ (grw us).1).length ∧ 1 ≤ (grw us).2.length
    rw [List.length_append, rep_len]
    have : 1 * (grw us).2.length ≤ t * (grw us).2.length := Nat.mul_le_mul_right _ h2.1
    omega
theorem grw_mono (ts : List Nat) (t : Nat) (h2 : 1 ≤ t ∧ t ≤ 3) : (grw ts).2.length ≤ (grw (ts ++ [t])).2.length := by
  rw [grw_snoc]
  show _ ≤ (rep t (grw ts).2 ++ (grw ts).1).length
  rw [List.length_append, rep_len]
  have : 1 * (grw ts).2.length ≤ t * (grw ts).2.length := Nat.mul_le_mul_right _ h2.1
  omega
def gOk (ts : List Nat) : Prop := tOk ts ∧ (grw ts).2.length ≤ 64
theorem gOk.len {ts : List Nat} (h : gOk ts) : ts.length ≤ 63 := by
  have := (grw_len _ ts rfl h.1).1
  have := h.2
  omega
theorem gOk.pre {ts : List Nat} {t : Nat} (h : gOk (ts ++ [t])) : gOk ts := ⟨h.1.snoc.1, Nat.le_trans (grw_mono ts t h.1.snoc.2) h.2⟩
theorem gOk.elder {ts : List Nat} (h : gOk ts) : (grw ts).1.length ≤ 64 := by
  by_cases hn : ts = []
  · rw [hn]; decide
  · obtain ⟨us, t, rfl⟩ : ∃ us t, ts = us ++ [t] := ⟨ts.dropLast, ts.getLast hn, (List.dropLast_concat_getLast _).symm⟩
    rw [grw_snoc]
    exact h.pre.2
/-- lengths and b's by the numbers alone: elder's length, b's, younger's length, b's -/
def nstep (p : Nat × Nat × Nat × Nat) (t : Nat) : Nat × Nat × Nat × Nat := (p.2.2.1, p.2.2.2, t * p.2.2.1 + p.1, t * p.2.2.2 + p.2.1)
def nums (ts : List Nat) : Nat × Nat × Nat × Nat := ts.foldl nstep (1, 1, 1, 0)
theorem rep_ones (t : Nat) (y : List Bool) : ones (rep t y) = t * ones y := by
  induction t with
  | zero => simp [rep, ones]
  | succ t ih => rw [rep_succ, ones_app, ih, Nat.succ_mul]
theorem nums_grw : ∀ (n : Nat) (ts : List Nat), ts.length = n → nums ts = ((grw ts).1.length, ones (grw ts).1, (grw ts).2.length, ones (grw ts).2)
  | 0, ts, hn => by rw [List.length_eq_zero_iff.mp hn]; rfl
  | n + 1, ts, hn => by
    obtain ⟨us, t, rfl⟩ : ∃ us t, ts = us ++ [t] := ⟨ts.dropLast, ts.getLast (by intro h; rw [h] at hn; simp at hn), (List.dropLast_concat_getLast _).symm⟩
    have ih := nums_grw n us (by simpa using hn)
    rw [grw_snoc, show nums (us ++ [t]) = nstep (nums us) t by simp [nums], ih]
    simp only [nstep, gstep, List.length_append, rep_len, ones_app, rep_ones]
/-- a sign of a line -/
def lineB (n p s i : Nat) : Bool := decide (n ≤ (i * p + s) % n + p)
/-- the younger word by its line -/
def byL (ts : List Nat) : List Bool :=
  if ts = [] then [false] else (List.range ((nums ts).2.2.1 - 2)).map (fun j => lineB (nums ts).2.2.1 (nums ts).2.2.2 0 (j + 1)) ++ [decide (ts.length % 2 = 0), decide (ts.length % 2 = 1)]
theorem s_lineB {n p s i : Nat} (hn : 0 < n) (hb : n ≤ 1000) (hp : p ≤ 1000) (hs : s ≤ 1000) (hi : i ≤ 1000) {x1 x2 x3 x4 : Int} (h1 : x1 = (n : Int)) (h2 : x2 = (p : Int)) (h3 : x3 = (s : Int)) (h4 : x4 = (i : Int)) {h : gaH} {Q : Int → gaH → Prop} (k : Q (b2i (lineB n p s i)) h) : w_X5_isUpOnLine x1 x2 x3 x4 h Q := by
  subst h1; subst h2; subst h3; subst h4
  unfold w_X5_isUpOnLine
  have hm : i * p ≤ 1000 * 1000 := Nat.mul_le_mul hi hp
  have e1 : ((i : Int) * (p : Int) + (s : Int)) = ((i * p + s : Nat) : Int) := by rw [Int.natCast_add, Int.natCast_mul]
  have e2 : gRem ((i : Int) * (p : Int) + (s : Int)) (n : Int) = (((i * p + s) % n : Nat) : Int) := by rw [e1]; exact gRem_nat (by omega) (by omega)
  have hr : (i * p + s) % n < n := Nat.mod_lt _ hn
  refine ⟨gR_of (by omega) (by omega), ?_⟩
  refine if_no (by omega) ⟨gR_of (by omega) (by omega), by omega, ?_⟩
  rw [e2]
  refine ⟨gR_of (by omega) (by omega), gR_of (by omega) (by omega), ?_⟩
  unfold lineB at k
  by_cases q : n ≤ (i * p + s) % n + p
  · rw [decide_eq_true q] at k
    exact if_no (by omega) k
  · rw [decide_eq_false q] at k
    exact if_yes (by omega) k
