-- ===== PART A: goes FIRST, ahead of the names: the tables' words, and 'selects' of the private methods out of them =====
/-- a private method of a class that the tables say can be made, by its rows of tables_1 -/
def lw_okq (q : MethodName × Nat) : Prop := (q.1.cls ≠ "java/lang/invoke/MethodHandle" ∧ q.1.cls ≠ "java/lang/invoke/VarHandle") ∧ Cond.instantiable q.1.cls q.2 ∈ tables_1 ∧ Cond.privateMethod q.1 ∈ tables_1 ∧ Cond.instanceMethod q.1 ∈ tables_1
theorem lw_p0 : lw_okq (⟨"Wordgarden", "isSheetSound", "(I)Z"⟩, 9) := ⟨⟨by decide +kernel, by decide +kernel⟩, List.mem_of_getElem? (i := 27) (by decide +kernel), List.mem_of_getElem? (i := 147) (by decide +kernel), List.mem_of_getElem? (i := 148) (by decide +kernel)⟩
theorem lw_p1 : lw_okq (⟨"Wordgarden", "wordOf", "(I)LWordgarden$Word;"⟩, 9) := ⟨⟨by decide +kernel, by decide +kernel⟩, List.mem_of_getElem? (i := 27) (by decide +kernel), List.mem_of_getElem? (i := 151) (by decide +kernel), List.mem_of_getElem? (i := 152) (by decide +kernel)⟩
theorem lw_p2 : lw_okq (⟨"java/lang/Throwable", "fillInStackTrace", "(I)Ljava/lang/Throwable;"⟩, 6) := ⟨⟨by decide +kernel, by decide +kernel⟩, List.mem_of_getElem? (i := 193) (by decide +kernel), List.mem_of_getElem? (i := 191) (by decide +kernel), List.mem_of_getElem? (i := 192) (by decide +kernel)⟩
theorem lw_p3 : lw_okq (⟨"Wordgarden", "isGrowthSound", "(I)Z"⟩, 9) := ⟨⟨by decide +kernel, by decide +kernel⟩, List.mem_of_getElem? (i := 27) (by decide +kernel), List.mem_of_getElem? (i := 250) (by decide +kernel), List.mem_of_getElem? (i := 251) (by decide +kernel)⟩
theorem lw_p4 : lw_okq (⟨"Wordgarden", "growthOf", "(I)LWordgarden$Growth;"⟩, 9) := ⟨⟨by decide +kernel, by decide +kernel⟩, List.mem_of_getElem? (i := 27) (by decide +kernel), List.mem_of_getElem? (i := 254) (by decide +kernel), List.mem_of_getElem? (i := 255) (by decide +kernel)⟩
theorem lw_p5 : lw_okq (⟨"Wordgarden$Growth", "addLineEnd", "(LWordgarden$Word;)V"⟩, 4) := ⟨⟨by decide +kernel, by decide +kernel⟩, List.mem_of_getElem? (i := 74) (by decide +kernel), List.mem_of_getElem? (i := 305) (by decide +kernel), List.mem_of_getElem? (i := 306) (by decide +kernel)⟩
theorem lw_p6 : lw_okq (⟨"Wordgarden", "digestSheet", "(JI)J"⟩, 9) := ⟨⟨by decide +kernel, by decide +kernel⟩, List.mem_of_getElem? (i := 27) (by decide +kernel), List.mem_of_getElem? (i := 328) (by decide +kernel), List.mem_of_getElem? (i := 329) (by decide +kernel)⟩
theorem lw_p7 : lw_okq (⟨"Wordgarden", "digestGrowth", "(JI)J"⟩, 9) := ⟨⟨by decide +kernel, by decide +kernel⟩, List.mem_of_getElem? (i := 27) (by decide +kernel), List.mem_of_getElem? (i := 392) (by decide +kernel), List.mem_of_getElem? (i := 393) (by decide +kernel)⟩
theorem lw_p8 : lw_okq (⟨"Wordgarden", "sheetActDone", "(I)I"⟩, 9) := ⟨⟨by decide +kernel, by decide +kernel⟩, List.mem_of_getElem? (i := 27) (by decide +kernel), List.mem_of_getElem? (i := 457) (by decide +kernel), List.mem_of_getElem? (i := 458) (by decide +kernel)⟩
theorem lw_p9 : lw_okq (⟨"Wordgarden", "exchangePart", "(LWordgarden$Word;IILWordgarden$Word;)I"⟩, 9) := ⟨⟨by decide +kernel, by decide +kernel⟩, List.mem_of_getElem? (i := 27) (by decide +kernel), List.mem_of_getElem? (i := 468) (by decide +kernel), List.mem_of_getElem? (i := 469) (by decide +kernel)⟩
theorem lw_p10 : lw_okq (⟨"Wordgarden", "refuse", "()I"⟩, 9) := ⟨⟨by decide +kernel, by decide +kernel⟩, List.mem_of_getElem? (i := 27) (by decide +kernel), List.mem_of_getElem? (i := 472) (by decide +kernel), List.mem_of_getElem? (i := 473) (by decide +kernel)⟩
theorem lw_p11 : lw_okq (⟨"Wordgarden", "takeOut", "(LWordgarden$Word;II)I"⟩, 9) := ⟨⟨by decide +kernel, by decide +kernel⟩, List.mem_of_getElem? (i := 27) (by decide +kernel), List.mem_of_getElem? (i := 513) (by decide +kernel), List.mem_of_getElem? (i := 514) (by decide +kernel)⟩
theorem lw_p12 : lw_okq (⟨"Wordgarden", "settle", "(LWordgarden$Word;LWordgarden$Word;)I"⟩, 9) := ⟨⟨by decide +kernel, by decide +kernel⟩, List.mem_of_getElem? (i := 27) (by decide +kernel), List.mem_of_getElem? (i := 549) (by decide +kernel), List.mem_of_getElem? (i := 550) (by decide +kernel)⟩
theorem lw_p13 : lw_okq (⟨"Wordgarden", "takeRule", "(II)V"⟩, 9) := ⟨⟨by decide +kernel, by decide +kernel⟩, List.mem_of_getElem? (i := 27) (by decide +kernel), List.mem_of_getElem? (i := 581) (by decide +kernel), List.mem_of_getElem? (i := 582) (by decide +kernel)⟩
theorem lw_p14 : lw_okq (⟨"Wordgarden$Rule", "markImages", "(LWordgarden$Word;)V"⟩, 3) := ⟨⟨by decide +kernel, by decide +kernel⟩, List.mem_of_getElem? (i := 39) (by decide +kernel), List.mem_of_getElem? (i := 628) (by decide +kernel), List.mem_of_getElem? (i := 629) (by decide +kernel)⟩
theorem lw_p15 : lw_okq (⟨"Wordgarden$Rule", "goesOn", "(LWordgarden$Word;ILWordgarden$Word;)Z"⟩, 3) := ⟨⟨by decide +kernel, by decide +kernel⟩, List.mem_of_getElem? (i := 39) (by decide +kernel), List.mem_of_getElem? (i := 632) (by decide +kernel), List.mem_of_getElem? (i := 633) (by decide +kernel)⟩
def lw_privs_1 : List (MethodName × Nat) := [(⟨"Wordgarden", "isSheetSound", "(I)Z"⟩, 9), (⟨"Wordgarden", "wordOf", "(I)LWordgarden$Word;"⟩, 9), (⟨"java/lang/Throwable", "fillInStackTrace", "(I)Ljava/lang/Throwable;"⟩, 6), (⟨"Wordgarden", "isGrowthSound", "(I)Z"⟩, 9), (⟨"Wordgarden", "growthOf", "(I)LWordgarden$Growth;"⟩, 9), (⟨"Wordgarden$Growth", "addLineEnd", "(LWordgarden$Word;)V"⟩, 4), (⟨"Wordgarden", "digestSheet", "(JI)J"⟩, 9), (⟨"Wordgarden", "digestGrowth", "(JI)J"⟩, 9), (⟨"Wordgarden", "sheetActDone", "(I)I"⟩, 9), (⟨"Wordgarden", "exchangePart", "(LWordgarden$Word;IILWordgarden$Word;)I"⟩, 9), (⟨"Wordgarden", "refuse", "()I"⟩, 9), (⟨"Wordgarden", "takeOut", "(LWordgarden$Word;II)I"⟩, 9), (⟨"Wordgarden", "settle", "(LWordgarden$Word;LWordgarden$Word;)I"⟩, 9), (⟨"Wordgarden", "takeRule", "(II)V"⟩, 9), (⟨"Wordgarden$Rule", "markImages", "(LWordgarden$Word;)V"⟩, 3), (⟨"Wordgarden$Rule", "goesOn", "(LWordgarden$Word;ILWordgarden$Word;)Z"⟩, 3)]
theorem lw_r1 : ∀ q ∈ lw_privs_1, lw_okq q := List.forall_mem_cons.mpr ⟨lw_p0, List.forall_mem_cons.mpr ⟨lw_p1, List.forall_mem_cons.mpr ⟨lw_p2, List.forall_mem_cons.mpr ⟨lw_p3, List.forall_mem_cons.mpr ⟨lw_p4, List.forall_mem_cons.mpr ⟨lw_p5, List.forall_mem_cons.mpr ⟨lw_p6, List.forall_mem_cons.mpr ⟨lw_p7, List.forall_mem_cons.mpr ⟨lw_p8, List.forall_mem_cons.mpr ⟨lw_p9, List.forall_mem_cons.mpr ⟨lw_p10, List.forall_mem_cons.mpr ⟨lw_p11, List.forall_mem_cons.mpr ⟨lw_p12, List.forall_mem_cons.mpr ⟨lw_p13, List.forall_mem_cons.mpr ⟨lw_p14, List.forall_mem_cons.mpr ⟨lw_p15, fun _ h => absurd h List.not_mem_nil⟩⟩⟩⟩⟩⟩⟩⟩⟩⟩⟩⟩⟩⟩⟩⟩
theorem lw_p16 : lw_okq (⟨"Wordgarden$Rule", "isMarked", "(I)Z"⟩, 3) := ⟨⟨by decide +kernel, by decide +kernel⟩, List.mem_of_getElem? (i := 39) (by decide +kernel), List.mem_of_getElem? (i := 639) (by decide +kernel), List.mem_of_getElem? (i := 640) (by decide +kernel)⟩
theorem lw_p17 : lw_okq (⟨"Wordgarden", "growthActDone", "(I)I"⟩, 9) := ⟨⟨by decide +kernel, by decide +kernel⟩, List.mem_of_getElem? (i := 27) (by decide +kernel), List.mem_of_getElem? (i := 699) (by decide +kernel), List.mem_of_getElem? (i := 700) (by decide +kernel)⟩
theorem lw_p18 : lw_okq (⟨"WordgardenModel", "start", "(ZI)Z"⟩, 8) := ⟨⟨by decide +kernel, by decide +kernel⟩, List.mem_of_getElem? (i := 1134) (by decide +kernel), List.mem_of_getElem? (i := 1181) (by decide +kernel), List.mem_of_getElem? (i := 1182) (by decide +kernel)⟩
theorem lw_p19 : lw_okq (⟨"WordgardenModel", "refuse", "(ZI)Z"⟩, 8) := ⟨⟨by decide +kernel, by decide +kernel⟩, List.mem_of_getElem? (i := 1134) (by decide +kernel), List.mem_of_getElem? (i := 1185) (by decide +kernel), List.mem_of_getElem? (i := 1186) (by decide +kernel)⟩
theorem lw_p20 : lw_okq (⟨"WordgardenModel", "comes", "(I[I)I"⟩, 8) := ⟨⟨by decide +kernel, by decide +kernel⟩, List.mem_of_getElem? (i := 1134) (by decide +kernel), List.mem_of_getElem? (i := 1193) (by decide +kernel), List.mem_of_getElem? (i := 1194) (by decide +kernel)⟩
theorem lw_p21 : lw_okq (⟨"WordgardenModel", "put", "(III[I)I"⟩, 8) := ⟨⟨by decide +kernel, by decide +kernel⟩, List.mem_of_getElem? (i := 1134) (by decide +kernel), List.mem_of_getElem? (i := 1201) (by decide +kernel), List.mem_of_getElem? (i := 1202) (by decide +kernel)⟩
theorem lw_p22 : lw_okq (⟨"WordgardenModel", "cannot", "()I"⟩, 8) := ⟨⟨by decide +kernel, by decide +kernel⟩, List.mem_of_getElem? (i := 1134) (by decide +kernel), List.mem_of_getElem? (i := 1205) (by decide +kernel), List.mem_of_getElem? (i := 1206) (by decide +kernel)⟩
theorem lw_p23 : lw_okq (⟨"WordgardenModel", "isNoGap", "(II)Z"⟩, 8) := ⟨⟨by decide +kernel, by decide +kernel⟩, List.mem_of_getElem? (i := 1134) (by decide +kernel), List.mem_of_getElem? (i := 1216) (by decide +kernel), List.mem_of_getElem? (i := 1217) (by decide +kernel)⟩
theorem lw_p24 : lw_okq (⟨"WordgardenModel", "isNoPlace", "(II)Z"⟩, 8) := ⟨⟨by decide +kernel, by decide +kernel⟩, List.mem_of_getElem? (i := 1134) (by decide +kernel), List.mem_of_getElem? (i := 1231) (by decide +kernel), List.mem_of_getElem? (i := 1232) (by decide +kernel)⟩
theorem lw_p25 : lw_okq (⟨"WordgardenModel", "isNoPart", "(III)Z"⟩, 8) := ⟨⟨by decide +kernel, by decide +kernel⟩, List.mem_of_getElem? (i := 1134) (by decide +kernel), List.mem_of_getElem? (i := 1243) (by decide +kernel), List.mem_of_getElem? (i := 1244) (by decide +kernel)⟩
theorem lw_p26 : lw_okq (⟨"WordgardenModel", "becomes", "(I[I)I"⟩, 8) := ⟨⟨by decide +kernel, by decide +kernel⟩, List.mem_of_getElem? (i := 1134) (by decide +kernel), List.mem_of_getElem? (i := 1265) (by decide +kernel), List.mem_of_getElem? (i := 1266) (by decide +kernel)⟩
theorem lw_p27 : lw_okq (⟨"WordgardenModel", "byCopies", "(II)[I"⟩, 8) := ⟨⟨by decide +kernel, by decide +kernel⟩, List.mem_of_getElem? (i := 1134) (by decide +kernel), List.mem_of_getElem? (i := 1314) (by decide +kernel), List.mem_of_getElem? (i := 1315) (by decide +kernel)⟩
theorem lw_p28 : lw_okq (⟨"WordgardenModel", "byRules", "(I)[I"⟩, 8) := ⟨⟨by decide +kernel, by decide +kernel⟩, List.mem_of_getElem? (i := 1134) (by decide +kernel), List.mem_of_getElem? (i := 1318) (by decide +kernel), List.mem_of_getElem? (i := 1319) (by decide +kernel)⟩
theorem lw_p29 : lw_okq (⟨"WordgardenModel", "byLine", "(I)[I"⟩, 8) := ⟨⟨by decide +kernel, by decide +kernel⟩, List.mem_of_getElem? (i := 1134) (by decide +kernel), List.mem_of_getElem? (i := 1322) (by decide +kernel), List.mem_of_getElem? (i := 1323) (by decide +kernel)⟩
theorem lw_p30 : lw_okq (⟨"WordgardenModel", "elder", "(I)[I"⟩, 8) := ⟨⟨by decide +kernel, by decide +kernel⟩, List.mem_of_getElem? (i := 1134) (by decide +kernel), List.mem_of_getElem? (i := 1344) (by decide +kernel), List.mem_of_getElem? (i := 1345) (by decide +kernel)⟩
theorem lw_p31 : lw_okq (⟨"WordgardenModel", "word", "(IZ)[I"⟩, 8) := ⟨⟨by decide +kernel, by decide +kernel⟩, List.mem_of_getElem? (i := 1134) (by decide +kernel), List.mem_of_getElem? (i := 1460) (by decide +kernel), List.mem_of_getElem? (i := 1461) (by decide +kernel)⟩
def lw_privs_2 : List (MethodName × Nat) := [(⟨"Wordgarden$Rule", "isMarked", "(I)Z"⟩, 3), (⟨"Wordgarden", "growthActDone", "(I)I"⟩, 9), (⟨"WordgardenModel", "start", "(ZI)Z"⟩, 8), (⟨"WordgardenModel", "refuse", "(ZI)Z"⟩, 8), (⟨"WordgardenModel", "comes", "(I[I)I"⟩, 8), (⟨"WordgardenModel", "put", "(III[I)I"⟩, 8), (⟨"WordgardenModel", "cannot", "()I"⟩, 8), (⟨"WordgardenModel", "isNoGap", "(II)Z"⟩, 8), (⟨"WordgardenModel", "isNoPlace", "(II)Z"⟩, 8), (⟨"WordgardenModel", "isNoPart", "(III)Z"⟩, 8), (⟨"WordgardenModel", "becomes", "(I[I)I"⟩, 8), (⟨"WordgardenModel", "byCopies", "(II)[I"⟩, 8), (⟨"WordgardenModel", "byRules", "(I)[I"⟩, 8), (⟨"WordgardenModel", "byLine", "(I)[I"⟩, 8), (⟨"WordgardenModel", "elder", "(I)[I"⟩, 8), (⟨"WordgardenModel", "word", "(IZ)[I"⟩, 8)]
theorem lw_r2 : ∀ q ∈ lw_privs_2, lw_okq q := List.forall_mem_cons.mpr ⟨lw_p16, List.forall_mem_cons.mpr ⟨lw_p17, List.forall_mem_cons.mpr ⟨lw_p18, List.forall_mem_cons.mpr ⟨lw_p19, List.forall_mem_cons.mpr ⟨lw_p20, List.forall_mem_cons.mpr ⟨lw_p21, List.forall_mem_cons.mpr ⟨lw_p22, List.forall_mem_cons.mpr ⟨lw_p23, List.forall_mem_cons.mpr ⟨lw_p24, List.forall_mem_cons.mpr ⟨lw_p25, List.forall_mem_cons.mpr ⟨lw_p26, List.forall_mem_cons.mpr ⟨lw_p27, List.forall_mem_cons.mpr ⟨lw_p28, List.forall_mem_cons.mpr ⟨lw_p29, List.forall_mem_cons.mpr ⟨lw_p30, List.forall_mem_cons.mpr ⟨lw_p31, fun _ h => absurd h List.not_mem_nil⟩⟩⟩⟩⟩⟩⟩⟩⟩⟩⟩⟩⟩⟩⟩⟩
theorem lw_p32 : lw_okq (⟨"WordgardenModel", "told", "(I)I"⟩, 8) := ⟨⟨by decide +kernel, by decide +kernel⟩, List.mem_of_getElem? (i := 1134) (by decide +kernel), List.mem_of_getElem? (i := 1490) (by decide +kernel), List.mem_of_getElem? (i := 1491) (by decide +kernel)⟩
theorem lw_p33 : lw_okq (⟨"WordgardenModel", "isWhole", "()Z"⟩, 8) := ⟨⟨by decide +kernel, by decide +kernel⟩, List.mem_of_getElem? (i := 1134) (by decide +kernel), List.mem_of_getElem? (i := 1502) (by decide +kernel), List.mem_of_getElem? (i := 1503) (by decide +kernel)⟩
theorem lw_p34 : lw_okq (⟨"WordgardenModel", "added", "(JI)J"⟩, 8) := ⟨⟨by decide +kernel, by decide +kernel⟩, List.mem_of_getElem? (i := 1134) (by decide +kernel), List.mem_of_getElem? (i := 1515) (by decide +kernel), List.mem_of_getElem? (i := 1516) (by decide +kernel)⟩
def lw_privs_3 : List (MethodName × Nat) := [(⟨"WordgardenModel", "told", "(I)I"⟩, 8), (⟨"WordgardenModel", "isWhole", "()Z"⟩, 8), (⟨"WordgardenModel", "added", "(JI)J"⟩, 8)]
theorem lw_r3 : ∀ q ∈ lw_privs_3, lw_okq q := List.forall_mem_cons.mpr ⟨lw_p32, List.forall_mem_cons.mpr ⟨lw_p33, List.forall_mem_cons.mpr ⟨lw_p34, fun _ h => absurd h List.not_mem_nil⟩⟩⟩
def lw_privs : List (MethodName × Nat) := lw_privs_1 ++ (lw_privs_2 ++ (lw_privs_3))
def lw_tbl : List Cond := k2_sels lw_privs ++ tables_1
theorem lw_privs_ok : ∀ q ∈ lw_privs, lw_okq q := by
  show ∀ q ∈ lw_privs_1 ++ (lw_privs_2 ++ (lw_privs_3)), lw_okq q
  exact List.forall_mem_append.mpr ⟨lw_r1, List.forall_mem_append.mpr ⟨lw_r2, lw_r3⟩⟩
/-! ===== BEGIN words of one list among another's, by their places ===== -/
theorem goodIn_r {big : List Cond} (ws : List Cond) (ps : List Nat) (hp : ws = ps.filterMap (fun i => big[i]?)) (h : ws.all goodWord = true) : GoodIn big ws := by
  intro w hw
  have h1 := List.all_eq_true.mp h w hw
  rw [hp] at hw
  obtain ⟨i, -, hi⟩ := List.mem_filterMap.mp hw
  have hm : w ∈ big := by first | exact List.mem_of_getElem? hi | exact List.getElem?_mem hi
  exact ⟨hm, good_of_word h1⟩
theorem goodIn_app {big a b : List Cond} (ha : GoodIn big a) (hb : GoodIn big b) : GoodIn big (a ++ b) := fun w h => (List.mem_append.mp h).elim (ha w) (hb w)
theorem goodIn_ca {big a b : List Cond} {c : Cond} (ha : GoodIn big (c :: a)) (hb : GoodIn big b) : GoodIn big (c :: (a ++ b)) := fun w h => (List.mem_cons.mp h).elim (fun e => ha w (List.mem_cons.mpr (Or.inl e))) (fun h => (List.mem_append.mp h).elim (fun h => ha w (List.mem_cons.mpr (Or.inr h))) (hb w))
theorem goodIn_sub {big ws : List Cond} (hm : ∀ w ∈ ws, w ∈ big) (h : ws.all goodWord = true) : GoodIn big ws := fun w hw => ⟨hm w hw, good_of_word (List.all_eq_true.mp h w hw)⟩
/-! ===== END ===== -/

/-! ===== BEGIN exceptions that leave a method, and their catching by the caller (launches without stack traces) ===== -/
section VXA
/-! The laws vx_back, vx_callV, vx_callS, vx_callSW, vx_throw0, vx_throwS follow proofs of the library, with one case more: JvmDerived/Free/Laws.lean (Back.of_free), Shelf42/LK1.lean (callV, callS), Shelf/KitTraced.lean (throwNew0V, throwNewS). -/
/-- where a method has thrown q: the class by its name, the cell, what was written, the world -/
def vx_T (XC : String → State → State → Prop) (st : State) (q : Addr) (t : State) (mc ms : Nat) (free : Addr → Prop) : Prop :=
  ∃ (E : String) (ce : Cell) (L : List Loc), XC E st t ∧ t.heap[q]? = some ce ∧ ce.vm = .none ∧ st.vm.findClass E = some ce.cls ∧ st.WarmedH t.vm ∧ st.sameButNew ({ t with vm := st.vm } : State) L mc ms ∧ ∀ z ∈ L, free z.base
def vx_Q (Qc : Array Value → State → Outcome → State → Prop) (XC : String → State → State → Prop) (mc ms : Nat) (free : Addr → Prop) : Array Value → State → Outcome → State → Prop := fun a st o t =>
  (Qc a st o t ∧ ∃ L, FrameEnd st o t L mc ms ∧ ∀ q ∈ L, free q.base) ∨ ∃ q, o = .threw q ∧ vx_T XC st q t mc ms free
/-- a callee that returns or throws -/
def vx_Met (l : Launch) (y : MethodName) (ws : List Cond) (rm : Room) (Pc : Array Value → State → Prop) (Qc : Array Value → State → Outcome → State → Prop) (XC : String → State → State → Prop) (mc ms : Nat) (free : Addr → Prop) : Prop :=
  MetFree l y (headSpec ws rm) Pc (fun _ _ _ _ _ => True) (vx_Q Qc XC mc ms free)
def vx_Post (XC : String → State → State → Prop) (mc ms : Nat) (free : Addr → Prop) : Pt → Array Value → Addr → Pt → Prop := fun A a q B =>
  ∃ (g : JFrame) (mk : MethodId) (t : State) (L : List Loc) (E : String) (ce : Cell), B.U.heap = t.heap ∧ B.U.vm = t.vm ∧ XC E (A.U.calling g mk a) t ∧ t.heap[q]? = some ce ∧ ce.vm = .none ∧ A.U.vm.findClass E = some ce.cls ∧ B.locs = A.locs ++ L ∧ (∀ z ∈ L, free z.base) ∧ B.cells = A.cells + mc ∧ B.slots = A.slots + ms
def vx_Back (l : Launch) (R : Room) (p : Program) (e : Env) (below : List Frame) (s : State) (sargs : Array Value) (y : MethodName) (len W9 : Nat)
    (Pre : Pt → Array Value → Prop) (Post : Pt → Array Value → Option Value → Pt → Prop) (PostX : Pt → Array Value → Addr → Pt → Prop) : Prop :=
  ∀ (m : MethodId) (meth : Method) (c : Code) (A : Pt) (g : JFrame) (ig : Instr) (mk : MethodId) (a : Array Value),
    Stand p l e R s m sargs below meth c A.U A.locs A.cells A.slots → g.method = m → g.locals.size = c.maxLocals → decode c.code g.pc = .ok (ig, len) →
    2 * g.monitorRoom + (g.stack.map fun v => v.category).sum ≤ W9 → A.U.methodNamed? y = some mk → Pre A a →
    (∃ (v : Option Value) (B : Pt), Stand p l e R s m sargs below meth c B.U B.locs B.cells B.slots ∧ Post A a v B ∧
      Steps p.tables e below (doInvoke e (A.U.setTop g) [] mk a).1 (B.U.setTop { g with pc := g.pc + len, stack := v.toList ++ g.stack })) ∨
    (∃ (q : Addr) (B : Pt), Stand p l e R s m sargs below meth c B.U B.locs B.cells B.slots ∧ PostX A a q B ∧
      Steps p.tables e below (doInvoke e (A.U.setTop g) [] mk a).1 ((B.U.setTop g).pushFrame (.throwing q)))
section Payer
variable {l : Launch} {R : Room} {p : Program} {e : Env} {below : List Frame} {s : State} {sargs : Array Value} {y : MethodName} {len W9 : Nat}
theorem vx_back {ws : List Cond} {rm : Room} {Pc : Array Value → State → Prop} {Qc : Array Value → State → Outcome → State → Prop} {XC : String → State → State → Prop} {mc ms : Nat} {free : Addr → Prop} {bytes : ByteArray} {maxL : Nat} {ret : Option FieldType}
    (hM : vx_Met l y ws rm Pc Qc XC mc ms free) (hblind : FrameBlind Pc) (hrc : rm.cells = mc) (hrs : rm.slots = ms)
    (hframes : rm.frames + 1 ≤ R.frames) (hlocals : W9 + (maxL + 11) + rm.locals ≤ R.locals)
    (hws : ∀ w ∈ ws, ∀ a' U, s.WarmedH U.vm → w.before a' U = true) (hcode : Cond.code y bytes maxL ret ∈ ws) (hinit : ∀ a' U, s.WarmedH U.vm → (Cond.initialized y.cls).before a' U = true) :
    vx_Back l R p e below s sargs y len W9 (PreOf R mc ms Pc) (PostOf Qc mc ms free) (vx_Post XC mc ms free) := by
  intro m meth c A g ig mk a X hg hsize hdg hW hn hp
  have h1 : (headSpec ws rm).pre.before a A.U = true := atoms_intro fun w hw => hws w hw _ _ X.warmed
  have h2 : (Cond.code y bytes maxL ret).before a A.U = true := hws _ hcode _ _ X.warmed
  have h3 : (Cond.initialized y.cls).before a A.U = true := hinit _ _ X.warmed
  have h4 : A.cells + (headSpec ws rm).room.cells ≤ R.cells := by rw [show (headSpec ws rm).room.cells = mc from hrc]; exact hp.1
  have h5 : A.slots + (headSpec ws rm).room.slots ≤ R.slots := by rw [show (headSpec ws rm).room.slots = ms from hrs]; exact hp.2.1
  have hPc : Pc a (A.U.calling g mk a) := hblind _ _ _ _ hp.2.2
  obtain ⟨U, Ls, c0, s0⟩ := A
  dsimp only [Pt.U, Pt.locs, Pt.cells, Pt.slots] at h1 h2 h3 h4 h5 X hn hPc ⊢
  obtain ⟨methY, cY, hmY, hcY, -, hlY, -, -, -, -⟩ := Cond.code_spec hn h2
  obtain ⟨kY, hkY, -⟩ := className_of_methodNamed hn
  have hinitY : kY.init = .initialized := Cond.initialized_spec (findClass_of_methodNamed hn) hkY h3
  have h : At U g.method c below := by rw [hg]; exact X.here
  have hlocals9 : W9 + (maxL + 11) + (headSpec ws rm).room.locals ≤ R.locals := hlocals
  have happ : (headSpec ws rm).appliesLoose y e.platform (U.calling g mk a) = true :=
    Spec.appliesLoose_calling (g := g) h hdg hn hkY hinitY
      (X.room_calling (g := g) (R' := (headSpec ws rm).room) hsize hmY hcY hframes (by rw [hlY]; omega) h4 h5) h1
  obtain ⟨mid, hmid⟩ := h.above
  have hfr : (U.setTop g).frames = (.java g :: mid) ++ below := by rw [State.frames_setTop' g h.top, hmid]; rfl
  obtain ⟨o, s₂, hsteps, -, hend, hq⟩ := Steps.callFree hM p X.admits X.cas X.clock (acts := []) hfr happ hPc trivial
  have hq' : vx_Q Qc XC mc ms free a (U.calling g mk a) o s₂ := hq
  rw [State.frames_setTop' g h.top] at hend
  obtain ⟨g₀, hg0⟩ := Option.isSome_iff_exists.mp h.top
  obtain ⟨r, hr⟩ := State.topJava?_eq_some.mp hg0
  have hr' : (({ U with heap := s₂.heap, slotsUsed := s₂.slotsUsed } : State).setVm s₂.vm).frames = .java g₀ :: r := hr
  rcases hq' with ⟨hqc, L, hfe, hL⟩ | ⟨q, rfl, E, ce, L, hx, hce, hcv, hcl, hW₂, hsm, hL⟩
  · obtain ⟨⟨v, rfl⟩, hW₂, e2, q2, q3, q4, q5, q6⟩ := id hfe
    have e3 : s₂ = ({ (U.calling g mk a).setFrames s₂.frames with heap := s₂.heap, slotsUsed := s₂.slotsUsed } : State).setVm s₂.vm := by
      have : s₂ = ({ s₂ with vm := (U.calling g mk a).vm } : State).setVm s₂.vm := rfl
      rw [e2] at this
      exact this
    obtain ⟨c₂, i₂, len₂, hc₂, hd₂, hf₂⟩ := hend
    have hW' : U.WarmedH s₂.vm := hW₂
    have hcc : c₂ = c := by
      have h1 : s₂.code? g.method = U.code? g.method := by
        rw [State.code?_eq, State.code?_eq, hW'.alike.method?]
      exact Option.some.inj (hc₂.symm.trans (h1.trans h.code))
    subst hcc
    have hlen : len₂ = len := by rw [hdg] at hd₂; cases hd₂; rfl
    subst hlen
    have hs₂ : s₂ = (({ U with heap := s₂.heap, slotsUsed := s₂.slotsUsed } : State).setVm s₂.vm).setTop { g with pc := g.pc + len₂, stack := v.toList ++ g.stack } := by
      refine e3.trans ?_
      rw [hf₂, State.calling_eq h.top, State.setFrames_setFrames, State.setTop_of_frames _ hr', hr]
      rfl
    have hsame : U.sameButNew ({ U with heap := s₂.heap, slotsUsed := s₂.slotsUsed } : State) L mc ms := by
      refine ⟨?_, q2, q3, q4, q5, q6⟩
      obtain ⟨t, ht, -⟩ := State.frames_cons hr
      show ({ U with heap := s₂.heap, slotsUsed := s₂.slotsUsed } : State) = { U.setFrames U.frames with heap := s₂.heap, slotsUsed := s₂.slotsUsed }
      rw [State.setFrames_self ht]
    subst hg
    refine Or.inl ⟨v, ⟨(({ U with heap := s₂.heap, slotsUsed := s₂.slotsUsed } : State).setVm s₂.vm), Ls ++ L, c0 + mc, s0 + ms⟩,
      ⟨X.admits, X.cas, X.clock, X.frames, X.room, X.hears, X.method, X.code, (X.here.setHeapUsed s₂.heap s₂.slotsUsed).setVm hW'.alike, X.tail, State.WarmedH.trans X.warmed hW', X.limits, X.bytes, X.same.trans (hsame.setVm s.vm)⟩,
      ⟨g, mk, s₂, L, rfl, rfl, hqc, rfl, hL, rfl, rfl⟩, ?_⟩
    show Steps p.tables e below _ ((({ U with heap := s₂.heap, slotsUsed := s₂.slotsUsed } : State).setVm s₂.vm).setTop { g with pc := g.pc + len₂, stack := v.toList ++ g.stack })
    rw [← hs₂]
    exact hsteps
  · obtain ⟨e2, q2, q3, q4, q5, q6⟩ := id hsm
    have e3 : s₂ = ({ (U.calling g mk a).setFrames s₂.frames with heap := s₂.heap, slotsUsed := s₂.slotsUsed } : State).setVm s₂.vm := by
      have : s₂ = ({ s₂ with vm := (U.calling g mk a).vm } : State).setVm s₂.vm := rfl
      rw [e2] at this
      exact this
    have hf₂ : s₂.frames = .throwing q :: .java g :: U.frames.tail := hend
    have hW' : U.WarmedH s₂.vm := hW₂
    have hs₂ : s₂ = ((({ U with heap := s₂.heap, slotsUsed := s₂.slotsUsed } : State).setVm s₂.vm).setTop g).pushFrame (.throwing q) := by
      refine e3.trans ?_
      rw [hf₂, State.calling_eq h.top, State.setFrames_setFrames, State.pushFrame, State.frames_setTop _ hr', State.setTop_of_frames _ hr', State.setFrames_setFrames, hr]
      rfl
    have hsame : U.sameButNew ({ U with heap := s₂.heap, slotsUsed := s₂.slotsUsed } : State) L mc ms := by
      refine ⟨?_, q2, q3, q4, q5, q6⟩
      obtain ⟨t, ht, -⟩ := State.frames_cons hr
      show ({ U with heap := s₂.heap, slotsUsed := s₂.slotsUsed } : State) = { U.setFrames U.frames with heap := s₂.heap, slotsUsed := s₂.slotsUsed }
      rw [State.setFrames_self ht]
    subst hg
    refine Or.inr ⟨q, ⟨(({ U with heap := s₂.heap, slotsUsed := s₂.slotsUsed } : State).setVm s₂.vm), Ls ++ L, c0 + mc, s0 + ms⟩,
      ⟨X.admits, X.cas, X.clock, X.frames, X.room, X.hears, X.method, X.code, (X.here.setHeapUsed s₂.heap s₂.slotsUsed).setVm hW'.alike, X.tail, State.WarmedH.trans X.warmed hW', X.limits, X.bytes, X.same.trans (hsame.setVm s.vm)⟩,
      ⟨g, mk, s₂, L, E, ce, rfl, rfl, hx, hce, hcv, hcl, rfl, hL, rfl, rfl⟩, ?_⟩
    show Steps p.tables e below _ (((({ U with heap := s₂.heap, slotsUsed := s₂.slotsUsed } : State).setVm s₂.vm).setTop g).pushFrame (.throwing q))
    rw [← hs₂]
    exact hsteps
end Payer
section Calls
variable {p : Program} {l : Launch} {e : Env} {R : Room} {s : State} {m : MethodId} {args : Array Value} {below : List Frame} {meth : Method} {c : Code} {T : State} {locs : List Loc} {cells slots : Nat}
theorem vx_callV (X : Stand p l e R s m args below meth c T locs cells slots) (hexec : p.tables.exec = Jvm.exec) {own C : String} {index : Nat} {y : MethodName} {bytes : ByteArray} {maxL : Nat} {ret : Option FieldType}
    (hown : s.vm.findClass own = some m.cls) (hlink : (Cond.methodLink own index y).before args s = true) (hinst : (Cond.instanceMethod y).before args s = true) (hsel : (Cond.selects C y y).before args s = true)
    (hcode : (Cond.code y bytes maxL ret).before args s = true) (hy : y.cls ≠ "java/lang/invoke/MethodHandle" ∧ y.cls ≠ "java/lang/invoke/VarHandle")
    {W9 : Nat} {Pre : Pt → Array Value → Prop} {Post : Pt → Array Value → Option Value → Pt → Prop} {PostX : Pt → Array Value → Addr → Pt → Prop} (hK : vx_Back l R p e below s args y 3 W9 Pre Post PostX)
    {b : Addr} {cellB : Cell} (hcell : T.heap[b]? = some cellB) (hobj : cellB.vm.isStatics = false) (hcls : s.vm.findClass C = some cellB.cls)
    {g : JFrame} (hg : g.method = m) (hsize : g.locals.size = c.maxLocals) {argsL rest : List Value} (hlen : ∀ sig, parseMethodDescriptor y.desc = some sig → argsL.length = sig.parameters.length)
    (hstack : g.stack = argsL.reverse ++ .ref b :: rest) (hW : 2 * g.monitorRoom + (rest.map fun v => v.category).sum ≤ W9) (hdg : decode c.code g.pc = .ok (.invokevirtual index, 3))
    (hpre : ∀ vm₁, s.WarmedH vm₁ → Pre ⟨T.setVm vm₁, locs, cells, slots⟩ (Value.ref b :: argsL).toArray) :
    (∃ (v : Option Value) (vm₁ : Vm) (B : Pt), s.WarmedH vm₁ ∧ Stand p l e R s m args below meth c B.U B.locs B.cells B.slots ∧ Post ⟨T.setVm vm₁, locs, cells, slots⟩ (Value.ref b :: argsL).toArray v B ∧
      ∀ target, Steps p.tables e below (B.U.setTop { g with pc := g.pc + 3, stack := v.toList ++ rest }) target → Steps p.tables e below (T.setTop g) target) ∨
    (∃ (q : Addr) (vm₁ : Vm) (B : Pt), s.WarmedH vm₁ ∧ Stand p l e R s m args below meth c B.U B.locs B.cells B.slots ∧ PostX ⟨T.setVm vm₁, locs, cells, slots⟩ (Value.ref b :: argsL).toArray q B ∧
      Steps p.tables e below (T.setTop g) ((B.U.setTop { g with stack := rest }).pushFrame (.throwing q))) := by
  obtain ⟨mk, methM, hnamed, hmethM, hstM, habM⟩ := Cond.instanceMethod_spec hinst
  obtain ⟨methM', cM, hmethM', -, -, -, -, -, -, hsigM⟩ := Cond.code_spec hnamed hcode
  cases hmethM.symm.trans hmethM'
  obtain ⟨c2, r2, m2, q1, q2, q3, q4, kP, hkP, hkPi⟩ := Cond.selects_spec hsel
  cases hcls.symm.trans q1
  cases (State.methodFound?_of_named hnamed hy).symm.trans q2
  cases hnamed.symm.trans q3
  have hselP : selectMethod e.platform s.vm cellB.cls mk = .method mk := by rw [Launch.admits_selectMethod X.admits]; exact q4
  obtain ⟨vm₁, X₁, hstep₁⟩ := X.invokevirtual hexec hown hlink hnamed hmethM hstM hkP hkPi hy (a := b) (cell := cellB) hcell
    (fun z h => by rw [h] at hobj; cases hobj) hselP hmethM habM hkP hkPi (g := g) hg (argsL := argsL) (rest := rest) (hlen _ hsigM) hstack hdg
  rcases hK m meth c ⟨T.setVm vm₁, locs, cells, slots⟩ { g with stack := rest } (.invokevirtual index) mk (Value.ref b :: argsL).toArray X₁ hg hsize hdg hW (X₁.named hnamed) (hpre vm₁ X₁.warmed) with ⟨v, B, X', hpost, hsteps⟩ | ⟨q, B, X', hpost, hsteps⟩
  · exact Or.inl ⟨v, vm₁, B, X₁.warmed, X', hpost, fun target h => hstep₁ _ fun acts => by rw [doInvoke_state]; exact hsteps.trans h⟩
  · exact Or.inr ⟨q, vm₁, B, X₁.warmed, X', hpost, hstep₁ _ fun acts => by rw [doInvoke_state]; exact hsteps⟩
theorem vx_callS (X : Stand p l e R s m args below meth c T locs cells slots) (hexec : p.tables.exec = Jvm.exec) {own : String} {index : Nat} {y : MethodName} {bytes : ByteArray} {maxL : Nat} {ret : Option FieldType}
    (hown : s.vm.findClass own = some m.cls) (hlink : (Cond.methodLink own index y).before args s = true) (hstat : (Cond.static y).before args s = true) (hinit : (Cond.initialized y.cls).before args s = true)
    (hcode : (Cond.code y bytes maxL ret).before args s = true) (hy : y.cls ≠ "java/lang/invoke/MethodHandle" ∧ y.cls ≠ "java/lang/invoke/VarHandle")
    {W9 : Nat} {Pre : Pt → Array Value → Prop} {Post : Pt → Array Value → Option Value → Pt → Prop} {PostX : Pt → Array Value → Addr → Pt → Prop} (hK : vx_Back l R p e below s args y 3 W9 Pre Post PostX)
    {g : JFrame} (hg : g.method = m) (hsize : g.locals.size = c.maxLocals) {argsL rest : List Value} (hlen : ∀ sig, parseMethodDescriptor y.desc = some sig → argsL.length = sig.parameters.length)
    (hstack : g.stack = argsL.reverse ++ rest) (hW : 2 * g.monitorRoom + (rest.map fun v => v.category).sum ≤ W9) (hdg : decode c.code g.pc = .ok (.invokestatic index, 3))
    (hpre : ∀ vm₁, s.WarmedH vm₁ → Pre ⟨T.setVm vm₁, locs, cells, slots⟩ argsL.toArray) :
    (∃ (v : Option Value) (vm₁ : Vm) (B : Pt), s.WarmedH vm₁ ∧ Stand p l e R s m args below meth c B.U B.locs B.cells B.slots ∧ Post ⟨T.setVm vm₁, locs, cells, slots⟩ argsL.toArray v B ∧
      ∀ target, Steps p.tables e below (B.U.setTop { g with pc := g.pc + 3, stack := v.toList ++ rest }) target → Steps p.tables e below (T.setTop g) target) ∨
    (∃ (q : Addr) (vm₁ : Vm) (B : Pt), s.WarmedH vm₁ ∧ Stand p l e R s m args below meth c B.U B.locs B.cells B.slots ∧ PostX ⟨T.setVm vm₁, locs, cells, slots⟩ argsL.toArray q B ∧
      Steps p.tables e below (T.setTop g) ((B.U.setTop { g with stack := rest }).pushFrame (.throwing q))) := by
  obtain ⟨mk, hnamed⟩ := Cond.code_named hcode
  obtain ⟨methM, cM, hmethM, -, -, -, -, -, -, hsigM⟩ := Cond.code_spec hnamed hcode
  have hstatic : methM.isStatic = true := Cond.static_spec hnamed hmethM hstat
  obtain ⟨kP, hkP, -⟩ := className_of_methodNamed hnamed
  have hinitP : kP.init = .initialized := Cond.initialized_spec (findClass_of_methodNamed hnamed) hkP hinit
  obtain ⟨vm₁, X₁, hstep₁⟩ := X.invokestatic hexec hown hlink hnamed hmethM hstatic hkP hinitP hy (g := g) hg (argsL := argsL) (rest := rest) (hlen _ hsigM) hstack hdg
  rcases hK m meth c ⟨T.setVm vm₁, locs, cells, slots⟩ { g with stack := rest } (.invokestatic index) mk argsL.toArray X₁ hg hsize hdg hW (X₁.named hnamed) (hpre vm₁ X₁.warmed) with ⟨v, B, X', hpost, hsteps⟩ | ⟨q, B, X', hpost, hsteps⟩
  · exact Or.inl ⟨v, vm₁, B, X₁.warmed, X', hpost, fun target h => hstep₁ _ fun acts => by rw [doInvoke_state]; exact hsteps.trans h⟩
  · exact Or.inr ⟨q, vm₁, B, X₁.warmed, X', hpost, hstep₁ _ fun acts => by rw [doInvoke_state]; exact hsteps⟩
end Calls
theorem vx_cls {s : State} {T : State} {vm₁ : Vm} {E : String} {k : ClassId} (hW : s.WarmedH vm₁) (h : (T.setVm vm₁).vm.findClass E = some k) : s.vm.findClass E = some k := by
  have h1 : vm₁.findClass E = some k := h
  rw [hW.alike.findClass] at h1
  exact h1
/-- the method's frame g, with q thrown over it -/
def vx_W (p : Program) (l : Launch) (e : Env) (R : Room) (s : State) (m : MethodId) (args : Array Value) (below : List Frame) (meth : Method) (c : Code) (H : Heap) (locs : List Loc) (cells slots : Nat) (Q : State → Prop) (g : JFrame) (q : Addr) : Prop :=
  ∀ T : State, T.heap = H → Stand p l e R s m args below meth c T locs cells slots → ∃ t, Steps p.tables e below ((T.setTop g).pushFrame (.throwing q)) t ∧ Q t
def vx_Run (p : Program) (l : Launch) (e : Env) (R : Room) (s : State) (m : MethodId) (args : Array Value) (below : List Frame) (meth : Method) (c : Code) (H : Heap) (locs : List Loc) (cells slots mc ms : Nat) (g : JFrame) (rest : List Value) (Qa : State → Outcome → State → Prop) (XC : String → State → State → Prop) (free : Addr → Prop) : Prop :=
  ∀ T : State, T.heap = H → Stand p l e R s m args below meth c T locs cells slots →
    (∃ (v : Option Value) (st₀ t T' : State) (L : List Loc), st₀.heap = H ∧ Stand p l e R s m args below meth c T' (locs ++ L) (cells + mc) (slots + ms) ∧ (∀ q ∈ L, free q.base) ∧ T'.heap = t.heap ∧ T'.vm = t.vm ∧ Qa st₀ (.returned v) t ∧
      Goes p e below T g T' { g with pc := g.pc + 3, stack := v.toList ++ rest }) ∨
    (∃ (q : Addr) (st₀ t T' : State) (L : List Loc) (E : String) (ce : Cell), st₀.heap = H ∧ Stand p l e R s m args below meth c T' (locs ++ L) (cells + mc) (slots + ms) ∧ (∀ z ∈ L, free z.base) ∧ T'.heap = t.heap ∧ T'.vm = t.vm ∧ XC E st₀ t ∧ t.heap[q]? = some ce ∧ ce.vm = .none ∧ s.vm.findClass E = some ce.cls ∧
      Steps p.tables e below (T.setTop g) ((T'.setTop { g with stack := rest }).pushFrame (.throwing q)))
def vx_X {S : Type} (px : S → Prop) (B : String → S → State → Prop) (A : Nat → Prop) : String → State → State → Prop := fun E st t => ∃ u : S, px u ∧ B E u t ∧ va_F A st t
section Runs
variable {p : Program} {l : Launch} {e : Env} {R : Room} {s : State} {m : MethodId} {args : Array Value} {below : List Frame} {meth : Method} {c : Code} {H : Heap} {locs : List Loc} {cells slots : Nat}
variable {y : MethodName} {bytes cc : ByteArray} {maxL nL mc ms n index : Nat} {ret : Option FieldType} {ws : List Cond} {rm : Room} {Pc : Array Value → State → Prop} {Qc : Array Value → State → Outcome → State → Prop} {XC : String → State → State → Prop} {free : Addr → Prop} {Ts : List Cond} {own C : String} {b : Addr} {As rest : List Value} {g : JFrame}
theorem vx_callBack (cb : CallB R s args own index y bytes maxL ret ws rm mc ms n) (hM : vx_Met l y ws rm Pc Qc XC mc ms free) (hbl : FrameBlind Pc) : vx_Back l R p e below s args y 3 8 (PreOf R mc ms Pc) (PostOf Qc mc ms free) (vx_Post XC mc ms free) := by
  obtain ⟨hrc, hrs, hfr, hlo, hws, hcw, -, hini, -⟩ := cb
  exact vx_back (bytes := bytes) (maxL := maxL) (ret := ret) hM hbl hrc hrs hfr hlo hws hcw (fun a' U hW => word_at hW (Or.inl (by first | rfl | simp [Cond.onTables, Cond.keeps, Cond.steady])) hini)
theorem vx_runV (S : CallFix p m c cc nL s args Ts own) (hM : vx_Met l y ws rm Pc Qc XC mc ms free) (cw : CallW R s args own C index y bytes maxL ret ws rm mc ms n) (hp : PreV s H C b Pc As)
    (hg : g.method = m) (hn : As.length = n) (hsize : g.locals.size = nL) (hstack : g.stack = As.reverse ++ .ref b :: rest) (hW : 2 * g.monitorRoom + (rest.map fun v => v.category).sum ≤ 8) (hdg : decode cc g.pc = .ok (.invokevirtual index, 3)) (hf : cells + mc ≤ R.cells ∧ slots + ms ≤ R.slots) :
    vx_Run p l e R s m args below meth c H locs cells slots mc ms g rest (Qc (Value.ref b :: As).toArray) XC free := by
  have hK : vx_Back l R p e below s args y 3 8 (PreOf R mc ms Pc) (PostOf Qc mc ms free) (vx_Post XC mc ms free) := vx_callBack cw.1 hM hp.1
  obtain ⟨⟨-, -, -, -, -, -, hcode, -, hy, hlen, hl⟩, hin, hse⟩ := cw
  obtain ⟨hx, hb, hml, ho, -⟩ := S
  obtain ⟨-, ⟨cellB, hcB, hoB, hclB⟩, hPc⟩ := hp
  intro T hT X
  rcases vx_callV X hx (C := C) (bytes := bytes) (maxL := maxL) (ret := ret) ho hl hin hse hcode hy hK (by rw [hT]; exact hcB) hoB hclB hg (hsize.trans hml.symm) (argsL := As) (rest := rest) (fun sig h => hn.trans (hlen sig h)) hstack hW (by rw [hb]; exact hdg)
    (fun vm₁ hW₁ => ⟨hf.1, hf.2, hPc (T.setVm vm₁) hT hW₁⟩) with ⟨v, vm₁, ⟨U', l2, c2, s2⟩, hW₁, X', ⟨g', mk, t, L, e1, e2, hq, h1, hL, h2, h3⟩, st⟩ | ⟨q, vm₁, ⟨U', l2, c2, s2⟩, hW₁, X', ⟨g', mk, t, L, E, ce, e1, e2, hq, hce, hcv, hcl, h1, hL, h2, h3⟩, st⟩
  · dsimp only [Pt.U, Pt.locs, Pt.cells, Pt.slots] at X' e1 e2 h1 h2 h3 st
    subst h1; subst h2; subst h3
    exact Or.inl ⟨v, (T.setVm vm₁).calling g' mk (Value.ref b :: As).toArray, t, U', L, hT, X', hL, e1, e2, hq, st⟩
  · dsimp only [Pt.U, Pt.locs, Pt.cells, Pt.slots] at X' e1 e2 h1 h2 h3 st hcl
    subst h1; subst h2; subst h3
    exact Or.inr ⟨q, (T.setVm vm₁).calling g' mk (Value.ref b :: As).toArray, t, U', L, E, ce, hT, X', hL, e1, e2, hq, hce, hcv, vx_cls hW₁ hcl, st⟩
theorem vx_runS (S : CallFix p m c cc nL s args Ts own) (hM : vx_Met l y ws rm Pc Qc XC mc ms free) (cw : CallB R s args own index y bytes maxL ret ws rm mc ms n ∧ (Cond.static y).before args s = true) (hp : PreS s H Pc As)
    (hg : g.method = m) (hn : As.length = n) (hsize : g.locals.size = nL) (hstack : g.stack = As.reverse ++ rest) (hW : 2 * g.monitorRoom + (rest.map fun v => v.category).sum ≤ 8) (hdg : decode cc g.pc = .ok (.invokestatic index, 3)) (hf : cells + mc ≤ R.cells ∧ slots + ms ≤ R.slots) :
    vx_Run p l e R s m args below meth c H locs cells slots mc ms g rest (Qc As.toArray) XC free := by
  have hK : vx_Back l R p e below s args y 3 8 (PreOf R mc ms Pc) (PostOf Qc mc ms free) (vx_Post XC mc ms free) := vx_callBack cw.1 hM hp.1
  obtain ⟨⟨-, -, -, -, -, -, hcode, hini, hy, hlen, hl⟩, hstt⟩ := cw
  obtain ⟨hx, hb, hml, ho, -⟩ := S
  intro T hT X
  rcases vx_callS X hx (bytes := bytes) (maxL := maxL) (ret := ret) ho hl hstt hini hcode hy hK hg (hsize.trans hml.symm) (argsL := As) (rest := rest) (fun sig h => hn.trans (hlen sig h)) hstack hW (by rw [hb]; exact hdg)
    (fun vm₁ hW₁ => ⟨hf.1, hf.2, hp.2 (T.setVm vm₁) hT hW₁⟩) with ⟨v, vm₁, ⟨U', l2, c2, s2⟩, hW₁, X', ⟨g', mk, t, L, e1, e2, hq, h1, hL, h2, h3⟩, st⟩ | ⟨q, vm₁, ⟨U', l2, c2, s2⟩, hW₁, X', ⟨g', mk, t, L, E, ce, e1, e2, hq, hce, hcv, hcl, h1, hL, h2, h3⟩, st⟩
  · dsimp only [Pt.U, Pt.locs, Pt.cells, Pt.slots] at X' e1 e2 h1 h2 h3 st
    subst h1; subst h2; subst h3
    exact Or.inl ⟨v, (T.setVm vm₁).calling g' mk As.toArray, t, U', L, hT, X', hL, e1, e2, hq, st⟩
  · dsimp only [Pt.U, Pt.locs, Pt.cells, Pt.slots] at X' e1 e2 h1 h2 h3 st hcl
    subst h1; subst h2; subst h3
    exact Or.inr ⟨q, (T.setVm vm₁).calling g' mk As.toArray, t, U', L, E, ce, hT, X', hL, e1, e2, hq, hce, hcv, vx_cls hW₁ hcl, st⟩
end Runs
section Rows
variable {p : Program} {l : Launch} {e : Env} {R : Room} {s : State} {m : MethodId} {args : Array Value} {below : List Frame} {meth : Method} {c : Code} {H : Heap} {locs : List Loc} {cells slots : Nat} {Q : State → Prop}
variable {mc ms : Nat} {free : Addr → Prop} {A0 A1 : Nat → Prop} {H0 : Heap} {a : Array Value} {pc : Nat} {ls : Array Slot} {st0 rest : List Value}
theorem vx_keep {st₀ t T' : State} {L : List Loc} (h0 : st₀.heap = H) (e1 : T'.heap = t.heap) (hS : va_S A0 H0 H locs) (hA : ∀ q, q < H.size → A1 q → A0 q) (hf : ∀ q, free q → A0 q) (hL : ∀ q ∈ L, free q.base) (hF : va_F A1 st₀ t) :
    H.size ≤ T'.heap.size ∧ (∀ q : Nat, q < H.size → ¬ A1 q → T'.heap[q]? = H[q]?) ∧ va_S A0 H0 T'.heap (locs ++ L) := by
  obtain ⟨hz, hk⟩ := hF
  rw [h0] at hz hk
  exact ⟨by rw [e1]; exact hz, fun q h1 h2 => by rw [e1]; exact hk q h1 h2,
    ⟨Nat.le_trans hS.1 (by rw [e1]; exact hz), fun q h1 h2 => by rw [e1, hk q (Nat.lt_of_lt_of_le h1 hS.1) (fun z => h2 (hA q (Nat.lt_of_lt_of_le h1 hS.1) z))]; exact hS.2.1 q h1 h2, fun q hq => by
      rcases List.mem_append.mp hq with h | h
      · exact hS.2.2 q h
      · exact hf _ (hL q h)⟩⟩
theorem vx_calli {S SX : Type} {post : Int32 → S → Prop} {px : SX → Prop} {B : S → State → Prop} {BX : String → SX → State → Prop} {AX : Nat → Prop} (hr : vx_Run p l e R s m args below meth c H locs cells slots mc ms (F0 m pc ls st0) rest (va_Qi post B A1 a) (vx_X px BX AX) free) (hS : va_S A0 H0 H locs) (hA : ∀ q, q < H.size → A1 q → A0 q) (hf : ∀ q, free q → A0 q) (hAX : ∀ q, q < H.size → AX q → A0 q)
    (kx : ∀ (E : String) (ce : Cell) (q9 : Addr) (u : SX) (t : State) (H1 : Heap) (locs1 : List Loc), t.heap = H1 → s.vm.Alike t.vm → px u → BX E u t → H.size ≤ H1.size → (∀ q : Nat, q < H.size → ¬ AX q → H1[q]? = H[q]?) → va_S A0 H0 H1 locs1 → H1[q9]? = some ce → ce.vm = .none → s.vm.findClass E = some ce.cls → vx_W p l e R s m args below meth c H1 locs1 (cells + mc) (slots + ms) Q (F0 m pc ls rest) q9)
    (kk : ∀ (r : Int32) (u : S) (t : State) (H1 : Heap) (locs1 : List Loc), t.heap = H1 → s.vm.Alike t.vm → post r u → B u t → H.size ≤ H1.size → (∀ q : Nat, q < H.size → ¬ A1 q → H1[q]? = H[q]?) → va_S A0 H0 H1 locs1 → W p l e R s m args below meth c H1 locs1 (cells + mc) (slots + ms) Q (F0 m (pc + 3) ls (.int r :: rest))) : W p l e R s m args below meth c H locs cells slots Q (F0 m pc ls st0) := by
  intro T hT X
  rcases hr T hT X with ⟨v, st₀, t, T', L, h0, X', hL, e1, e2, ⟨⟨r, u, hv, hp, hb⟩, hF⟩, st⟩ | ⟨q, st₀, t, T', L, E, ce, h0, X', hL, e1, e2, ⟨u, hp, hb, hF⟩, hce, hcv, hcl, st⟩
  · cases hv
    obtain ⟨k1, k2, k3⟩ := vx_keep h0 e1 hS hA hf hL hF
    obtain ⟨t2, a1, b1⟩ := kk r u t T'.heap (locs ++ L) e1.symm (by rw [← e2]; exact X'.warmed.alike) hp hb k1 k2 k3 T' rfl X'
    exact ⟨t2, st t2 a1, b1⟩
  · obtain ⟨k1, k2, k3⟩ := vx_keep h0 e1 hS hAX hf hL hF
    obtain ⟨t2, a1, b1⟩ := kx E ce q u t T'.heap (locs ++ L) e1.symm (by rw [← e2]; exact X'.warmed.alike) hp hb k1 k2 k3 (by rw [e1]; exact hce) hcv hcl T' rfl X'
    exact ⟨t2, st.trans a1, b1⟩
theorem vx_calll {S SX : Type} {post : Int64 → S → Prop} {px : SX → Prop} {B : S → State → Prop} {BX : String → SX → State → Prop} {AX : Nat → Prop} (hr : vx_Run p l e R s m args below meth c H locs cells slots mc ms (F0 m pc ls st0) rest (va_Ql post B A1 a) (vx_X px BX AX) free) (hS : va_S A0 H0 H locs) (hA : ∀ q, q < H.size → A1 q → A0 q) (hf : ∀ q, free q → A0 q) (hAX : ∀ q, q < H.size → AX q → A0 q)
    (kx : ∀ (E : String) (ce : Cell) (q9 : Addr) (u : SX) (t : State) (H1 : Heap) (locs1 : List Loc), t.heap = H1 → s.vm.Alike t.vm → px u → BX E u t → H.size ≤ H1.size → (∀ q : Nat, q < H.size → ¬ AX q → H1[q]? = H[q]?) → va_S A0 H0 H1 locs1 → H1[q9]? = some ce → ce.vm = .none → s.vm.findClass E = some ce.cls → vx_W p l e R s m args below meth c H1 locs1 (cells + mc) (slots + ms) Q (F0 m pc ls rest) q9)
    (kk : ∀ (r : Int64) (u : S) (t : State) (H1 : Heap) (locs1 : List Loc), t.heap = H1 → s.vm.Alike t.vm → post r u → B u t → H.size ≤ H1.size → (∀ q : Nat, q < H.size → ¬ A1 q → H1[q]? = H[q]?) → va_S A0 H0 H1 locs1 → W p l e R s m args below meth c H1 locs1 (cells + mc) (slots + ms) Q (F0 m (pc + 3) ls (.long r :: rest))) : W p l e R s m args below meth c H locs cells slots Q (F0 m pc ls st0) := by
  intro T hT X
  rcases hr T hT X with ⟨v, st₀, t, T', L, h0, X', hL, e1, e2, ⟨⟨r, u, hv, hp, hb⟩, hF⟩, st⟩ | ⟨q, st₀, t, T', L, E, ce, h0, X', hL, e1, e2, ⟨u, hp, hb, hF⟩, hce, hcv, hcl, st⟩
  · cases hv
    obtain ⟨k1, k2, k3⟩ := vx_keep h0 e1 hS hA hf hL hF
    obtain ⟨t2, a1, b1⟩ := kk r u t T'.heap (locs ++ L) e1.symm (by rw [← e2]; exact X'.warmed.alike) hp hb k1 k2 k3 T' rfl X'
    exact ⟨t2, st t2 a1, b1⟩
  · obtain ⟨k1, k2, k3⟩ := vx_keep h0 e1 hS hAX hf hL hF
    obtain ⟨t2, a1, b1⟩ := kx E ce q u t T'.heap (locs ++ L) e1.symm (by rw [← e2]; exact X'.warmed.alike) hp hb k1 k2 k3 (by rw [e1]; exact hce) hcv hcl T' rfl X'
    exact ⟨t2, st.trans a1, b1⟩
theorem vx_callf {S SX : Type} {post : UInt32 → S → Prop} {px : SX → Prop} {B : S → State → Prop} {BX : String → SX → State → Prop} {AX : Nat → Prop} (hr : vx_Run p l e R s m args below meth c H locs cells slots mc ms (F0 m pc ls st0) rest (va_Qf post B A1 a) (vx_X px BX AX) free) (hS : va_S A0 H0 H locs) (hA : ∀ q, q < H.size → A1 q → A0 q) (hf : ∀ q, free q → A0 q) (hAX : ∀ q, q < H.size → AX q → A0 q)
    (kx : ∀ (E : String) (ce : Cell) (q9 : Addr) (u : SX) (t : State) (H1 : Heap) (locs1 : List Loc), t.heap = H1 → s.vm.Alike t.vm → px u → BX E u t → H.size ≤ H1.size → (∀ q : Nat, q < H.size → ¬ AX q → H1[q]? = H[q]?) → va_S A0 H0 H1 locs1 → H1[q9]? = some ce → ce.vm = .none → s.vm.findClass E = some ce.cls → vx_W p l e R s m args below meth c H1 locs1 (cells + mc) (slots + ms) Q (F0 m pc ls rest) q9)
    (kk : ∀ (r : UInt32) (u : S) (t : State) (H1 : Heap) (locs1 : List Loc), t.heap = H1 → s.vm.Alike t.vm → post r u → B u t → H.size ≤ H1.size → (∀ q : Nat, q < H.size → ¬ A1 q → H1[q]? = H[q]?) → va_S A0 H0 H1 locs1 → W p l e R s m args below meth c H1 locs1 (cells + mc) (slots + ms) Q (F0 m (pc + 3) ls (.float r :: rest))) : W p l e R s m args below meth c H locs cells slots Q (F0 m pc ls st0) := by
  intro T hT X
  rcases hr T hT X with ⟨v, st₀, t, T', L, h0, X', hL, e1, e2, ⟨⟨r, u, hv, hp, hb⟩, hF⟩, st⟩ | ⟨q, st₀, t, T', L, E, ce, h0, X', hL, e1, e2, ⟨u, hp, hb, hF⟩, hce, hcv, hcl, st⟩
  · cases hv
    obtain ⟨k1, k2, k3⟩ := vx_keep h0 e1 hS hA hf hL hF
    obtain ⟨t2, a1, b1⟩ := kk r u t T'.heap (locs ++ L) e1.symm (by rw [← e2]; exact X'.warmed.alike) hp hb k1 k2 k3 T' rfl X'
    exact ⟨t2, st t2 a1, b1⟩
  · obtain ⟨k1, k2, k3⟩ := vx_keep h0 e1 hS hAX hf hL hF
    obtain ⟨t2, a1, b1⟩ := kx E ce q u t T'.heap (locs ++ L) e1.symm (by rw [← e2]; exact X'.warmed.alike) hp hb k1 k2 k3 (by rw [e1]; exact hce) hcv hcl T' rfl X'
    exact ⟨t2, st.trans a1, b1⟩
theorem vx_calld {S SX : Type} {post : UInt64 → S → Prop} {px : SX → Prop} {B : S → State → Prop} {BX : String → SX → State → Prop} {AX : Nat → Prop} (hr : vx_Run p l e R s m args below meth c H locs cells slots mc ms (F0 m pc ls st0) rest (va_Qd post B A1 a) (vx_X px BX AX) free) (hS : va_S A0 H0 H locs) (hA : ∀ q, q < H.size → A1 q → A0 q) (hf : ∀ q, free q → A0 q) (hAX : ∀ q, q < H.size → AX q → A0 q)
    (kx : ∀ (E : String) (ce : Cell) (q9 : Addr) (u : SX) (t : State) (H1 : Heap) (locs1 : List Loc), t.heap = H1 → s.vm.Alike t.vm → px u → BX E u t → H.size ≤ H1.size → (∀ q : Nat, q < H.size → ¬ AX q → H1[q]? = H[q]?) → va_S A0 H0 H1 locs1 → H1[q9]? = some ce → ce.vm = .none → s.vm.findClass E = some ce.cls → vx_W p l e R s m args below meth c H1 locs1 (cells + mc) (slots + ms) Q (F0 m pc ls rest) q9)
    (kk : ∀ (r : UInt64) (u : S) (t : State) (H1 : Heap) (locs1 : List Loc), t.heap = H1 → s.vm.Alike t.vm → post r u → B u t → H.size ≤ H1.size → (∀ q : Nat, q < H.size → ¬ A1 q → H1[q]? = H[q]?) → va_S A0 H0 H1 locs1 → W p l e R s m args below meth c H1 locs1 (cells + mc) (slots + ms) Q (F0 m (pc + 3) ls (.double r :: rest))) : W p l e R s m args below meth c H locs cells slots Q (F0 m pc ls st0) := by
  intro T hT X
  rcases hr T hT X with ⟨v, st₀, t, T', L, h0, X', hL, e1, e2, ⟨⟨r, u, hv, hp, hb⟩, hF⟩, st⟩ | ⟨q, st₀, t, T', L, E, ce, h0, X', hL, e1, e2, ⟨u, hp, hb, hF⟩, hce, hcv, hcl, st⟩
  · cases hv
    obtain ⟨k1, k2, k3⟩ := vx_keep h0 e1 hS hA hf hL hF
    obtain ⟨t2, a1, b1⟩ := kk r u t T'.heap (locs ++ L) e1.symm (by rw [← e2]; exact X'.warmed.alike) hp hb k1 k2 k3 T' rfl X'
    exact ⟨t2, st t2 a1, b1⟩
  · obtain ⟨k1, k2, k3⟩ := vx_keep h0 e1 hS hAX hf hL hF
    obtain ⟨t2, a1, b1⟩ := kx E ce q u t T'.heap (locs ++ L) e1.symm (by rw [← e2]; exact X'.warmed.alike) hp hb k1 k2 k3 (by rw [e1]; exact hce) hcv hcl T' rfl X'
    exact ⟨t2, st.trans a1, b1⟩
theorem vx_callv {S SX : Type} {post : S → Prop} {px : SX → Prop} {B : S → State → Prop} {BX : String → SX → State → Prop} {AX : Nat → Prop} (hr : vx_Run p l e R s m args below meth c H locs cells slots mc ms (F0 m pc ls st0) rest (va_Qv post B A1 a) (vx_X px BX AX) free) (hS : va_S A0 H0 H locs) (hA : ∀ q, q < H.size → A1 q → A0 q) (hf : ∀ q, free q → A0 q) (hAX : ∀ q, q < H.size → AX q → A0 q)
    (kx : ∀ (E : String) (ce : Cell) (q9 : Addr) (u : SX) (t : State) (H1 : Heap) (locs1 : List Loc), t.heap = H1 → s.vm.Alike t.vm → px u → BX E u t → H.size ≤ H1.size → (∀ q : Nat, q < H.size → ¬ AX q → H1[q]? = H[q]?) → va_S A0 H0 H1 locs1 → H1[q9]? = some ce → ce.vm = .none → s.vm.findClass E = some ce.cls → vx_W p l e R s m args below meth c H1 locs1 (cells + mc) (slots + ms) Q (F0 m pc ls rest) q9)
    (kk : ∀ (u : S) (t : State) (H1 : Heap) (locs1 : List Loc), t.heap = H1 → s.vm.Alike t.vm → post u → B u t → H.size ≤ H1.size → (∀ q : Nat, q < H.size → ¬ A1 q → H1[q]? = H[q]?) → va_S A0 H0 H1 locs1 → W p l e R s m args below meth c H1 locs1 (cells + mc) (slots + ms) Q (F0 m (pc + 3) ls (rest))) : W p l e R s m args below meth c H locs cells slots Q (F0 m pc ls st0) := by
  intro T hT X
  rcases hr T hT X with ⟨v, st₀, t, T', L, h0, X', hL, e1, e2, ⟨⟨u, hv, hp, hb⟩, hF⟩, st⟩ | ⟨q, st₀, t, T', L, E, ce, h0, X', hL, e1, e2, ⟨u, hp, hb, hF⟩, hce, hcv, hcl, st⟩
  · cases hv
    obtain ⟨k1, k2, k3⟩ := vx_keep h0 e1 hS hA hf hL hF
    obtain ⟨t2, a1, b1⟩ := kk u t T'.heap (locs ++ L) e1.symm (by rw [← e2]; exact X'.warmed.alike) hp hb k1 k2 k3 T' rfl X'
    exact ⟨t2, st t2 a1, b1⟩
  · obtain ⟨k1, k2, k3⟩ := vx_keep h0 e1 hS hAX hf hL hF
    obtain ⟨t2, a1, b1⟩ := kx E ce q u t T'.heap (locs ++ L) e1.symm (by rw [← e2]; exact X'.warmed.alike) hp hb k1 k2 k3 (by rw [e1]; exact hce) hcv hcl T' rfl X'
    exact ⟨t2, st.trans a1, b1⟩
/-- caught by the row x of this method's table; the rows ahead don't take it -/
theorem vx_catch {own name : String} {E : String} {ce : Cell} {q : Addr} (hown : s.vm.findClass own = some m.cls) (pre : List ExceptionTableEntry) (x : ExceptionTableEntry) (suf : List ExceptionTableEntry) (hsplit : c.exceptionTable.toList = pre ++ x :: suf)
    (hpass : ∀ z ∈ pre, covers z pc = false ∨ (z.catchType ≠ 0 ∧ ∃ nm : String, (Cond.classLink own z.catchType nm).before args s = true ∧ va_Nc E nm s)) (hx : covers x pc = true) (h0 : x.catchType ≠ 0)
    (hlink : (Cond.classLink own x.catchType name).before args s = true) (hcast : (Cond.castable E name).before args s = true) (hcell : H[q]? = some ce) (hv : ce.vm = .none) (hcl : s.vm.findClass E = some ce.cls)
    (kk : W p l e R s m args below meth c H locs cells slots Q (F0 m x.handlerPc ls [.ref q])) : vx_W p l e R s m args below meth c H locs cells slots Q (F0 m pc ls rest) q := by
  intro T hT X
  have hpl : e.platform.magicAccessors = ({} : Platform).magicAccessors := by rw [X.admits.platform]
  obtain ⟨c3, c4, hc3, hc4, hasg⟩ := Cond.castable_spec hcast
  cases Option.some.inj (hc3.symm.trans hcl)
  obtain ⟨c5, hc5, hcl5⟩ := Cond.classLink_spec hown hlink e.platform hpl
  cases Option.some.inj (hc4.symm.trans hc5)
  obtain ⟨vm', X', st⟩ := X.thenCaughtThrough q (g := F0 m pc ls rest) rfl (Steps.refl _) (by rw [hT]; exact hcell) (by rw [hv]; rfl) (by obtain ⟨k9, h9, -⟩ := Vm.findClass_spec hcl; exact ⟨k9, h9⟩) pre x suf hsplit
    (fun z hz => by
      rcases hpass z hz with h | ⟨hz0, nm, hl1, hn1⟩
      · exact Or.inl h
      · obtain ⟨c6, hc6, hcl6⟩ := Cond.classLink_spec hown hl1 e.platform hpl
        obtain ⟨a8, b8, h1, h2, h3⟩ := hn1
        cases Option.some.inj (h1.symm.trans hcl)
        cases Option.some.inj (h2.symm.trans hc6)
        exact Or.inr ⟨hz0, _, hcl6, h3⟩) hx (Or.inr ⟨h0, c4, hcl5, hasg⟩)
  obtain ⟨t, a1, b1⟩ := kk (T.setVm vm') hT X'
  exact ⟨t, st.trans a1, b1⟩
end Rows
section Ends
variable {p : Program} {l : Launch} {e : Env} {R : Room} {s : State} {m : MethodId} {args : Array Value} {below : List Frame} {meth : Method} {c : Code} {H : Heap} {locs : List Loc} {cells slots : Nat} {Q : State → Prop}
variable {mc ms : Nat} {free : Addr → Prop} {A0 A1 : Nat → Prop} {H0 : Heap} {a : Array Value} {ls : Array Slot} {st0 rest : List Value}
variable {Qc : Array Value → State → Outcome → State → Prop} {XC : String → State → State → Prop}
/-- what a body that may throw owes at its end -/
def vx_MQ (below : List Frame) (Qc : Array Value → State → Outcome → State → Prop) (XC : String → State → State → Prop) (a : Array Value) (s : State) (mc ms : Nat) (free : Addr → Prop) : State → Prop := fun t =>
  ∃ o, t.status = .running ∧ Ended t below o ∧ vx_Q Qc XC mc ms free a s o t
theorem vx_ret {g : JFrame} {mc ms : Nat} (k : W p l e R s m args below meth c H locs cells slots (MQ below Qc args s mc ms free) g) : W p l e R s m args below meth c H locs cells slots (vx_MQ below Qc XC args s mc ms free) g := by
  intro T hT X
  obtain ⟨t, a1, o, b1, b2, b3, b4⟩ := k T hT X
  exact ⟨t, a1, o, b1, b2, Or.inl ⟨b3, b4⟩⟩
/-- not caught here: it goes on to the caller -/
theorem vx_widen {g : JFrame} {q : Addr} {k n : Nat} (h1 : cells ≤ k) (h2 : slots ≤ n) (kk : vx_W p l e R s m args below meth c H locs k n Q g q) : vx_W p l e R s m args below meth c H locs cells slots Q g q := fun T hT X => kk T hT (stand_widen X h1 h2)
theorem vx_out {pc : Nat} {E : String} {ce : Cell} {q : Addr} {mc ms : Nat} (hout : ∀ x ∈ c.exceptionTable.toList, covers x pc = false) (hlocks : meth.locks = false) (hcell : H[q]? = some ce) (hv : ce.vm = .none) (hcl : s.vm.findClass E = some ce.cls)
    (hx : ∀ t : State, t.heap = H → s.vm.Alike t.vm → XC E s t) (hf : ∀ z ∈ locs, free z.base) (hc : cells ≤ mc) (hs : slots ≤ ms) :
    vx_W p l e R s m args below meth c H locs cells slots (vx_MQ below Qc XC args s mc ms free) (F0 m pc ls rest) q := by
  intro T hT X
  obtain ⟨st1, hrun, hend, hW, hsm⟩ := X.leaveThrown q (g := F0 m pc ls rest) rfl rfl rfl hout hlocks
  have hcell9 : (T.setFrames (.throwing q :: below)).heap[q]? = some ce := by
    show T.heap[q]? = some ce
    rw [hT]; exact hcell
  exact ⟨_, st1, .threw q, hrun, hend, Or.inr ⟨q, rfl, E, ce, locs, hx _ hT hW.alike, hcell9, hv, hcl, hW, hsm.mono hc hs, hf⟩⟩
theorem vx_frame {U : State} {k n : Nat} (h : s.sameButNew ({ U with vm := s.vm } : State) locs k n) : s.heap.size ≤ U.heap.size ∧ ∀ q : Nat, q < s.heap.size → (∀ z ∈ locs, z.base ≠ q) → U.heap[q]? = s.heap[q]? := by
  obtain ⟨-, h2, -, -, -, h6⟩ := h
  refine ⟨h2, fun q hq hz => ?_⟩
  obtain ⟨c9, e1, e2, e3, e4⟩ := h6 q _ (Array.getElem?_eq_getElem hq)
  have hs : c9.slots = (s.heap[q]).slots := Array.ext_getElem? fun i => e4 i fun hm => hz _ hm rfl
  have h9 : c9 = s.heap[q] := by
    rw [hs] at e2
    exact e2
  have e5 : U.heap[q]? = some c9 := e1
  rw [e5, h9, Array.getElem?_eq_getElem hq]
/-- the words of a throw but the four that speak of the heap -/
def vx_no (w : Cond) : Bool := decide (w ≠ .isRef (.static Bundle.tN "UNASSIGNED_STACK" Bundle.steD)) && decide (w ≠ .isRef (.static Bundle.tN "SUPPRESSED_SENTINEL" Bundle.listD)) && decide (w ≠ .laysStatic Bundle.tN "UNASSIGNED_STACK" Bundle.steD) && decide (w ≠ .laysStatic Bundle.tN "SUPPRESSED_SENTINEL" Bundle.listD)
def vx_at0 (own : String) (ic : Nat) (X : String) (names : List String) : List Cond := (Bundle.ownAtoms0 own ic X names).filter vx_no
def vx_atS (own : String) (ic : Nat) (X : String) (names : List String) : List Cond := (Bundle.ownAtoms own ic X names).filter vx_no
/-- a word that the tables alone decide, or a good one -/
def vx_ot (w : Cond) : Bool := w.onTables || goodWord w
theorem vx_ot_at {args a' : Array Value} {s U : State} {w : Cond} (hW : s.WarmedH U.vm) (hvm : s.vm = U.vm) (hg : vx_ot w = true) (h : w.before args s = true) : w.before a' U = true := by
  simp only [vx_ot, Bool.or_eq_true] at hg
  rcases hg with hg | hg
  · exact va_tabs hg hvm h
  · exact word_at hW (good_of_word hg) h
/-- a list's words: the good ones out of the method's own list, the others by premises of their own -/
theorem vx_hat {args : Array Value} {s : State} {L B : List Cond} (h1 : ∀ w ∈ L.filter goodWord, w.before args s = true) (h2 : ∀ w ∈ L.filter (fun w => !goodWord w), w ∈ B) (h3 : ∀ w ∈ B, w.before args s = true) : ∀ w ∈ L, w.before args s = true := by
  intro w hw
  by_cases g : goodWord w = true
  · exact h1 w (List.mem_filter.mpr ⟨hw, g⟩)
  · refine h3 w (h2 w (List.mem_filter.mpr ⟨hw, ?_⟩))
    show (!goodWord w) = true
    cases hgw : goodWord w
    · rfl
    · exact absurd hgw g
theorem vx_c {args : Array Value} {s : State} {w : Cond} {B : List Cond} (h : w.before args s = true) (t : ∀ w ∈ B, w.before args s = true) : ∀ w' ∈ w :: B, w'.before args s = true := fun w' h' => (List.mem_cons.mp h').elim (fun e => by rw [e]; exact h) (t w')
theorem vx_n {args : Array Value} {s : State} : ∀ w ∈ ([] : List Cond), w.before args s = true := fun _ h => nomatch h
theorem vx_own {args : Array Value} {s : State} {L : List Cond} (h1 : ∀ w ∈ L.filter vx_no, w.before args s = true)
    (hU : (Cond.isRef (.static Bundle.tN "UNASSIGNED_STACK" Bundle.steD)).before args s = true) (hN : (Cond.isRef (.static Bundle.tN "SUPPRESSED_SENTINEL" Bundle.listD)).before args s = true)
    (lU : (Cond.laysStatic Bundle.tN "UNASSIGNED_STACK" Bundle.steD).before args s = true) (lN : (Cond.laysStatic Bundle.tN "SUPPRESSED_SENTINEL" Bundle.listD).before args s = true) : ∀ w ∈ L, w.before args s = true := by
  intro w hw
  by_cases e1 : w = .isRef (.static Bundle.tN "UNASSIGNED_STACK" Bundle.steD)
  · rw [e1]; exact hU
  · by_cases e2 : w = .isRef (.static Bundle.tN "SUPPRESSED_SENTINEL" Bundle.listD)
    · rw [e2]; exact hN
    · by_cases e3 : w = .laysStatic Bundle.tN "UNASSIGNED_STACK" Bundle.steD
      · rw [e3]; exact lU
      · by_cases e4 : w = .laysStatic Bundle.tN "SUPPRESSED_SENTINEL" Bundle.listD
        · rw [e4]; exact lN
        · exact h1 w (List.mem_filter.mpr ⟨hw, by unfold vx_no; rw [decide_eq_true e1, decide_eq_true e2, decide_eq_true e3, decide_eq_true e4]; rfl⟩)
/-- where a static field lies, its class's statics cell in H -/
def vx_L (C n d : String) (A : Nat → Prop) (U : State) (H : Heap) : Prop := ∃ (c : ClassId) (k : Class) (i : Nat) (f : Field) (a : Nat) (cell : Cell), U.vm.findClass C = some c ∧ U.fieldFound? C n d = some (c, k, i, f) ∧ f.isStatic = true ∧ k.statics = some a ∧ H[a]? = some cell ∧ cell.vm.isStatics = true ∧ cell.cls = c ∧ f.slot < cell.slots.size ∧ k.staticTypes[f.slot]? = some f.type ∧ ¬ A a
theorem vx_L.moved {C n d : String} {A : Nat → Prop} {u U : State} {H : Heap} (hvm : u.vm.Alike U.vm) (h : vx_L C n d A u H) : vx_L C n d A U H := by
  obtain ⟨c, k, i, f, a, cell, h1, h2, h3, h4, h5, h6, h7, h8, h9, h10⟩ := h
  obtain ⟨k', hi', he⟩ := State.fieldFound?_setVm hvm h2
  exact ⟨c, k', i, f, a, cell, by rw [hvm.findClass]; exact h1, hi', h3, by rw [he]; exact h4, h5, h6, h7, h8, by rw [he]; exact h9, h10⟩
theorem vx_L.kept {C n d : String} {A : Nat → Prop} {U : State} {H H1 : Heap} (h : vx_L C n d A U H) (hq : ∀ a : Nat, a < H.size → ¬ A a → H1[a]? = H[a]?) : vx_L C n d A U H1 := by
  obtain ⟨c, k, i, f, a, cell, h1, h2, h3, h4, h5, h6, h7, h8, h9, h10⟩ := h
  exact ⟨c, k, i, f, a, cell, h1, h2, h3, h4, by rw [hq a (Array.getElem?_eq_some_iff.mp h5).1 h10]; exact h5, h6, h7, h8, h9, h10⟩
theorem vx_L.narrow {C n d : String} {A B : Nat → Prop} {U : State} {H : Heap} (h : vx_L C n d A U H) (hAB : ∀ q, B q → A q) : vx_L C n d B U H := by
  obtain ⟨c, k, i, f, a, cell, h1, h2, h3, h4, h5, h6, h7, h8, h9, h10⟩ := h
  exact ⟨c, k, i, f, a, cell, h1, h2, h3, h4, h5, h6, h7, h8, h9, fun z => h10 (hAB _ z)⟩
theorem vx_L.word {C n d : String} {A : Nat → Prop} {s : State} {args : Array Value} (h : vx_L C n d A s s.heap) : (Cond.laysStatic C n d).before args s = true := by
  obtain ⟨c, k, i, f, a, cell, h1, h2, h3, h4, h5, h6, h7, h8, h9, -⟩ := h
  show (Cond.laysStatic C n d).holds args s none s [] = true
  exact Cond.laysStatic_of h1 h2 h3 h4 h5 h6 h7 h8 h9
/-- .. and what it holds: null or some reference -/
def vx_Zq (C n d : String) (A : Nat → Prop) (U : State) (H : Heap) : Prop := va_Zq C n d A U H ∧ vx_L C n d A U H
theorem vx_Zq.moved {C n d : String} {A : Nat → Prop} {u U : State} {H : Heap} (hvm : u.vm.Alike U.vm) (h : vx_Zq C n d A u H) : vx_Zq C n d A U H := ⟨va_Zq.moved hvm h.1, vx_L.moved hvm h.2⟩
theorem vx_Zq.kept {C n d : String} {A : Nat → Prop} {U : State} {H H1 : Heap} (h : vx_Zq C n d A U H) (hq : ∀ a : Nat, a < H.size → ¬ A a → H1[a]? = H[a]?) : vx_Zq C n d A U H1 := ⟨va_Zq.kept h.1 hq, vx_L.kept h.2 hq⟩
theorem vx_Zq.narrow {C n d : String} {A B : Nat → Prop} {U : State} {H : Heap} (h : vx_Zq C n d A U H) (hAB : ∀ q, B q → A q) : vx_Zq C n d B U H := ⟨va_Zq.narrow h.1 hAB, vx_L.narrow h.2 hAB⟩
theorem vx_Zqof {args : Array Value} {s : State} {C n d : String} {A : Nat → Prop} (hl : (Cond.laysStatic C n d).before args s = true) (hini : (Cond.initialized C).before args s = true) (h : (Cond.isRef (.static C n d)).before args s = true) (hA : ∀ a : Nat, a < s.heap.size → ¬ A a) : vx_Zq C n d A s s.heap := by
  refine ⟨va_Zqof hl hini h hA, ?_⟩
  obtain ⟨c, k, i, f, a, cell, h1, h2, h3, h4, h5, h6, h7, h8, h9⟩ := Cond.laysStatic_spec hl
  exact ⟨c, k, i, f, a, cell, h1, h2, h3, h4, h5, h6, h7, h8, h9, hA a (Array.getElem?_eq_some_iff.mp h5).1⟩
theorem vx_isRef {C n d : String} {v : Value} {A : Nat → Prop} {s : State} {args : Array Value} (h : va_Z C n d v A s s.heap) (hv : v.isRef = true) : (Cond.isRef (.static C n d)).before args s = true := by
  obtain ⟨cf, kf, fi, f, a, cell, h1, h2, h3, h4, h5, h6, h7, -⟩ := h
  have he : (Term.static C n d).eval args s none [] s = some v := by
    simp [Term.eval, State.fieldNamed?, h1, h2, h4, h5, h6, h7]
  simp only [Cond.before, Cond.holds, Cond.value, he]
  cases v <;> simp_all [Value.isRef]
theorem vx_isRefq {C n d : String} {A : Nat → Prop} {s : State} {args : Array Value} (h : va_Zq C n d A s s.heap) : (Cond.isRef (.static C n d)).before args s = true := by
  rcases h with h | ⟨t, h⟩
  · exact vx_isRef h rfl
  · exact vx_isRef h rfl
/-- the same frame, seen from here: as if the method were called anew in this heap -/
theorem vx_rebase {T : State} (X : Stand p l e R s m args below meth c T locs cells slots) {R' : Room} (hf : R'.frames ≤ R.frames) (hl : R'.locals ≤ R.locals) (hc : cells + R'.cells ≤ R.cells) (hs : slots + R'.slots ≤ R.slots) :
    Stand p l e R' ((T.setVm s.vm).setFrames (.invoking m args :: below)) m args below meth c T [] 0 0 := by
  have htop : (T.setVm s.vm).topJava?.isSome := X.here.top
  have hF : ((T.setVm s.vm).setFrames (.invoking m args :: below)).frames = .invoking m args :: below := State.frames_setFrames _ (State.cur_lt_of_top htop)
  obtain ⟨g₀, hg0⟩ := Option.isSome_iff_exists.mp htop
  obtain ⟨r, hr⟩ := State.topJava?_eq_some.mp hg0
  have hl9 : e.platform.stackLimits (T.setVm s.vm).me = e.platform.stackLimits s.me := X.limits
  have hb9 : (T.setVm s.vm).me.stackBytes = s.me.stackBytes := X.bytes
  refine ⟨X.admits, X.cas, X.clock, hF, ?_, X.hears, X.method, X.code, X.here, X.tail, X.warmed, ?_, ?_, ?_⟩
  · have h := X.room
    have hU : ((T.setVm s.vm).setFrames (.invoking m args :: below)).localsInUse = s.localsInUse := by
      rw [State.localsInUse_invoking hF (meth := meth) (c := c) X.method X.code, State.localsInUse_invoking X.frames X.method X.code]
    simp only [State.hasRoom, Bool.and_eq_true, decide_eq_true_eq] at h ⊢
    obtain ⟨⟨⟨⟨h1, h2, h3, h4, h5, h6⟩, h7⟩, h8⟩, h9⟩ := h
    rw [X.frames, List.length_cons] at h2 h3
    have q1 := X.heapSize
    have q2 := X.used
    simp only [hF, hU, List.length_cons, State.stackLimits_setFrames, State.stackBytes_setFrames, hl9, hb9]
    refine ⟨⟨⟨⟨by omega, by omega, by omega, by omega, by omega, h6⟩, ?_⟩, ?_⟩, X.book⟩
    · show T.heap.size + R'.cells ≤ e.platform.maxCells
      omega
    · show T.slotsUsed + R'.slots ≤ e.platform.maxSlots
      omega
  · rw [State.stackLimits_setFrames]; rfl
  · rw [State.stackBytes_setFrames]; rfl
  · refine ⟨?_, Nat.le_refl _, Nat.le_refl _, ?_, ?_, fun a c9 h9 => ⟨c9, h9, rfl, rfl, fun _ _ => rfl⟩⟩
    · obtain ⟨t, ht, -⟩ := State.frames_cons hr
      show T.setVm s.vm = { ((T.setVm s.vm).setFrames (.invoking m args :: below)).setFrames (T.setVm s.vm).frames with heap := T.heap, slotsUsed := T.slotsUsed }
      rw [State.setFrames_setFrames, State.setFrames_self ht]
      rfl
    · show T.slotsUsed = T.slotsUsed + ((T.heap.toList.drop T.heap.size).map (·.slots.size)).sum
      rw [List.drop_eq_nil_of_le (Nat.le_of_eq Array.length_toList)]
      rfl
    · show ((T.heap.toList.drop T.heap.size).map (·.slots.size)).sum ≤ 0
      rw [List.drop_eq_nil_of_le (Nat.le_of_eq Array.length_toList)]
      exact Nat.le_refl _
/-- 'throw new E()': new; dup; invokespecial; athrow -/
theorem vx_throw0 {cc : ByteArray} {pc : Nat} (hexec : p.tables.exec = Jvm.exec) (hb : c.code = cc) (hl : l.stackTraces = false) {own cls : String} {names : List String} {ik ic mc ms : Nat} {A : Nat → Prop}
    (hown : s.vm.findClass own = some m.cls) (hcls : Bundle.fit cls = true) (hnames : ∀ n ∈ names, Bundle.fit n = true)
    (hk : (Cond.classLink own ik cls).before args s = true) (hini : (Cond.initialized cls).before args s = true) (hat : ∀ w ∈ vx_at0 own ic cls names, w.before args s = true)
    (hgood : ∀ w ∈ Cond.classLink own ik cls :: Cond.initialized cls :: vx_at0 own ic cls names, vx_ot w = true)
    (hU : vx_Zq Bundle.tN "UNASSIGNED_STACK" Bundle.steD A s s.heap) (hN : vx_Zq Bundle.tN "SUPPRESSED_SENTINEL" Bundle.listD A s s.heap) (hS : va_S A s.heap H locs) (hsize : ls.size = c.maxLocals)
    (d0 : decode cc pc = .ok (.new ik, 3)) (d3 : decode cc (pc + 3) = .ok (.dup, 1)) (d4 : decode cc (pc + 4) = .ok (.invokespecial ic, 3)) (d7 : decode cc (pc + 7) = .ok (.athrow, 1))
    (hout : ∀ x ∈ c.exceptionTable.toList, covers x (pc + 7) = false)
    (hRframes : names.length + 3 < R.frames) (hRlocals : (rest.map fun v => v.category).sum + (13 * (names.length + 1) + 42) ≤ R.locals) (hRcells : cells + 1 ≤ R.cells) (hRslots : slots + 6 ≤ R.slots) (hlocks : meth.locks = false)
    (hx : ∀ t : State, s.vm.Alike t.vm → H.size ≤ t.heap.size → (∀ q : Nat, q < H.size → t.heap[q]? = H[q]?) → XC cls s t)
    (hf : ∀ z ∈ locs, free z.base) (hc : cells + 1 ≤ mc) (hs : slots + 6 ≤ ms) :
    W p l e R s m args below meth c H locs cells slots (vx_MQ below Qc XC args s mc ms free) (F0 m pc ls rest) := by
  intro T hT X
  have htr : e.platform.stackTraces = false := (show e.platform.stackTraces = l.stackTraces by rw [X.admits.platform]).trans hl
  have Y := vx_rebase X (R' := { frames := R.frames, locals := R.locals, cells := 1, slots := 6 }) (Nat.le_refl _) (Nat.le_refl _) hRcells hRslots
  obtain ⟨s', hA⟩ : ∃ z, z = (T.setVm s.vm).setFrames (.invoking m args :: below) := ⟨_, rfl⟩
  rw [← hA] at Y
  have hvm : s'.vm = s.vm := by rw [hA]; rfl
  have hhp : s'.heap = H := by rw [hA]; exact hT
  have hW0 : s.WarmedH s'.vm := by rw [hvm]; exact State.WarmedH.refl s
  have hat' : ∀ w ∈ vx_at0 own ic cls names, w.before args s' = true := fun w hw => vx_ot_at hW0 hvm.symm (hgood w (List.mem_cons_of_mem _ (List.mem_cons_of_mem _ hw))) (hat w hw)
  have hk' : (Cond.classLink own ik cls).before args s' = true := vx_ot_at hW0 hvm.symm (hgood _ List.mem_cons_self) hk
  have hini' : (Cond.initialized cls).before args s' = true := vx_ot_at hW0 hvm.symm (hgood _ (List.mem_cons_of_mem _ List.mem_cons_self)) hini
  have hU' : vx_Zq Bundle.tN "UNASSIGNED_STACK" Bundle.steD A s' s'.heap := by rw [hhp]; exact vx_Zq.moved hW0.alike (hU.kept hS.2.1)
  have hN' : vx_Zq Bundle.tN "SUPPRESSED_SENTINEL" Bundle.listD A s' s'.heap := by rw [hhp]; exact vx_Zq.moved hW0.alike (hN.kept hS.2.1)
  have h : ∀ w ∈ Bundle.ownAtoms0 own ic cls names, w.before args s' = true := vx_own hat' (vx_isRefq hU'.1) (vx_isRefq hN'.1) hU'.2.word hN'.2.word
  have hown' : s'.vm.findClass own = some m.cls := by rw [hvm]; exact hown
  have hins : (Cond.instantiable cls 6).before args s' = true := h _ (by simp [Bundle.ownAtoms0])
  obtain ⟨vm₁, cX, kX, hfX, hkX, -, -, X₁, st1⟩ := Y.newCold hexec (own := own) (C := cls) (index := ik) (n := 6) hown' hk' hins hini'
    (g := F0 m pc ls rest) rfl (by rw [hb]; exact d0) (Nat.le_refl _) (Nat.le_refl _)
  generalize hT1 : (T.setVm vm₁).pushCell { cls := cX, slots := kX.instanceTypes.map defaultValue, vm := .none } = T1 at X₁ st1
  have hcat : (Value.ref T.heap.size).category = 1 := rfl
  have hcellA : T1.heap[T.heap.size]? = some (freshCell cX kX) := by rw [← hT1]; exact State.heap_pushCell_size _ _
  have d3' : decode c.code (pc + 3) = .ok (.dup, 1) := by rw [hb]; exact d3
  obtain ⟨U, hsteps, hrun, hend, hW, hsame, ce, hce, hO⟩ := X₁.ctorThrow0 hexec htr (own := own) (cls := cls) (names := names) (ic := ic) hown' hcls hnames h (fun x hx => nomatch hx) hfX hkX hcellA (by rw [hhp, hT]; exact Nat.le_refl _)
    (g := { method := m, pc := pc + 4, locals := ls, stack := .ref T.heap.size :: .ref T.heap.size :: rest, locked := none }) rfl hsize rfl rfl (rest := rest) rfl
    (by rw [hb]; exact d4) (by rw [hb]; exact d7) hout hRframes (by simp only [List.map_cons, List.sum_cons, hcat]; omega) hlocks
  obtain ⟨f1, f2⟩ := vx_frame hsame
  rw [hhp] at f1 f2
  have hWs : s.WarmedH U.vm := State.WarmedH.trans hW0 hW
  have hcl : s.vm.findClass cls = some ce.cls := by
    have h9 := hO.cls
    rw [hvm] at h9
    exact h9
  have hall : s.sameButNew ({ U with vm := s.vm } : State) locs mc ms := by
    subst hA
    obtain ⟨e1, e2⟩ := hsame
    rw [State.setFrames_setFrames] at e1
    have h2 : (T.setVm s.vm).sameButNew ({ U with vm := s.vm } : State) [] (0 + 1) (0 + 6) := ⟨e1, e2⟩
    have h3 := X.same.trans h2
    rw [List.append_nil] at h3
    exact h3.mono hc hs
  refine ⟨U, ?_, .threw T.heap.size, hrun, hend, Or.inr ⟨T.heap.size, rfl, cls, ce, locs, hx U hWs.alike f1 (fun q hq => f2 q hq (fun z hz => nomatch hz)), hce, hO.vm, hcl, hWs, hall, hf⟩⟩
  refine st1 _ ?_
  show Steps p.tables e below (T1.setTop { method := m, pc := pc + 3, locals := ls, stack := .ref T.heap.size :: rest, locked := none }) _
  jvm_step X₁.here [X₁.here.top, hexec, d3', Value.category]
  exact hsteps
/-- 'throw new E("text")': new; dup; ldc; invokespecial; athrow -/
theorem vx_throwS {cc : ByteArray} {pc : Nat} (hexec : p.tables.exec = Jvm.exec) (hb : c.code = cc) (hl : l.stackTraces = false) {own cls text : String} {names : List String} {ik is ic mc ms sa : Nat} {A : Nat → Prop}
    (hown : s.vm.findClass own = some m.cls) (hcls : Bundle.fit cls = true) (hnames : ∀ n ∈ names, Bundle.fit n = true)
    (hk : (Cond.classLink own ik cls).before args s = true) (hini : (Cond.initialized cls).before args s = true) (hstr : vk_R own is text sa s) (hat : ∀ w ∈ vx_atS own ic cls names, w.before args s = true)
    (hgood : ∀ w ∈ Cond.classLink own ik cls :: Cond.initialized cls :: vx_atS own ic cls names, vx_ot w = true)
    (hU : vx_Zq Bundle.tN "UNASSIGNED_STACK" Bundle.steD A s s.heap) (hN : vx_Zq Bundle.tN "SUPPRESSED_SENTINEL" Bundle.listD A s s.heap) (hS : va_S A s.heap H locs) (hsize : ls.size = c.maxLocals)
    (d0 : decode cc pc = .ok (.new ik, 3)) (d3 : decode cc (pc + 3) = .ok (.dup, 1)) (d4 : decode cc (pc + 4) = .ok (.ldc is, 2)) (d6 : decode cc (pc + 6) = .ok (.invokespecial ic, 3)) (d9 : decode cc (pc + 9) = .ok (.athrow, 1))
    (hout : ∀ x ∈ c.exceptionTable.toList, covers x (pc + 9) = false)
    (hRframes : names.length + 3 < R.frames) (hRlocals : (rest.map fun v => v.category).sum + (13 * (names.length + 1) + 43) ≤ R.locals) (hRcells : cells + 1 ≤ R.cells) (hRslots : slots + 6 ≤ R.slots) (hlocks : meth.locks = false)
    (hx : ∀ t : State, s.vm.Alike t.vm → H.size ≤ t.heap.size → (∀ q : Nat, q < H.size → t.heap[q]? = H[q]?) → XC cls s t)
    (hf : ∀ z ∈ locs, free z.base) (hc : cells + 1 ≤ mc) (hs : slots + 6 ≤ ms) :
    W p l e R s m args below meth c H locs cells slots (vx_MQ below Qc XC args s mc ms free) (F0 m pc ls rest) := by
  intro T hT X
  have htr : e.platform.stackTraces = false := (show e.platform.stackTraces = l.stackTraces by rw [X.admits.platform]).trans hl
  have Y := vx_rebase X (R' := { frames := R.frames, locals := R.locals, cells := 1, slots := 6 }) (Nat.le_refl _) (Nat.le_refl _) hRcells hRslots
  obtain ⟨s', hA⟩ : ∃ z, z = (T.setVm s.vm).setFrames (.invoking m args :: below) := ⟨_, rfl⟩
  rw [← hA] at Y
  have hvm : s'.vm = s.vm := by rw [hA]; rfl
  have hhp : s'.heap = H := by rw [hA]; exact hT
  have hW0 : s.WarmedH s'.vm := by rw [hvm]; exact State.WarmedH.refl s
  have hat' : ∀ w ∈ vx_atS own ic cls names, w.before args s' = true := fun w hw => vx_ot_at hW0 hvm.symm (hgood w (List.mem_cons_of_mem _ (List.mem_cons_of_mem _ hw))) (hat w hw)
  have hk' : (Cond.classLink own ik cls).before args s' = true := vx_ot_at hW0 hvm.symm (hgood _ List.mem_cons_self) hk
  have hini' : (Cond.initialized cls).before args s' = true := vx_ot_at hW0 hvm.symm (hgood _ (List.mem_cons_of_mem _ List.mem_cons_self)) hini
  have hU' : vx_Zq Bundle.tN "UNASSIGNED_STACK" Bundle.steD A s' s'.heap := by rw [hhp]; exact vx_Zq.moved hW0.alike (hU.kept hS.2.1)
  have hN' : vx_Zq Bundle.tN "SUPPRESSED_SENTINEL" Bundle.listD A s' s'.heap := by rw [hhp]; exact vx_Zq.moved hW0.alike (hN.kept hS.2.1)
  have h : ∀ w ∈ Bundle.ownAtoms own ic cls names, w.before args s' = true := vx_own hat' (vx_isRefq hU'.1) (vx_isRefq hN'.1) hU'.2.word hN'.2.word
  have hown' : s'.vm.findClass own = some m.cls := by rw [hvm]; exact hown
  have hins : (Cond.instantiable cls 6).before args s' = true := h _ (by simp [Bundle.ownAtoms])
  obtain ⟨vm₁, cX, kX, hfX, hkX, -, -, X₁, st1⟩ := Y.newCold hexec (own := own) (C := cls) (index := ik) (n := 6) hown' hk' hins hini'
    (g := F0 m pc ls rest) rfl (by rw [hb]; exact d0) (Nat.le_refl _) (Nat.le_refl _)
  generalize hT1 : (T.setVm vm₁).pushCell { cls := cX, slots := kX.instanceTypes.map defaultValue, vm := .none } = T1 at X₁ st1
  have hcat : (Value.ref T.heap.size).category = 1 := rfl
  have hcellA : T1.heap[T.heap.size]? = some (freshCell cX kX) := by rw [← hT1]; exact State.heap_pushCell_size _ _
  have d3' : decode c.code (pc + 3) = .ok (.dup, 1) := by rw [hb]; exact d3
  have d4' : decode c.code (pc + 4) = .ok (.ldc is, 2) := by rw [hb]; exact d4
  have hstr' : vk_R own is text sa s' := vk_R.warm hW0 hstr
  obtain ⟨U, hsteps, hrun, hend, hW, hsame, ce, hce, hO⟩ := X₁.ctorThrowS hexec htr (own := own) (cls := cls) (names := names) (ic := ic) hown' hcls hnames h (fun x hx => nomatch hx) hfX hkX hcellA (by rw [hhp, hT]; exact Nat.le_refl _) (msg := .ref sa) rfl
    (g := { method := m, pc := pc + 6, locals := ls, stack := .ref sa :: .ref T.heap.size :: .ref T.heap.size :: rest, locked := none }) rfl hsize rfl rfl (rest := rest) rfl
    (by rw [hb]; exact d6) (by rw [hb]; exact d9) hout hRframes (by simp only [List.map_cons, List.sum_cons, hcat]; omega) hlocks
  obtain ⟨f1, f2⟩ := vx_frame hsame
  rw [hhp] at f1 f2
  have hWs : s.WarmedH U.vm := State.WarmedH.trans hW0 hW
  have hcl : s.vm.findClass cls = some ce.cls := by
    have h9 := hO.cls
    rw [hvm] at h9
    exact h9
  have hall : s.sameButNew ({ U with vm := s.vm } : State) locs mc ms := by
    subst hA
    obtain ⟨e1, e2⟩ := hsame
    rw [State.setFrames_setFrames] at e1
    have h2 : (T.setVm s.vm).sameButNew ({ U with vm := s.vm } : State) [] (0 + 1) (0 + 6) := ⟨e1, e2⟩
    have h3 := X.same.trans h2
    rw [List.append_nil] at h3
    exact h3.mono hc hs
  refine ⟨U, ?_, .threw T.heap.size, hrun, hend, Or.inr ⟨T.heap.size, rfl, cls, ce, locs, hx U hWs.alike f1 (fun q hq => f2 q hq (fun z hz => nomatch hz)), hce, hO.vm, hcl, hWs, hall, hf⟩⟩
  refine st1 _ ?_
  show Steps p.tables e below (T1.setTop { method := m, pc := pc + 3, locals := ls, stack := .ref T.heap.size :: rest, locked := none }) _
  jvm_step X₁.here [X₁.here.top, hexec, d3', Value.category]
  exact X₁.ldcString hexec (own := own) (text := text) (index := is) (a := sa) hown' hstr'.1 hstr'.2
    (g := { method := m, pc := pc + 4, locals := ls, stack := .ref T.heap.size :: .ref T.heap.size :: rest, locked := none }) rfl d4' _ hsteps
/-- 'throw new E("text")', the text by a wide index -/
theorem vx_throwSW {cc : ByteArray} {pc : Nat} (hexec : p.tables.exec = Jvm.exec) (hb : c.code = cc) (hl : l.stackTraces = false) {own cls text : String} {names : List String} {ik is ic mc ms sa : Nat} {A : Nat → Prop}
    (hown : s.vm.findClass own = some m.cls) (hcls : Bundle.fit cls = true) (hnames : ∀ n ∈ names, Bundle.fit n = true)
    (hk : (Cond.classLink own ik cls).before args s = true) (hini : (Cond.initialized cls).before args s = true) (hstr : vk_R own is text sa s) (hat : ∀ w ∈ vx_atS own ic cls names, w.before args s = true)
    (hgood : ∀ w ∈ Cond.classLink own ik cls :: Cond.initialized cls :: vx_atS own ic cls names, vx_ot w = true)
    (hU : vx_Zq Bundle.tN "UNASSIGNED_STACK" Bundle.steD A s s.heap) (hN : vx_Zq Bundle.tN "SUPPRESSED_SENTINEL" Bundle.listD A s s.heap) (hS : va_S A s.heap H locs) (hsize : ls.size = c.maxLocals)
    (d0 : decode cc pc = .ok (.new ik, 3)) (d3 : decode cc (pc + 3) = .ok (.dup, 1)) (d4 : decode cc (pc + 4) = .ok (.ldc_w is, 3)) (d7 : decode cc (pc + 7) = .ok (.invokespecial ic, 3)) (d10 : decode cc (pc + 10) = .ok (.athrow, 1))
    (hout : ∀ x ∈ c.exceptionTable.toList, covers x (pc + 10) = false)
    (hRframes : names.length + 3 < R.frames) (hRlocals : (rest.map fun v => v.category).sum + (13 * (names.length + 1) + 43) ≤ R.locals) (hRcells : cells + 1 ≤ R.cells) (hRslots : slots + 6 ≤ R.slots) (hlocks : meth.locks = false)
    (hx : ∀ t : State, s.vm.Alike t.vm → H.size ≤ t.heap.size → (∀ q : Nat, q < H.size → t.heap[q]? = H[q]?) → XC cls s t)
    (hf : ∀ z ∈ locs, free z.base) (hc : cells + 1 ≤ mc) (hs : slots + 6 ≤ ms) :
    W p l e R s m args below meth c H locs cells slots (vx_MQ below Qc XC args s mc ms free) (F0 m pc ls rest) := by
  intro T hT X
  have htr : e.platform.stackTraces = false := (show e.platform.stackTraces = l.stackTraces by rw [X.admits.platform]).trans hl
  have Y := vx_rebase X (R' := { frames := R.frames, locals := R.locals, cells := 1, slots := 6 }) (Nat.le_refl _) (Nat.le_refl _) hRcells hRslots
  obtain ⟨s', hA⟩ : ∃ z, z = (T.setVm s.vm).setFrames (.invoking m args :: below) := ⟨_, rfl⟩
  rw [← hA] at Y
  have hvm : s'.vm = s.vm := by rw [hA]; rfl
  have hhp : s'.heap = H := by rw [hA]; exact hT
  have hW0 : s.WarmedH s'.vm := by rw [hvm]; exact State.WarmedH.refl s
  have hat' : ∀ w ∈ vx_atS own ic cls names, w.before args s' = true := fun w hw => vx_ot_at hW0 hvm.symm (hgood w (List.mem_cons_of_mem _ (List.mem_cons_of_mem _ hw))) (hat w hw)
  have hk' : (Cond.classLink own ik cls).before args s' = true := vx_ot_at hW0 hvm.symm (hgood _ List.mem_cons_self) hk
  have hini' : (Cond.initialized cls).before args s' = true := vx_ot_at hW0 hvm.symm (hgood _ (List.mem_cons_of_mem _ List.mem_cons_self)) hini
  have hU' : vx_Zq Bundle.tN "UNASSIGNED_STACK" Bundle.steD A s' s'.heap := by rw [hhp]; exact vx_Zq.moved hW0.alike (hU.kept hS.2.1)
  have hN' : vx_Zq Bundle.tN "SUPPRESSED_SENTINEL" Bundle.listD A s' s'.heap := by rw [hhp]; exact vx_Zq.moved hW0.alike (hN.kept hS.2.1)
  have h : ∀ w ∈ Bundle.ownAtoms own ic cls names, w.before args s' = true := vx_own hat' (vx_isRefq hU'.1) (vx_isRefq hN'.1) hU'.2.word hN'.2.word
  have hown' : s'.vm.findClass own = some m.cls := by rw [hvm]; exact hown
  have hins : (Cond.instantiable cls 6).before args s' = true := h _ (by simp [Bundle.ownAtoms])
  obtain ⟨vm₁, cX, kX, hfX, hkX, -, -, X₁, st1⟩ := Y.newCold hexec (own := own) (C := cls) (index := ik) (n := 6) hown' hk' hins hini'
    (g := F0 m pc ls rest) rfl (by rw [hb]; exact d0) (Nat.le_refl _) (Nat.le_refl _)
  generalize hT1 : (T.setVm vm₁).pushCell { cls := cX, slots := kX.instanceTypes.map defaultValue, vm := .none } = T1 at X₁ st1
  have hcat : (Value.ref T.heap.size).category = 1 := rfl
  have hcellA : T1.heap[T.heap.size]? = some (freshCell cX kX) := by rw [← hT1]; exact State.heap_pushCell_size _ _
  have d3' : decode c.code (pc + 3) = .ok (.dup, 1) := by rw [hb]; exact d3
  have d4' : decode c.code (pc + 4) = .ok (.ldc_w is, 3) := by rw [hb]; exact d4
  have hstr' : vk_R own is text sa s' := vk_R.warm hW0 hstr
  obtain ⟨U, hsteps, hrun, hend, hW, hsame, ce, hce, hO⟩ := X₁.ctorThrowS hexec htr (own := own) (cls := cls) (names := names) (ic := ic) hown' hcls hnames h (fun x hx => nomatch hx) hfX hkX hcellA (by rw [hhp, hT]; exact Nat.le_refl _) (msg := .ref sa) rfl
    (g := { method := m, pc := pc + 7, locals := ls, stack := .ref sa :: .ref T.heap.size :: .ref T.heap.size :: rest, locked := none }) rfl hsize rfl rfl (rest := rest) rfl
    (by rw [hb]; exact d7) (by rw [hb]; exact d10) hout hRframes (by simp only [List.map_cons, List.sum_cons, hcat]; omega) hlocks
  obtain ⟨f1, f2⟩ := vx_frame hsame
  rw [hhp] at f1 f2
  have hWs : s.WarmedH U.vm := State.WarmedH.trans hW0 hW
  have hcl : s.vm.findClass cls = some ce.cls := by
    have h9 := hO.cls
    rw [hvm] at h9
    exact h9
  have hall : s.sameButNew ({ U with vm := s.vm } : State) locs mc ms := by
    subst hA
    obtain ⟨e1, e2⟩ := hsame
    rw [State.setFrames_setFrames] at e1
    have h2 : (T.setVm s.vm).sameButNew ({ U with vm := s.vm } : State) [] (0 + 1) (0 + 6) := ⟨e1, e2⟩
    have h3 := X.same.trans h2
    rw [List.append_nil] at h3
    exact h3.mono hc hs
  refine ⟨U, ?_, .threw T.heap.size, hrun, hend, Or.inr ⟨T.heap.size, rfl, cls, ce, locs, hx U hWs.alike f1 (fun q hq => f2 q hq (fun z hz => nomatch hz)), hce, hO.vm, hcl, hWs, hall, hf⟩⟩
  refine st1 _ ?_
  show Steps p.tables e below (T1.setTop { method := m, pc := pc + 3, locals := ls, stack := .ref T.heap.size :: rest, locked := none }) _
  jvm_step X₁.here [X₁.here.top, hexec, d3', Value.category]
  exact X₁.ldcStringW hexec (own := own) (text := text) (index := is) (a := sa) hown' hstr'.1 hstr'.2
    (g := { method := m, pc := pc + 4, locals := ls, stack := .ref T.heap.size :: .ref T.heap.size :: rest, locked := none }) rfl d4' _ hsteps
end Ends
section Bodies
variable {l : Launch}
theorem vx_ofW {y : MethodName} {ws ws' : List Cond} {rm : Room} {Pc : Array Value → State → Prop} {Qc : Array Value → State → Outcome → State → Prop} {XC : String → State → State → Prop} {mc ms : Nat} {free : Addr → Prop} {cc : ByteArray} {maxL : Nat} {ret : Option FieldType}
    (hy : plainName y.cls = true) (hw : ws = Cond.code y cc maxL ret :: ws')
    (body : ∀ p e s m args below meth c s₁, BodyLoose p l y (headSpec ws rm) cc maxL ret e s m args below meth c s₁ → c.maxLocals = maxL → (∀ x ∈ c.exceptionTable.toList, False) → Pc args s →
      W p l e (headSpec ws rm).room s m args below meth c s.heap [] 0 0 (vx_MQ below Qc XC args s mc ms free) (entryFrame m args maxL)) : vx_Met l y ws rm Pc Qc XC mc ms free := by
  refine MetFree.of_bodyS (code := cc) (maxLocals := maxL) (ret := ret) hy ?_ ?_
  · intro args s m h hn
    obtain ⟨meth, c, h1, h2, h3, h4, h5, h6, -, -⟩ := Cond.code_spec hn (atoms_spec (ws := ws) h _ (by rw [hw]; exact List.mem_cons_self))
    exact ⟨meth, c, h1, h2, h3, h4, h5, h6⟩
  · intro p e s m args below meth c s₁ B hml hP _
    have hh0 : s₁.heap = s.heap := by rw [B.state]; rfl
    have ht : ∀ x ∈ c.exceptionTable.toList, False := by
      obtain ⟨meth9, c9, h1, h2, -, -, -, -, h7, -⟩ := Cond.code_spec B.named (atoms_spec (ws := ws) B.pre _ (by rw [hw]; exact List.mem_cons_self))
      cases Option.some.inj (h1.symm.trans B.method)
      cases Option.some.inj (h2.symm.trans (Stand.of_body B).code)
      intro x hx
      rw [Array.isEmpty_iff.mp h7] at hx
      cases hx
    obtain ⟨t, a1, o, b1, b2, b3⟩ := body p e s m args below meth c s₁ B hml ht hP s₁ hh0 (Stand.of_body B)
    exact ⟨t, o, a1, b1, b2, b3⟩
/-- the table of a body with handlers -/
theorem vx_table {p : Program} {x y : MethodName} {S : Spec} {cc bytes : ByteArray} {maxL maxL' : Nat} {ret ret' : Option FieldType} {e : Env} {s s₁ : State} {m : MethodId} {args : Array Value} {below : List Frame} {meth : Method} {c : Code} {hh : List (Nat × Nat × Nat × Nat)}
    (B : BodyLoose p l y S cc maxL ret e s m args below meth c s₁) (h : (Cond.codeWith y bytes maxL' ret' hh).before args s = true) : c.exceptionTable.toList = tableOf hh := by
  obtain ⟨m9, meth9, c9, hn9, h1, h2, -, -, h6, -⟩ := Cond.codeWith_spec h
  cases Option.some.inj (hn9.symm.trans B.named)
  cases Option.some.inj (h1.symm.trans B.method)
  cases Option.some.inj (h2.symm.trans (Stand.of_body B).code)
  rw [← h6, table_eq]
end Bodies
end VXA
/-! ===== END ===== -/
/-! ===== BEGIN a static call of a method with an exception table ===== -/
section VXS
variable {p : Program} {l : Launch} {e : Env} {R : Room} {s : State} {m : MethodId} {args : Array Value} {below : List Frame} {meth : Method} {c : Code} {T : State} {H : Heap} {locs : List Loc} {cells slots : Nat}
abbrev vx_CSW (R : Room) (s : State) (args : Array Value) (own : String) (index : Nat) (y : MethodName) (bytes : ByteArray) (maxL : Nat) (ret : Option FieldType) (hh : List (Nat × Nat × Nat × Nat)) (ws : List Cond) (rm : Room) (mc ms n : Nat) : Prop :=
  (rm.cells = mc ∧ rm.slots = ms ∧ rm.frames + 1 ≤ R.frames ∧ 8 + (maxL + 11) + rm.locals ≤ R.locals ∧ (∀ w ∈ ws, ∀ (a' : Array Value) (U : State), s.WarmedH U.vm → w.before a' U = true) ∧ Cond.codeWith y bytes maxL ret hh ∈ ws) ∧
  (Cond.codeWith y bytes maxL ret hh).before args s = true ∧ (Cond.initialized y.cls).before args s = true ∧ (y.cls ≠ "java/lang/invoke/MethodHandle" ∧ y.cls ≠ "java/lang/invoke/VarHandle") ∧
  (∀ sig, parseMethodDescriptor y.desc = some sig → n = sig.parameters.length) ∧ (Cond.methodLink own index y).before args s = true ∧ (Cond.static y).before args s = true
theorem vx_cwSW {own : String} {index maxL mc ms : Nat} {y : MethodName} {bytes : ByteArray} {ret : Option FieldType} {hh : List (Nat × Nat × Nat × Nat)} {Ts ws ws' : List Cond} {rm : Room} (n : Nat) (ht : ∀ w ∈ Ts, w.before args s = true) (hT : GoodIn Ts (va_wsS own index y ws)) (hw : ws = Cond.codeWith y bytes maxL ret hh :: ws') (hrc : rm.cells = mc) (hrs : rm.slots = ms)
    (hd : y.cls ≠ "java/lang/invoke/MethodHandle" ∧ y.cls ≠ "java/lang/invoke/VarHandle" ∧ (parseMethodDescriptor y.desc).map (fun d => d.parameters.length) = some n) (hR : rm.frames + 1 ≤ R.frames ∧ 8 + (maxL + 11) + rm.locals ≤ R.locals) :
    vx_CSW R s args own index y bytes maxL ret hh ws rm mc ms n := by
  have ok : ∀ w ∈ va_wsS own index y ws, w.before args s = true := fun w h => ht w (hT w h).1
  have hG : GoodIn Ts ws := fun w h => hT w (by unfold va_wsS; exact List.mem_append_right _ h)
  have hc : Cond.codeWith y bytes maxL ret hh ∈ ws := by rw [hw]; exact List.mem_cons_self
  refine ⟨⟨hrc, hrs, hR.1, hR.2, pay_in ht hG, hc⟩, ht _ (hG _ hc).1, ok _ (by simp [va_wsS]), ⟨hd.1, hd.2.1⟩, fun sig h => ?_, ok _ (by simp [va_wsS]), ok _ (by simp [va_wsS])⟩
  have h2 := hd.2.2
  rw [h] at h2
  exact (Option.some.inj h2).symm
theorem vx_callSW (X : Stand p l e R s m args below meth c T locs cells slots) (hexec : p.tables.exec = Jvm.exec) {own : String} {index : Nat} {y : MethodName} {bytes : ByteArray} {maxL : Nat} {ret : Option FieldType} {hh : List (Nat × Nat × Nat × Nat)}
    (hown : s.vm.findClass own = some m.cls) (hlink : (Cond.methodLink own index y).before args s = true) (hstat : (Cond.static y).before args s = true) (hinit : (Cond.initialized y.cls).before args s = true)
    (hcode : (Cond.codeWith y bytes maxL ret hh).before args s = true) (hy : y.cls ≠ "java/lang/invoke/MethodHandle" ∧ y.cls ≠ "java/lang/invoke/VarHandle")
    {W9 : Nat} {Pre : Pt → Array Value → Prop} {Post : Pt → Array Value → Option Value → Pt → Prop} (hK : Back l R p e below s args y 3 W9 Pre Post)
    {g : JFrame} (hg : g.method = m) (hsize : g.locals.size = c.maxLocals) {argsL rest : List Value} (hlen : ∀ sig, parseMethodDescriptor y.desc = some sig → argsL.length = sig.parameters.length)
    (hstack : g.stack = argsL.reverse ++ rest) (hW : 2 * g.monitorRoom + (rest.map fun v => v.category).sum ≤ W9) (hdg : decode c.code g.pc = .ok (.invokestatic index, 3))
    (hpre : ∀ vm₁, s.WarmedH vm₁ → Pre ⟨T.setVm vm₁, locs, cells, slots⟩ argsL.toArray) :
    ∃ (v : Option Value) (vm₁ : Vm) (B : Pt), s.WarmedH vm₁ ∧ Stand p l e R s m args below meth c B.U B.locs B.cells B.slots ∧ Post ⟨T.setVm vm₁, locs, cells, slots⟩ argsL.toArray v B ∧
      ∀ target, Steps p.tables e below (B.U.setTop { g with pc := g.pc + 3, stack := v.toList ++ rest }) target → Steps p.tables e below (T.setTop g) target := by
  obtain ⟨mk, methM, cM, hnamed, hmethM, -, -, -, -, -, -, hsigM⟩ := Cond.codeWith_spec hcode
  have hstatic : methM.isStatic = true := Cond.static_spec hnamed hmethM hstat
  obtain ⟨kP, hkP, -⟩ := className_of_methodNamed hnamed
  have hinitP : kP.init = .initialized := Cond.initialized_spec (findClass_of_methodNamed hnamed) hkP hinit
  obtain ⟨vm₁, X₁, hstep₁⟩ := X.invokestatic hexec hown hlink hnamed hmethM hstatic hkP hinitP hy (g := g) hg (argsL := argsL) (rest := rest) (hlen _ hsigM) hstack hdg
  obtain ⟨v, B, X', hpost, hsteps⟩ := hK m meth c ⟨T.setVm vm₁, locs, cells, slots⟩ { g with stack := rest } (.invokestatic index) mk argsL.toArray X₁ hg hsize hdg hW (X₁.named hnamed) (hpre vm₁ X₁.warmed)
  exact ⟨v, vm₁, B, X₁.warmed, X', hpost, fun target h => hstep₁ _ fun acts => by rw [doInvoke_state]; exact hsteps.trans h⟩
theorem vx_runSW {y : MethodName} {bytes cc : ByteArray} {maxL nL mc ms n index : Nat} {ret : Option FieldType} {hh : List (Nat × Nat × Nat × Nat)} {ws : List Cond} {rm : Room} {Pc : Array Value → State → Prop} {Qc : Array Value → State → Outcome → State → Prop} {free : Addr → Prop} {Ts : List Cond} {own : String} {As rest : List Value} {g : JFrame}
    (S : CallFix p m c cc nL s args Ts own) (hM : Met l y ws rm Pc Qc mc ms free) (cw : vx_CSW R s args own index y bytes maxL ret hh ws rm mc ms n) (hp : PreS s H Pc As)
    (hg : g.method = m) (hn : As.length = n) (hsize : g.locals.size = nL) (hstack : g.stack = As.reverse ++ rest) (hW : 2 * g.monitorRoom + (rest.map fun v => v.category).sum ≤ 8) (hdg : decode cc g.pc = .ok (.invokestatic index, 3)) (hf : cells + mc ≤ R.cells ∧ slots + ms ≤ R.slots) :
    va_Run p l e R s m args below meth c H locs cells slots mc ms g rest (Qc As.toArray) (free) := by
  obtain ⟨⟨hrc, hrs, hfr, hlo, hws, hcw⟩, hcode, hini, hy, hlen, hl, hstt⟩ := cw
  have hK : Back l R p e below s args y 3 8 (PreOf R mc ms Pc) (PostOf Qc mc ms free) := va_backW (hh := hh) (bytes := bytes) (maxL := maxL) (ret := ret) hM hp.1 hrc hrs hfr hlo hws hcw (fun a' U hW => word_at hW (Or.inl (by first | rfl | simp [Cond.onTables, Cond.keeps, Cond.steady])) hini)
  obtain ⟨hx, hb, hml, ho, -⟩ := S
  intro T hT X
  obtain ⟨v, vm₁, ⟨U', l2, c2, s2⟩, hW₁, X', ⟨g', mk, t, L, e1, e2, hq, h1, hL, h2, h3⟩, st⟩ := vx_callSW X hx (hh := hh) (bytes := bytes) (maxL := maxL) (ret := ret) ho hl hstt hini hcode hy hK hg (hsize.trans hml.symm) (argsL := As) (rest := rest) (fun sig h => hn.trans (hlen sig h)) hstack hW (by rw [hb]; exact hdg)
    (fun vm₁ hW₁ => ⟨hf.1, hf.2, hp.2 (T.setVm vm₁) hT hW₁⟩)
  dsimp only [Pt.U, Pt.locs, Pt.cells, Pt.slots] at X' e1 e2 h1 h2 h3 st
  subst h1; subst h2; subst h3
  exact ⟨v, (T.setVm vm₁).calling g' mk As.toArray, t, U', L, hT, X', hL, e1, e2, hq, st⟩
/-- not caught here, past rows that name other classes: it goes on to the caller -/
theorem vx_outP {p : Program} {l : Launch} {e : Env} {R : Room} {s : State} {m : MethodId} {args : Array Value} {below : List Frame} {meth : Method} {c : Code} {H : Heap} {locs : List Loc} {cells slots : Nat} {free : Addr → Prop} {ls : Array Slot} {rest : List Value} {Qc : Array Value → State → Outcome → State → Prop} {XC : String → State → State → Prop}
    {pc : Nat} {own E : String} {ce : Cell} {q : Addr} {mc ms : Nat} (hown : s.vm.findClass own = some m.cls) (hlocks : meth.locks = false)
    (hpass : ∀ z ∈ c.exceptionTable.toList, covers z pc = false ∨ (z.catchType ≠ 0 ∧ ∃ nm : String, (Cond.classLink own z.catchType nm).before args s = true ∧ va_Nc E nm s)) (hcell : H[q]? = some ce) (hv : ce.vm = .none) (hcl : s.vm.findClass E = some ce.cls)
    (hx : ∀ t : State, t.heap = H → s.vm.Alike t.vm → XC E s t) (hf : ∀ z ∈ locs, free z.base) (hc : cells ≤ mc) (hs : slots ≤ ms) :
    vx_W p l e R s m args below meth c H locs cells slots (vx_MQ below Qc XC args s mc ms free) (F0 m pc ls rest) q := by
  intro T hT X
  have hpl : e.platform.magicAccessors = ({} : Platform).magicAccessors := by rw [X.admits.platform]
  obtain ⟨vm', hW', X', st⟩ := X.outThrough hlocks q (g := F0 m pc ls rest) rfl rfl rfl (cell := ce) (by rw [hT]; exact hcell) (by rw [hv]; rfl)
    (by obtain ⟨k9, h9, -⟩ := Vm.findClass_spec hcl; exact ⟨k9, h9⟩) (fun z hz => by
      rcases hpass z hz with h | ⟨hz0, nm, hl1, hn1⟩
      · exact Or.inl h
      · obtain ⟨c6, hc6, hcl6⟩ := Cond.classLink_spec hown hl1 e.platform hpl
        obtain ⟨a8, b8, h1, h2, h3⟩ := hn1
        cases Option.some.inj (h1.symm.trans hcl)
        cases Option.some.inj (h2.symm.trans hc6)
        exact Or.inr ⟨hz0, _, hcl6, h3⟩)
  obtain ⟨g₀, hfr⟩ := X'.frames_eq
  have hcell9 : ((T.setVm vm').setFrames (.throwing q :: below)).heap[q]? = some ce := by
    show T.heap[q]? = some ce
    rw [hT]; exact hcell
  have hend : Ended ((T.setVm vm').setFrames (.throwing q :: below)) below (.threw q) := State.frames_setFrames _ (State.cur_lt_of_frames hfr)
  refine ⟨(T.setVm vm').setFrames (.throwing q :: below), ?_, .threw q, X'.here.running, hend, Or.inr ⟨q, rfl, E, ce, locs, hx _ hT (X'.ends _).1.alike, hcell9, hv, hcl, (X'.ends _).1, (X'.ends _).2.mono hc hs, hf⟩⟩
  rw [X.pushThrowing_eq]
  exact st
/-- a thing of a world lies in the heap -/
theorem vx_lt {D : va_G} {cl : List vw_C} {ws : va_W} {H1 : Heap} (h : va_P D cl ws H1) {k : Nat} {q : Nat × va_E} (hk : ws[k]? = some q) : q.1 < H1.size := (h k q hk).lt
end VXS
/-! ===== END ===== -/
/-! ===== BEGIN methods with a table of their own: called by a name, returning or throwing ===== -/
section VXH
/-! vx_backW, vx_callVX, vx_callSX, vx_callVW, vx_runVW, vx_runVX, vx_runSX, vx_ofWH follow the same proofs as their sisters above (Free/Laws.lean, Shelf42/LK1.lean); vx_outP calls Shelf42/NT130.lean (outThrough). -/
section
variable {l : Launch} {R : Room} {p : Program} {e : Env} {below : List Frame} {s : State} {sargs : Array Value} {y : MethodName} {len W9 : Nat}
theorem vx_backW {ws : List Cond} {rm : Room} {Pc : Array Value → State → Prop} {Qc : Array Value → State → Outcome → State → Prop} {XC : String → State → State → Prop} {mc ms : Nat} {free : Addr → Prop} {bytes : ByteArray} {maxL : Nat} {ret : Option FieldType} {hh : List (Nat × Nat × Nat × Nat)}
    (hM : vx_Met l y ws rm Pc Qc XC mc ms free) (hblind : FrameBlind Pc) (hrc : rm.cells = mc) (hrs : rm.slots = ms)
    (hframes : rm.frames + 1 ≤ R.frames) (hlocals : W9 + (maxL + 11) + rm.locals ≤ R.locals)
    (hws : ∀ w ∈ ws, ∀ a' U, s.WarmedH U.vm → w.before a' U = true) (hcode : Cond.codeWith y bytes maxL ret hh ∈ ws) (hinit : ∀ a' U, s.WarmedH U.vm → (Cond.initialized y.cls).before a' U = true) :
    vx_Back l R p e below s sargs y len W9 (PreOf R mc ms Pc) (PostOf Qc mc ms free) (vx_Post XC mc ms free) := by
  intro m meth c A g ig mk a X hg hsize hdg hW hn hp
  have h1 : (headSpec ws rm).pre.before a A.U = true := atoms_intro fun w hw => hws w hw _ _ X.warmed
  have h2 : (Cond.codeWith y bytes maxL ret hh).before a A.U = true := hws _ hcode _ _ X.warmed
  have h3 : (Cond.initialized y.cls).before a A.U = true := hinit _ _ X.warmed
  have h4 : A.cells + (headSpec ws rm).room.cells ≤ R.cells := by rw [show (headSpec ws rm).room.cells = mc from hrc]; exact hp.1
  have h5 : A.slots + (headSpec ws rm).room.slots ≤ R.slots := by rw [show (headSpec ws rm).room.slots = ms from hrs]; exact hp.2.1
  have hPc : Pc a (A.U.calling g mk a) := hblind _ _ _ _ hp.2.2
  obtain ⟨U, Ls, c0, s0⟩ := A
  dsimp only [Pt.U, Pt.locs, Pt.cells, Pt.slots] at h1 h2 h3 h4 h5 X hn hPc ⊢
  obtain ⟨m9, methY, cY, hn9, hmY, hcY, -, hlY, -⟩ := Cond.codeWith_spec h2
  cases Option.some.inj (hn9.symm.trans hn)
  obtain ⟨kY, hkY, -⟩ := className_of_methodNamed hn
  have hinitY : kY.init = .initialized := Cond.initialized_spec (findClass_of_methodNamed hn) hkY h3
  have h : At U g.method c below := by rw [hg]; exact X.here
  have hlocals9 : W9 + (maxL + 11) + (headSpec ws rm).room.locals ≤ R.locals := hlocals
  have happ : (headSpec ws rm).appliesLoose y e.platform (U.calling g mk a) = true :=
    Spec.appliesLoose_calling (g := g) h hdg hn hkY hinitY
      (X.room_calling (g := g) (R' := (headSpec ws rm).room) hsize hmY hcY hframes (by rw [hlY]; omega) h4 h5) h1
  obtain ⟨mid, hmid⟩ := h.above
  have hfr : (U.setTop g).frames = (.java g :: mid) ++ below := by rw [State.frames_setTop' g h.top, hmid]; rfl
  obtain ⟨o, s₂, hsteps, -, hend, hq⟩ := Steps.callFree hM p X.admits X.cas X.clock (acts := []) hfr happ hPc trivial
  have hq' : vx_Q Qc XC mc ms free a (U.calling g mk a) o s₂ := hq
  rw [State.frames_setTop' g h.top] at hend
  obtain ⟨g₀, hg0⟩ := Option.isSome_iff_exists.mp h.top
  obtain ⟨r, hr⟩ := State.topJava?_eq_some.mp hg0
  have hr' : (({ U with heap := s₂.heap, slotsUsed := s₂.slotsUsed } : State).setVm s₂.vm).frames = .java g₀ :: r := hr
  rcases hq' with ⟨hqc, L, hfe, hL⟩ | ⟨q, rfl, E, ce, L, hx, hce, hcv, hcl, hW₂, hsm, hL⟩
  · obtain ⟨⟨v, rfl⟩, hW₂, e2, q2, q3, q4, q5, q6⟩ := id hfe
    have e3 : s₂ = ({ (U.calling g mk a).setFrames s₂.frames with heap := s₂.heap, slotsUsed := s₂.slotsUsed } : State).setVm s₂.vm := by
      have : s₂ = ({ s₂ with vm := (U.calling g mk a).vm } : State).setVm s₂.vm := rfl
      rw [e2] at this
      exact this
    obtain ⟨c₂, i₂, len₂, hc₂, hd₂, hf₂⟩ := hend
    have hW' : U.WarmedH s₂.vm := hW₂
    have hcc : c₂ = c := by
      have h1 : s₂.code? g.method = U.code? g.method := by
        rw [State.code?_eq, State.code?_eq, hW'.alike.method?]
      exact Option.some.inj (hc₂.symm.trans (h1.trans h.code))
    subst hcc
    have hlen : len₂ = len := by rw [hdg] at hd₂; cases hd₂; rfl
    subst hlen
    have hs₂ : s₂ = (({ U with heap := s₂.heap, slotsUsed := s₂.slotsUsed } : State).setVm s₂.vm).setTop { g with pc := g.pc + len₂, stack := v.toList ++ g.stack } := by
      refine e3.trans ?_
      rw [hf₂, State.calling_eq h.top, State.setFrames_setFrames, State.setTop_of_frames _ hr', hr]
      rfl
    have hsame : U.sameButNew ({ U with heap := s₂.heap, slotsUsed := s₂.slotsUsed } : State) L mc ms := by
      refine ⟨?_, q2, q3, q4, q5, q6⟩
      obtain ⟨t, ht, -⟩ := State.frames_cons hr
      show ({ U with heap := s₂.heap, slotsUsed := s₂.slotsUsed } : State) = { U.setFrames U.frames with heap := s₂.heap, slotsUsed := s₂.slotsUsed }
      rw [State.setFrames_self ht]
    subst hg
    refine Or.inl ⟨v, ⟨(({ U with heap := s₂.heap, slotsUsed := s₂.slotsUsed } : State).setVm s₂.vm), Ls ++ L, c0 + mc, s0 + ms⟩,
      ⟨X.admits, X.cas, X.clock, X.frames, X.room, X.hears, X.method, X.code, (X.here.setHeapUsed s₂.heap s₂.slotsUsed).setVm hW'.alike, X.tail, State.WarmedH.trans X.warmed hW', X.limits, X.bytes, X.same.trans (hsame.setVm s.vm)⟩,
      ⟨g, mk, s₂, L, rfl, rfl, hqc, rfl, hL, rfl, rfl⟩, ?_⟩
    show Steps p.tables e below _ ((({ U with heap := s₂.heap, slotsUsed := s₂.slotsUsed } : State).setVm s₂.vm).setTop { g with pc := g.pc + len₂, stack := v.toList ++ g.stack })
    rw [← hs₂]
    exact hsteps
  · obtain ⟨e2, q2, q3, q4, q5, q6⟩ := id hsm
    have e3 : s₂ = ({ (U.calling g mk a).setFrames s₂.frames with heap := s₂.heap, slotsUsed := s₂.slotsUsed } : State).setVm s₂.vm := by
      have : s₂ = ({ s₂ with vm := (U.calling g mk a).vm } : State).setVm s₂.vm := rfl
      rw [e2] at this
      exact this
    have hf₂ : s₂.frames = .throwing q :: .java g :: U.frames.tail := hend
    have hW' : U.WarmedH s₂.vm := hW₂
    have hs₂ : s₂ = ((({ U with heap := s₂.heap, slotsUsed := s₂.slotsUsed } : State).setVm s₂.vm).setTop g).pushFrame (.throwing q) := by
      refine e3.trans ?_
      rw [hf₂, State.calling_eq h.top, State.setFrames_setFrames, State.pushFrame, State.frames_setTop _ hr', State.setTop_of_frames _ hr', State.setFrames_setFrames, hr]
      rfl
    have hsame : U.sameButNew ({ U with heap := s₂.heap, slotsUsed := s₂.slotsUsed } : State) L mc ms := by
      refine ⟨?_, q2, q3, q4, q5, q6⟩
      obtain ⟨t, ht, -⟩ := State.frames_cons hr
      show ({ U with heap := s₂.heap, slotsUsed := s₂.slotsUsed } : State) = { U.setFrames U.frames with heap := s₂.heap, slotsUsed := s₂.slotsUsed }
      rw [State.setFrames_self ht]
    subst hg
    refine Or.inr ⟨q, ⟨(({ U with heap := s₂.heap, slotsUsed := s₂.slotsUsed } : State).setVm s₂.vm), Ls ++ L, c0 + mc, s0 + ms⟩,
      ⟨X.admits, X.cas, X.clock, X.frames, X.room, X.hears, X.method, X.code, (X.here.setHeapUsed s₂.heap s₂.slotsUsed).setVm hW'.alike, X.tail, State.WarmedH.trans X.warmed hW', X.limits, X.bytes, X.same.trans (hsame.setVm s.vm)⟩,
      ⟨g, mk, s₂, L, E, ce, rfl, rfl, hx, hce, hcv, hcl, rfl, hL, rfl, rfl⟩, ?_⟩
    show Steps p.tables e below _ (((({ U with heap := s₂.heap, slotsUsed := s₂.slotsUsed } : State).setVm s₂.vm).setTop g).pushFrame (.throwing q))
    rw [← hs₂]
    exact hsteps
end
variable {p : Program} {l : Launch} {e : Env} {R : Room} {s : State} {m : MethodId} {args : Array Value} {below : List Frame} {meth : Method} {c : Code} {T : State} {H : Heap} {locs : List Loc} {cells slots : Nat}
theorem vx_callVX (X : Stand p l e R s m args below meth c T locs cells slots) (hexec : p.tables.exec = Jvm.exec) {own C : String} {index : Nat} {y : MethodName} {bytes : ByteArray} {maxL : Nat} {ret : Option FieldType} {hh : List (Nat × Nat × Nat × Nat)}
    (hown : s.vm.findClass own = some m.cls) (hlink : (Cond.methodLink own index y).before args s = true) (hinst : (Cond.instanceMethod y).before args s = true) (hsel : (Cond.selects C y y).before args s = true)
    (hcode : (Cond.codeWith y bytes maxL ret hh).before args s = true) (hy : y.cls ≠ "java/lang/invoke/MethodHandle" ∧ y.cls ≠ "java/lang/invoke/VarHandle")
    {W9 : Nat} {Pre : Pt → Array Value → Prop} {Post : Pt → Array Value → Option Value → Pt → Prop} {PostX : Pt → Array Value → Addr → Pt → Prop} (hK : vx_Back l R p e below s args y 3 W9 Pre Post PostX)
    {b : Addr} {cellB : Cell} (hcell : T.heap[b]? = some cellB) (hobj : cellB.vm.isStatics = false) (hcls : s.vm.findClass C = some cellB.cls)
    {g : JFrame} (hg : g.method = m) (hsize : g.locals.size = c.maxLocals) {argsL rest : List Value} (hlen : ∀ sig, parseMethodDescriptor y.desc = some sig → argsL.length = sig.parameters.length)
    (hstack : g.stack = argsL.reverse ++ .ref b :: rest) (hW : 2 * g.monitorRoom + (rest.map fun v => v.category).sum ≤ W9) (hdg : decode c.code g.pc = .ok (.invokevirtual index, 3))
    (hpre : ∀ vm₁, s.WarmedH vm₁ → Pre ⟨T.setVm vm₁, locs, cells, slots⟩ (Value.ref b :: argsL).toArray) :
    (∃ (v : Option Value) (vm₁ : Vm) (B : Pt), s.WarmedH vm₁ ∧ Stand p l e R s m args below meth c B.U B.locs B.cells B.slots ∧ Post ⟨T.setVm vm₁, locs, cells, slots⟩ (Value.ref b :: argsL).toArray v B ∧
      ∀ target, Steps p.tables e below (B.U.setTop { g with pc := g.pc + 3, stack := v.toList ++ rest }) target → Steps p.tables e below (T.setTop g) target) ∨
    (∃ (q : Addr) (vm₁ : Vm) (B : Pt), s.WarmedH vm₁ ∧ Stand p l e R s m args below meth c B.U B.locs B.cells B.slots ∧ PostX ⟨T.setVm vm₁, locs, cells, slots⟩ (Value.ref b :: argsL).toArray q B ∧
      Steps p.tables e below (T.setTop g) ((B.U.setTop { g with stack := rest }).pushFrame (.throwing q))) := by
  obtain ⟨mk, methM, hnamed, hmethM, hstM, habM⟩ := Cond.instanceMethod_spec hinst
  obtain ⟨m8, methM', cM, hn8, hmethM', -, -, -, -, -, -, hsigM⟩ := Cond.codeWith_spec hcode
  cases Option.some.inj (hn8.symm.trans hnamed)
  cases hmethM.symm.trans hmethM'
  obtain ⟨c2, r2, m2, q1, q2, q3, q4, kP, hkP, hkPi⟩ := Cond.selects_spec hsel
  cases hcls.symm.trans q1
  cases (State.methodFound?_of_named hnamed hy).symm.trans q2
  cases hnamed.symm.trans q3
  have hselP : selectMethod e.platform s.vm cellB.cls mk = .method mk := by rw [Launch.admits_selectMethod X.admits]; exact q4
  obtain ⟨vm₁, X₁, hstep₁⟩ := X.invokevirtual hexec hown hlink hnamed hmethM hstM hkP hkPi hy (a := b) (cell := cellB) hcell
    (fun z h => by rw [h] at hobj; cases hobj) hselP hmethM habM hkP hkPi (g := g) hg (argsL := argsL) (rest := rest) (hlen _ hsigM) hstack hdg
  rcases hK m meth c ⟨T.setVm vm₁, locs, cells, slots⟩ { g with stack := rest } (.invokevirtual index) mk (Value.ref b :: argsL).toArray X₁ hg hsize hdg hW (X₁.named hnamed) (hpre vm₁ X₁.warmed) with ⟨v, B, X', hpost, hsteps⟩ | ⟨q, B, X', hpost, hsteps⟩
  · exact Or.inl ⟨v, vm₁, B, X₁.warmed, X', hpost, fun target h => hstep₁ _ fun acts => by rw [doInvoke_state]; exact hsteps.trans h⟩
  · exact Or.inr ⟨q, vm₁, B, X₁.warmed, X', hpost, hstep₁ _ fun acts => by rw [doInvoke_state]; exact hsteps⟩
theorem vx_callSX (X : Stand p l e R s m args below meth c T locs cells slots) (hexec : p.tables.exec = Jvm.exec) {own : String} {index : Nat} {y : MethodName} {bytes : ByteArray} {maxL : Nat} {ret : Option FieldType} {hh : List (Nat × Nat × Nat × Nat)}
    (hown : s.vm.findClass own = some m.cls) (hlink : (Cond.methodLink own index y).before args s = true) (hstat : (Cond.static y).before args s = true) (hinit : (Cond.initialized y.cls).before args s = true)
    (hcode : (Cond.codeWith y bytes maxL ret hh).before args s = true) (hy : y.cls ≠ "java/lang/invoke/MethodHandle" ∧ y.cls ≠ "java/lang/invoke/VarHandle")
    {W9 : Nat} {Pre : Pt → Array Value → Prop} {Post : Pt → Array Value → Option Value → Pt → Prop} {PostX : Pt → Array Value → Addr → Pt → Prop} (hK : vx_Back l R p e below s args y 3 W9 Pre Post PostX)
    {g : JFrame} (hg : g.method = m) (hsize : g.locals.size = c.maxLocals) {argsL rest : List Value} (hlen : ∀ sig, parseMethodDescriptor y.desc = some sig → argsL.length = sig.parameters.length)
    (hstack : g.stack = argsL.reverse ++ rest) (hW : 2 * g.monitorRoom + (rest.map fun v => v.category).sum ≤ W9) (hdg : decode c.code g.pc = .ok (.invokestatic index, 3))
    (hpre : ∀ vm₁, s.WarmedH vm₁ → Pre ⟨T.setVm vm₁, locs, cells, slots⟩ argsL.toArray) :
    (∃ (v : Option Value) (vm₁ : Vm) (B : Pt), s.WarmedH vm₁ ∧ Stand p l e R s m args below meth c B.U B.locs B.cells B.slots ∧ Post ⟨T.setVm vm₁, locs, cells, slots⟩ argsL.toArray v B ∧
      ∀ target, Steps p.tables e below (B.U.setTop { g with pc := g.pc + 3, stack := v.toList ++ rest }) target → Steps p.tables e below (T.setTop g) target) ∨
    (∃ (q : Addr) (vm₁ : Vm) (B : Pt), s.WarmedH vm₁ ∧ Stand p l e R s m args below meth c B.U B.locs B.cells B.slots ∧ PostX ⟨T.setVm vm₁, locs, cells, slots⟩ argsL.toArray q B ∧
      Steps p.tables e below (T.setTop g) ((B.U.setTop { g with stack := rest }).pushFrame (.throwing q))) := by
  obtain ⟨mk, methM, cM, hnamed, hmethM, -, -, -, -, -, -, hsigM⟩ := Cond.codeWith_spec hcode
  have hstatic : methM.isStatic = true := Cond.static_spec hnamed hmethM hstat
  obtain ⟨kP, hkP, -⟩ := className_of_methodNamed hnamed
  have hinitP : kP.init = .initialized := Cond.initialized_spec (findClass_of_methodNamed hnamed) hkP hinit
  obtain ⟨vm₁, X₁, hstep₁⟩ := X.invokestatic hexec hown hlink hnamed hmethM hstatic hkP hinitP hy (g := g) hg (argsL := argsL) (rest := rest) (hlen _ hsigM) hstack hdg
  rcases hK m meth c ⟨T.setVm vm₁, locs, cells, slots⟩ { g with stack := rest } (.invokestatic index) mk argsL.toArray X₁ hg hsize hdg hW (X₁.named hnamed) (hpre vm₁ X₁.warmed) with ⟨v, B, X', hpost, hsteps⟩ | ⟨q, B, X', hpost, hsteps⟩
  · exact Or.inl ⟨v, vm₁, B, X₁.warmed, X', hpost, fun target h => hstep₁ _ fun acts => by rw [doInvoke_state]; exact hsteps.trans h⟩
  · exact Or.inr ⟨q, vm₁, B, X₁.warmed, X', hpost, hstep₁ _ fun acts => by rw [doInvoke_state]; exact hsteps⟩
theorem vx_callVW (X : Stand p l e R s m args below meth c T locs cells slots) (hexec : p.tables.exec = Jvm.exec) {own C : String} {index : Nat} {y : MethodName} {bytes : ByteArray} {maxL : Nat} {ret : Option FieldType} {hh : List (Nat × Nat × Nat × Nat)}
    (hown : s.vm.findClass own = some m.cls) (hlink : (Cond.methodLink own index y).before args s = true) (hinst : (Cond.instanceMethod y).before args s = true) (hsel : (Cond.selects C y y).before args s = true)
    (hcode : (Cond.codeWith y bytes maxL ret hh).before args s = true) (hy : y.cls ≠ "java/lang/invoke/MethodHandle" ∧ y.cls ≠ "java/lang/invoke/VarHandle")
    {W9 : Nat} {Pre : Pt → Array Value → Prop} {Post : Pt → Array Value → Option Value → Pt → Prop} (hK : Back l R p e below s args y 3 W9 Pre Post)
    {b : Addr} {cellB : Cell} (hcell : T.heap[b]? = some cellB) (hobj : cellB.vm.isStatics = false) (hcls : s.vm.findClass C = some cellB.cls)
    {g : JFrame} (hg : g.method = m) (hsize : g.locals.size = c.maxLocals) {argsL rest : List Value} (hlen : ∀ sig, parseMethodDescriptor y.desc = some sig → argsL.length = sig.parameters.length)
    (hstack : g.stack = argsL.reverse ++ .ref b :: rest) (hW : 2 * g.monitorRoom + (rest.map fun v => v.category).sum ≤ W9) (hdg : decode c.code g.pc = .ok (.invokevirtual index, 3))
    (hpre : ∀ vm₁, s.WarmedH vm₁ → Pre ⟨T.setVm vm₁, locs, cells, slots⟩ (Value.ref b :: argsL).toArray) :
    ∃ (v : Option Value) (vm₁ : Vm) (B : Pt), s.WarmedH vm₁ ∧ Stand p l e R s m args below meth c B.U B.locs B.cells B.slots ∧ Post ⟨T.setVm vm₁, locs, cells, slots⟩ (Value.ref b :: argsL).toArray v B ∧
      ∀ target, Steps p.tables e below (B.U.setTop { g with pc := g.pc + 3, stack := v.toList ++ rest }) target → Steps p.tables e below (T.setTop g) target := by
  obtain ⟨mk, methM, hnamed, hmethM, hstM, habM⟩ := Cond.instanceMethod_spec hinst
  obtain ⟨m8, methM', cM, hn8, hmethM', -, -, -, -, -, -, hsigM⟩ := Cond.codeWith_spec hcode
  cases Option.some.inj (hn8.symm.trans hnamed)
  cases hmethM.symm.trans hmethM'
  obtain ⟨c2, r2, m2, q1, q2, q3, q4, kP, hkP, hkPi⟩ := Cond.selects_spec hsel
  cases hcls.symm.trans q1
  cases (State.methodFound?_of_named hnamed hy).symm.trans q2
  cases hnamed.symm.trans q3
  have hselP : selectMethod e.platform s.vm cellB.cls mk = .method mk := by rw [Launch.admits_selectMethod X.admits]; exact q4
  obtain ⟨vm₁, X₁, hstep₁⟩ := X.invokevirtual hexec hown hlink hnamed hmethM hstM hkP hkPi hy (a := b) (cell := cellB) hcell
    (fun z h => by rw [h] at hobj; cases hobj) hselP hmethM habM hkP hkPi (g := g) hg (argsL := argsL) (rest := rest) (hlen _ hsigM) hstack hdg
  obtain ⟨v, B, X', hpost, hsteps⟩ := hK m meth c ⟨T.setVm vm₁, locs, cells, slots⟩ { g with stack := rest } (.invokevirtual index) mk (Value.ref b :: argsL).toArray X₁ hg hsize hdg hW (X₁.named hnamed) (hpre vm₁ X₁.warmed)
  exact ⟨v, vm₁, B, X₁.warmed, X', hpost, fun target h => hstep₁ _ fun acts => by rw [doInvoke_state]; exact hsteps.trans h⟩
abbrev vx_CVW (R : Room) (s : State) (args : Array Value) (own C : String) (index : Nat) (y : MethodName) (bytes : ByteArray) (maxL : Nat) (ret : Option FieldType) (hh : List (Nat × Nat × Nat × Nat)) (ws : List Cond) (rm : Room) (mc ms n : Nat) : Prop :=
  (rm.cells = mc ∧ rm.slots = ms ∧ rm.frames + 1 ≤ R.frames ∧ 8 + (maxL + 11) + rm.locals ≤ R.locals ∧ (∀ w ∈ ws, ∀ (a' : Array Value) (U : State), s.WarmedH U.vm → w.before a' U = true) ∧ Cond.codeWith y bytes maxL ret hh ∈ ws) ∧
  (Cond.codeWith y bytes maxL ret hh).before args s = true ∧ (Cond.initialized y.cls).before args s = true ∧ (y.cls ≠ "java/lang/invoke/MethodHandle" ∧ y.cls ≠ "java/lang/invoke/VarHandle") ∧
  (∀ sig, parseMethodDescriptor y.desc = some sig → n = sig.parameters.length) ∧ (Cond.methodLink own index y).before args s = true ∧ (Cond.instanceMethod y).before args s = true ∧ (Cond.selects C y y).before args s = true
theorem vx_cwVW {own C : String} {index maxL mc ms : Nat} {y : MethodName} {bytes : ByteArray} {ret : Option FieldType} {hh : List (Nat × Nat × Nat × Nat)} {Ts ws ws' : List Cond} {rm : Room} (n : Nat) (ht : ∀ w ∈ Ts, w.before args s = true) (hT : GoodIn Ts (wsV own index C y ws)) (hw : ws = Cond.codeWith y bytes maxL ret hh :: ws') (hrc : rm.cells = mc) (hrs : rm.slots = ms)
    (hd : y.cls = C ∧ y.cls ≠ "java/lang/invoke/MethodHandle" ∧ y.cls ≠ "java/lang/invoke/VarHandle" ∧ (parseMethodDescriptor y.desc).map (fun d => d.parameters.length) = some n) (hR : rm.frames + 1 ≤ R.frames ∧ 8 + (maxL + 11) + rm.locals ≤ R.locals) :
    vx_CVW R s args own C index y bytes maxL ret hh ws rm mc ms n := by
  obtain ⟨hC, hd⟩ := hd
  subst hC
  have ok : ∀ w ∈ wsV own index y.cls y ws, w.before args s = true := fun w h => ht w (hT w h).1
  have hG : GoodIn Ts ws := fun w h => hT w (by unfold wsV; exact List.mem_append_right _ h)
  have hc : Cond.codeWith y bytes maxL ret hh ∈ ws := by rw [hw]; exact List.mem_cons_self
  refine ⟨⟨hrc, hrs, hR.1, hR.2, pay_in ht hG, hc⟩, ht _ (hG _ hc).1, ok _ (by simp [wsV]), ⟨hd.1, hd.2.1⟩, fun sig h => ?_, ok _ (by simp [wsV]), ok _ (by simp [wsV]), ok _ (by simp [wsV])⟩
  have h2 := hd.2.2
  rw [h] at h2
  exact (Option.some.inj h2).symm
theorem vx_runVW {y : MethodName} {bytes cc : ByteArray} {maxL nL mc ms n index : Nat} {ret : Option FieldType} {hh : List (Nat × Nat × Nat × Nat)} {ws : List Cond} {rm : Room} {Pc : Array Value → State → Prop} {Qc : Array Value → State → Outcome → State → Prop} {free : Addr → Prop} {Ts : List Cond} {own C : String} {b : Addr} {As rest : List Value} {g : JFrame}
    (S : CallFix p m c cc nL s args Ts own) (hM : Met l y ws rm Pc Qc mc ms free) (cw : vx_CVW R s args own C index y bytes maxL ret hh ws rm mc ms n) (hp : PreV s H C b Pc As)
    (hg : g.method = m) (hn : As.length = n) (hsize : g.locals.size = nL) (hstack : g.stack = As.reverse ++ .ref b :: rest) (hW : 2 * g.monitorRoom + (rest.map fun v => v.category).sum ≤ 8) (hdg : decode cc g.pc = .ok (.invokevirtual index, 3)) (hf : cells + mc ≤ R.cells ∧ slots + ms ≤ R.slots) :
    va_Run p l e R s m args below meth c H locs cells slots mc ms g rest (Qc (Value.ref b :: As).toArray) free := by
  obtain ⟨⟨hrc, hrs, hfr, hlo, hws, hcw⟩, hcode, hini, hy, hlen, hl, hin, hse⟩ := cw
  have hK : Back l R p e below s args y 3 8 (PreOf R mc ms Pc) (PostOf Qc mc ms free) := va_backW (hh := hh) (bytes := bytes) (maxL := maxL) (ret := ret) hM hp.1 hrc hrs hfr hlo hws hcw (fun a' U hW => word_at hW (Or.inl (by first | rfl | simp [Cond.onTables, Cond.keeps, Cond.steady])) hini)
  obtain ⟨hx, hb, hml, ho, -⟩ := S
  obtain ⟨-, ⟨cellB, hcB, hoB, hclB⟩, hPc⟩ := hp
  intro T hT X
  obtain ⟨v, vm₁, ⟨U', l2, c2, s2⟩, hW₁, X', ⟨g', mk, t, L, e1, e2, hq, h1, hL, h2, h3⟩, st⟩ := vx_callVW X hx (C := C) (hh := hh) (bytes := bytes) (maxL := maxL) (ret := ret) ho hl hin hse hcode hy hK (by rw [hT]; exact hcB) hoB hclB hg (hsize.trans hml.symm) (argsL := As) (rest := rest) (fun sig h => hn.trans (hlen sig h)) hstack hW (by rw [hb]; exact hdg)
    (fun vm₁ hW₁ => ⟨hf.1, hf.2, hPc (T.setVm vm₁) hT hW₁⟩)
  dsimp only [Pt.U, Pt.locs, Pt.cells, Pt.slots] at X' e1 e2 h1 h2 h3 st
  subst h1; subst h2; subst h3
  exact ⟨v, (T.setVm vm₁).calling g' mk (Value.ref b :: As).toArray, t, U', L, hT, X', hL, e1, e2, hq, st⟩
section
variable {y : MethodName} {bytes cc : ByteArray} {maxL nL mc ms n index : Nat} {ret : Option FieldType} {ws : List Cond} {rm : Room} {Pc : Array Value → State → Prop} {Qc : Array Value → State → Outcome → State → Prop} {XC : String → State → State → Prop} {free : Addr → Prop} {Ts : List Cond} {own C : String} {b : Addr} {As rest : List Value} {g : JFrame}
theorem vx_runVX {hh : List (Nat × Nat × Nat × Nat)} (S : CallFix p m c cc nL s args Ts own) (hM : vx_Met l y ws rm Pc Qc XC mc ms free) (cw : vx_CVW R s args own C index y bytes maxL ret hh ws rm mc ms n) (hp : PreV s H C b Pc As)
    (hg : g.method = m) (hn : As.length = n) (hsize : g.locals.size = nL) (hstack : g.stack = As.reverse ++ .ref b :: rest) (hW : 2 * g.monitorRoom + (rest.map fun v => v.category).sum ≤ 8) (hdg : decode cc g.pc = .ok (.invokevirtual index, 3)) (hf : cells + mc ≤ R.cells ∧ slots + ms ≤ R.slots) :
    vx_Run p l e R s m args below meth c H locs cells slots mc ms g rest (Qc (Value.ref b :: As).toArray) XC free := by
  obtain ⟨⟨hrc, hrs, hfr, hlo, hws, hcw⟩, hcode, hini, hy, hlen, hl, hin, hse⟩ := cw
  have hK : vx_Back l R p e below s args y 3 8 (PreOf R mc ms Pc) (PostOf Qc mc ms free) (vx_Post XC mc ms free) := vx_backW (hh := hh) (bytes := bytes) (maxL := maxL) (ret := ret) hM hp.1 hrc hrs hfr hlo hws hcw (fun a' U hW => word_at hW (Or.inl (by first | rfl | simp [Cond.onTables, Cond.keeps, Cond.steady])) hini)
  obtain ⟨hx, hb, hml, ho, -⟩ := S
  obtain ⟨-, ⟨cellB, hcB, hoB, hclB⟩, hPc⟩ := hp
  intro T hT X
  rcases vx_callVX X hx (C := C) (hh := hh) (bytes := bytes) (maxL := maxL) (ret := ret) ho hl hin hse hcode hy hK (by rw [hT]; exact hcB) hoB hclB hg (hsize.trans hml.symm) (argsL := As) (rest := rest) (fun sig h => hn.trans (hlen sig h)) hstack hW (by rw [hb]; exact hdg)
    (fun vm₁ hW₁ => ⟨hf.1, hf.2, hPc (T.setVm vm₁) hT hW₁⟩) with ⟨v, vm₁, ⟨U', l2, c2, s2⟩, hW₁, X', ⟨g', mk, t, L, e1, e2, hq, h1, hL, h2, h3⟩, st⟩ | ⟨q, vm₁, ⟨U', l2, c2, s2⟩, hW₁, X', ⟨g', mk, t, L, E, ce, e1, e2, hq, hce, hcv, hcl, h1, hL, h2, h3⟩, st⟩
  · dsimp only [Pt.U, Pt.locs, Pt.cells, Pt.slots] at X' e1 e2 h1 h2 h3 st
    subst h1; subst h2; subst h3
    exact Or.inl ⟨v, (T.setVm vm₁).calling g' mk (Value.ref b :: As).toArray, t, U', L, hT, X', hL, e1, e2, hq, st⟩
  · dsimp only [Pt.U, Pt.locs, Pt.cells, Pt.slots] at X' e1 e2 h1 h2 h3 st hcl
    subst h1; subst h2; subst h3
    exact Or.inr ⟨q, (T.setVm vm₁).calling g' mk (Value.ref b :: As).toArray, t, U', L, E, ce, hT, X', hL, e1, e2, hq, hce, hcv, vx_cls hW₁ hcl, st⟩
theorem vx_runSX {hh : List (Nat × Nat × Nat × Nat)} (S : CallFix p m c cc nL s args Ts own) (hM : vx_Met l y ws rm Pc Qc XC mc ms free) (cw : vx_CSW R s args own index y bytes maxL ret hh ws rm mc ms n) (hp : PreS s H Pc As)
    (hg : g.method = m) (hn : As.length = n) (hsize : g.locals.size = nL) (hstack : g.stack = As.reverse ++ rest) (hW : 2 * g.monitorRoom + (rest.map fun v => v.category).sum ≤ 8) (hdg : decode cc g.pc = .ok (.invokestatic index, 3)) (hf : cells + mc ≤ R.cells ∧ slots + ms ≤ R.slots) :
    vx_Run p l e R s m args below meth c H locs cells slots mc ms g rest (Qc As.toArray) XC free := by
  obtain ⟨⟨hrc, hrs, hfr, hlo, hws, hcw⟩, hcode, hini, hy, hlen, hl, hstt⟩ := cw
  have hK : vx_Back l R p e below s args y 3 8 (PreOf R mc ms Pc) (PostOf Qc mc ms free) (vx_Post XC mc ms free) := vx_backW (hh := hh) (bytes := bytes) (maxL := maxL) (ret := ret) hM hp.1 hrc hrs hfr hlo hws hcw (fun a' U hW => word_at hW (Or.inl (by first | rfl | simp [Cond.onTables, Cond.keeps, Cond.steady])) hini)
  obtain ⟨hx, hb, hml, ho, -⟩ := S
  intro T hT X
  rcases vx_callSX X hx (hh := hh) (bytes := bytes) (maxL := maxL) (ret := ret) ho hl hstt hini hcode hy hK hg (hsize.trans hml.symm) (argsL := As) (rest := rest) (fun sig h => hn.trans (hlen sig h)) hstack hW (by rw [hb]; exact hdg)
    (fun vm₁ hW₁ => ⟨hf.1, hf.2, hp.2 (T.setVm vm₁) hT hW₁⟩) with ⟨v, vm₁, ⟨U', l2, c2, s2⟩, hW₁, X', ⟨g', mk, t, L, e1, e2, hq, h1, hL, h2, h3⟩, st⟩ | ⟨q, vm₁, ⟨U', l2, c2, s2⟩, hW₁, X', ⟨g', mk, t, L, E, ce, e1, e2, hq, hce, hcv, hcl, h1, hL, h2, h3⟩, st⟩
  · dsimp only [Pt.U, Pt.locs, Pt.cells, Pt.slots] at X' e1 e2 h1 h2 h3 st
    subst h1; subst h2; subst h3
    exact Or.inl ⟨v, (T.setVm vm₁).calling g' mk As.toArray, t, U', L, hT, X', hL, e1, e2, hq, st⟩
  · dsimp only [Pt.U, Pt.locs, Pt.cells, Pt.slots] at X' e1 e2 h1 h2 h3 st hcl
    subst h1; subst h2; subst h3
    exact Or.inr ⟨q, (T.setVm vm₁).calling g' mk As.toArray, t, U', L, E, ce, hT, X', hL, e1, e2, hq, hce, hcv, vx_cls hW₁ hcl, st⟩
end
end VXH
theorem vx_ofWH {l : Launch} {y : MethodName} {ws ws' : List Cond} {rm : Room} {Pc : Array Value → State → Prop} {Qc : Array Value → State → Outcome → State → Prop} {XC : String → State → State → Prop} {mc ms : Nat} {free : Addr → Prop} {cc : ByteArray} {maxL : Nat} {ret : Option FieldType} {hh : List (Nat × Nat × Nat × Nat)}
    (hy : plainName y.cls = true) (hw : ws = Cond.codeWith y cc maxL ret hh :: ws')
    (body : ∀ p e s m args below meth c s₁, BodyLoose p l y (headSpec ws rm) cc maxL ret e s m args below meth c s₁ → c.maxLocals = maxL → Pc args s →
      W p l e (headSpec ws rm).room s m args below meth c s.heap [] 0 0 (vx_MQ below Qc XC args s mc ms free) (entryFrame m args maxL)) : vx_Met l y ws rm Pc Qc XC mc ms free := by
  refine MetFree.of_bodyS (code := cc) (maxLocals := maxL) (ret := ret) hy ?_ ?_
  · intro args s m h hn
    obtain ⟨m9, meth, c, hn9, h1, h2, h3, h4, -, h5, h6, -⟩ := Cond.codeWith_spec (atoms_spec (ws := ws) h _ (by rw [hw]; exact List.mem_cons_self))
    cases hn.symm.trans hn9
    exact ⟨meth, c, h1, h2, h3, h4, h5, h6⟩
  · intro p e s m args below meth c s₁ B hml hP _
    have hh0 : s₁.heap = s.heap := by rw [B.state]; rfl
    obtain ⟨t, a1, o, b1, b2, b3⟩ := body p e s m args below meth c s₁ B hml hP s₁ hh0 (Stand.of_body B)
    exact ⟨t, o, a1, b1, b2, b3⟩
/-! ===== END ===== -/
def RX0 : String := "Wordgarden$Growth"
def TX0 : u_T := fun k => match k with
  | 0 => ("Wordgarden$Growth", "turnRow", "[I", true)
  | 1 => ("Wordgarden$Growth", "turnCount", "I", false)
  | 2 => ("Wordgarden$Growth", "elder", "LWordgarden$Word;", true)
  | _ => ("Wordgarden$Growth", "younger", "LWordgarden$Word;", true)
def tyX0 : Nat → FieldType := fun k => match k with
  | 0 => .array .int
  | 1 => .int
  | 2 => .object "Wordgarden$Word"
  | _ => .object "Wordgarden$Word"
abbrev wsX00 : List Cond := u_ws RX0 TX0 4
theorem nmX0 : ∀ a, a < 4 → ∀ b, b < 4 → a ≠ b → (TX0 a).2.1 ≠ (TX0 b).2.1 := by decide +kernel
theorem tyX0_ok : ∀ k, k < 4 → parseFieldDescriptor (TX0 k).2.2.1 = some (tyX0 k) := by decide +kernel
abbrev cX0_init : ByteArray := prog_2_method_1_code
def yX0_init : MethodName := ⟨RX0, "<init>", "()V"⟩
abbrev cX0_begin : ByteArray := prog_2_method_2_code
def yX0_begin : MethodName := ⟨RX0, "begin", "()V"⟩
abbrev cX0_wordBy : ByteArray := prog_2_method_3_code
def yX0_wordBy : MethodName := ⟨RX0, "wordBy", "(Z)LWordgarden$Word;"⟩
abbrev cX0_turnAt : ByteArray := prog_2_method_4_code
def yX0_turnAt : MethodName := ⟨RX0, "turnAt", "(I)I"⟩
abbrev cX0_goOn : ByteArray := prog_2_method_5_code
def yX0_goOn : MethodName := ⟨RX0, "goOn", "(ILWordgarden$Word;)Z"⟩
abbrev cX0_goBack : ByteArray := prog_2_method_6_code
def yX0_goBack : MethodName := ⟨RX0, "goBack", "(LWordgarden$Word;)I"⟩
abbrev cX0_layByRules : ByteArray := prog_2_method_7_code
def yX0_layByRules : MethodName := ⟨RX0, "layByRules", "(LWordgarden$Word;LWordgarden$Word;LWordgarden$Rule;)V"⟩
abbrev cX0_codeForA : ByteArray := prog_2_method_8_code
def yX0_codeForA : MethodName := ⟨RX0, "codeForA", "(I)I"⟩
abbrev cX0_layByLine : ByteArray := prog_2_method_9_code
def yX0_layByLine : MethodName := ⟨RX0, "layByLine", "(LWordgarden$Word;)V"⟩
abbrev cX0_addLineEnd : ByteArray := prog_2_method_10_code
def yX0_addLineEnd : MethodName := ⟨RX0, "addLineEnd", "(LWordgarden$Word;)V"⟩
def RX1 : String := "Wordgarden$Reading"
def TX1 : u_T := fun k => match k with
  | _ => ("", "", "", false)
def tyX1 : Nat → FieldType := fun k => match k with
  | _ => .int
abbrev wsX10 : List Cond := u_ws RX1 TX1 0
theorem nmX1 : ∀ a, a < 0 → ∀ b, b < 0 → a ≠ b → (TX1 a).2.1 ≠ (TX1 b).2.1 := by decide +kernel
theorem tyX1_ok : ∀ k, k < 0 → parseFieldDescriptor (TX1 k).2.2.1 = some (tyX1 k) := by decide +kernel
abbrev cX1_textOf : ByteArray := prog_3_method_2_code
def yX1_textOf : MethodName := ⟨RX1, "textOf", "(LWordgarden$Word;)Ljava/lang/String;"⟩
abbrev cX1_isUpOnRing : ByteArray := prog_3_method_3_code
def yX1_isUpOnRing : MethodName := ⟨RX1, "isUpOnRing", "(LWordgarden$Word;I)Z"⟩
abbrev cX1_upsInPart : ByteArray := prog_3_method_4_code
def yX1_upsInPart : MethodName := ⟨RX1, "upsInPart", "(LWordgarden$Word;II)I"⟩
abbrev cX1_upsOf : ByteArray := prog_3_method_5_code
def yX1_upsOf : MethodName := ⟨RX1, "upsOf", "(LWordgarden$Word;)I"⟩
abbrev cX1_standsAt : ByteArray := prog_3_method_6_code
def yX1_standsAt : MethodName := ⟨RX1, "standsAt", "(LWordgarden$Word;ILWordgarden$Word;)Z"⟩
abbrev cX1_orderOf : ByteArray := prog_3_method_7_code
def yX1_orderOf : MethodName := ⟨RX1, "orderOf", "(LWordgarden$Word;LWordgarden$Word;)I"⟩
abbrev cX1_ringOrder : ByteArray := prog_3_method_8_code
def yX1_ringOrder : MethodName := ⟨RX1, "ringOrder", "(LWordgarden$Word;III)I"⟩
abbrev cX1_isMirroredPart : ByteArray := prog_3_method_9_code
def yX1_isMirroredPart : MethodName := ⟨RX1, "isMirroredPart", "(LWordgarden$Word;II)Z"⟩
abbrev cX1_beginnings : ByteArray := prog_3_method_10_code
def yX1_beginnings : MethodName := ⟨RX1, "beginnings", "(LWordgarden$Word;IZ)I"⟩
abbrev cX1_spreadOf : ByteArray := prog_3_method_11_code
def yX1_spreadOf : MethodName := ⟨RX1, "spreadOf", "(LWordgarden$Word;IZ)I"⟩
abbrev cX1_isReadEarlier : ByteArray := prog_3_method_12_code
def yX1_isReadEarlier : MethodName := ⟨RX1, "isReadEarlier", "(LWordgarden$Word;II)Z"⟩
abbrev cX1_kindsOf : ByteArray := prog_3_method_13_code
def yX1_kindsOf : MethodName := ⟨RX1, "kindsOf", "(LWordgarden$Word;IZ)I"⟩
abbrev cX1_timesOf : ByteArray := prog_3_method_14_code
def yX1_timesOf : MethodName := ⟨RX1, "timesOf", "(LWordgarden$Word;)I"⟩
abbrev cX1_timesWith : ByteArray := prog_3_method_15_code
def yX1_timesWith : MethodName := ⟨RX1, "timesWith", "(LWordgarden$Word;I)I"⟩
abbrev cX1_overlapsOf : ByteArray := prog_3_method_16_code
def yX1_overlapsOf : MethodName := ⟨RX1, "overlapsOf", "(LWordgarden$Word;)I"⟩
abbrev cX1_isOverlap : ByteArray := prog_3_method_17_code
def yX1_isOverlap : MethodName := ⟨RX1, "isOverlap", "(LWordgarden$Word;II)Z"⟩
abbrev cX1_mirrorsOf : ByteArray := prog_3_method_18_code
def yX1_mirrorsOf : MethodName := ⟨RX1, "mirrorsOf", "(LWordgarden$Word;)I"⟩
abbrev cX1_foldsOf : ByteArray := prog_3_method_19_code
def yX1_foldsOf : MethodName := ⟨RX1, "foldsOf", "(LWordgarden$Word;)I"⟩
abbrev cX1_leastOf : ByteArray := prog_3_method_20_code
def yX1_leastOf : MethodName := ⟨RX1, "leastOf", "(LWordgarden$Word;)I"⟩
abbrev cX1_firstUnlikeJoined : ByteArray := prog_3_method_21_code
def yX1_firstUnlikeJoined : MethodName := ⟨RX1, "firstUnlikeJoined", "(LWordgarden$Word;LWordgarden$Word;)I"⟩
abbrev cX1_isUpJoined : ByteArray := prog_3_method_22_code
def yX1_isUpJoined : MethodName := ⟨RX1, "isUpJoined", "(LWordgarden$Word;LWordgarden$Word;I)Z"⟩
def RX2 : String := "Wordgarden$Rule"
def TX2 : u_T := fun k => match k with
  | 0 => ("Wordgarden$Rule", "forA", "LWordgarden$Word;", true)
  | 1 => ("Wordgarden$Rule", "forB", "LWordgarden$Word;", true)
  | _ => ("Wordgarden$Rule", "isImageFrom", "[Z", true)
def tyX2 : Nat → FieldType := fun k => match k with
  | 0 => .object "Wordgarden$Word"
  | 1 => .object "Wordgarden$Word"
  | _ => .array .boolean
abbrev wsX20 : List Cond := u_ws RX2 TX2 3
theorem nmX2 : ∀ a, a < 3 → ∀ b, b < 3 → a ≠ b → (TX2 a).2.1 ≠ (TX2 b).2.1 := by decide +kernel
theorem tyX2_ok : ∀ k, k < 3 → parseFieldDescriptor (TX2 k).2.2.1 = some (tyX2 k) := by decide +kernel
abbrev cX2_init : ByteArray := prog_4_method_1_code
def yX2_init : MethodName := ⟨RX2, "<init>", "()V"⟩
abbrev cX2_take : ByteArray := prog_4_method_2_code
def yX2_take : MethodName := ⟨RX2, "take", "(II)V"⟩
abbrev cX2_keepsApart : ByteArray := prog_4_method_3_code
def yX2_keepsApart : MethodName := ⟨RX2, "keepsApart", "()Z"⟩
abbrev cX2_imageLength : ByteArray := prog_4_method_4_code
def yX2_imageLength : MethodName := ⟨RX2, "imageLength", "(LWordgarden$Word;)I"⟩
abbrev cX2_layImage : ByteArray := prog_4_method_5_code
def yX2_layImage : MethodName := ⟨RX2, "layImage", "(LWordgarden$Word;LWordgarden$Word;)V"⟩
abbrev cX2_layOrigin : ByteArray := prog_4_method_6_code
def yX2_layOrigin : MethodName := ⟨RX2, "layOrigin", "(LWordgarden$Word;LWordgarden$Word;)Z"⟩
abbrev cX2_markImages : ByteArray := prog_4_method_7_code
def yX2_markImages : MethodName := ⟨RX2, "markImages", "(LWordgarden$Word;)V"⟩
abbrev cX2_isMarked : ByteArray := prog_4_method_8_code
def yX2_isMarked : MethodName := ⟨RX2, "isMarked", "(I)Z"⟩
abbrev cX2_goesOn : ByteArray := prog_4_method_9_code
def yX2_goesOn : MethodName := ⟨RX2, "goesOn", "(LWordgarden$Word;ILWordgarden$Word;)Z"⟩
def RX3 : String := "Wordgarden$Twos"
def TX3 : u_T := fun k => match k with
  | _ => ("", "", "", false)
def tyX3 : Nat → FieldType := fun k => match k with
  | _ => .int
abbrev wsX30 : List Cond := u_ws RX3 TX3 0
theorem nmX3 : ∀ a, a < 0 → ∀ b, b < 0 → a ≠ b → (TX3 a).2.1 ≠ (TX3 b).2.1 := by decide +kernel
theorem tyX3_ok : ∀ k, k < 0 → parseFieldDescriptor (TX3 k).2.2.1 = some (tyX3 k) := by decide +kernel
abbrev cX3_layByRule : ByteArray := prog_5_method_2_code
def yX3_layByRule : MethodName := ⟨RX3, "layByRule", "(ILWordgarden$Word;LWordgarden$Word;LWordgarden$Rule;)V"⟩
abbrev cX3_layByCopies : ByteArray := prog_5_method_3_code
def yX3_layByCopies : MethodName := ⟨RX3, "layByCopies", "(ILWordgarden$Word;)V"⟩
abbrev cX3_laySignBySign : ByteArray := prog_5_method_4_code
def yX3_laySignBySign : MethodName := ⟨RX3, "laySignBySign", "(ILWordgarden$Word;)V"⟩
def RX4 : String := "Wordgarden$Word"
def TX4 : u_T := fun k => match k with
  | 0 => ("Wordgarden$Word", "signs", "[Z", true)
  | _ => ("Wordgarden$Word", "many", "I", false)
def tyX4 : Nat → FieldType := fun k => match k with
  | 0 => .array .boolean
  | _ => .int
abbrev wsX40 : List Cond := u_ws RX4 TX4 2
theorem nmX4 : ∀ a, a < 2 → ∀ b, b < 2 → a ≠ b → (TX4 a).2.1 ≠ (TX4 b).2.1 := by decide +kernel
theorem tyX4_ok : ∀ k, k < 2 → parseFieldDescriptor (TX4 k).2.2.1 = some (tyX4 k) := by decide +kernel
abbrev cX4_init : ByteArray := prog_6_method_1_code
def yX4_init : MethodName := ⟨RX4, "<init>", "()V"⟩
abbrev cX4_isUp : ByteArray := prog_6_method_2_code
def yX4_isUp : MethodName := ⟨RX4, "isUp", "(I)Z"⟩
abbrev cX4_put : ByteArray := prog_6_method_3_code
def yX4_put : MethodName := ⟨RX4, "put", "(IZ)V"⟩
abbrev cX4_clear : ByteArray := prog_6_method_4_code
def yX4_clear : MethodName := ⟨RX4, "clear", "()V"⟩
abbrev cX4_add : ByteArray := prog_6_method_5_code
def yX4_add : MethodName := ⟨RX4, "add", "(Z)V"⟩
abbrev cX4_addPart : ByteArray := prog_6_method_6_code
def yX4_addPart : MethodName := ⟨RX4, "addPart", "(LWordgarden$Word;II)V"⟩
abbrev cX4_take : ByteArray := prog_6_method_7_code
def yX4_take : MethodName := ⟨RX4, "take", "(LWordgarden$Word;)V"⟩
abbrev cX4_takeTurned : ByteArray := prog_6_method_8_code
def yX4_takeTurned : MethodName := ⟨RX4, "takeTurned", "(LWordgarden$Word;)V"⟩
abbrev cX4_takeCode : ByteArray := prog_6_method_9_code
def yX4_takeCode : MethodName := ⟨RX4, "takeCode", "(I)V"⟩
def RX5 : String := "Wordgarden"
def TX5 : u_T := fun k => match k with
  | 0 => ("Wordgarden", "sheets", "[LWordgarden$Word;", true)
  | 1 => ("Wordgarden", "growths", "[LWordgarden$Growth;", true)
  | 2 => ("Wordgarden", "rule", "LWordgarden$Rule;", true)
  | 3 => ("Wordgarden", "bench", "LWordgarden$Word;", true)
  | 4 => ("Wordgarden", "secondBench", "LWordgarden$Word;", true)
  | 5 => ("Wordgarden", "sheetActs", "I", false)
  | 6 => ("Wordgarden", "growthActs", "I", false)
  | 7 => ("Wordgarden", "refusals", "I", false)
  | _ => ("Wordgarden", "knocks", "I", false)
def tyX5 : Nat → FieldType := fun k => match k with
  | 0 => .array (.object "Wordgarden$Word")
  | 1 => .array (.object "Wordgarden$Growth")
  | 2 => .object "Wordgarden$Rule"
  | 3 => .object "Wordgarden$Word"
  | 4 => .object "Wordgarden$Word"
  | 5 => .int
  | 6 => .int
  | 7 => .int
  | _ => .int
abbrev wsX50 : List Cond := u_ws RX5 TX5 9
theorem nmX5 : ∀ a, a < 9 → ∀ b, b < 9 → a ≠ b → (TX5 a).2.1 ≠ (TX5 b).2.1 := by decide +kernel
theorem tyX5_ok : ∀ k, k < 9 → parseFieldDescriptor (TX5 k).2.2.1 = some (tyX5 k) := by decide +kernel
abbrev cX5_init : ByteArray := prog_1_method_1_code
def yX5_init : MethodName := ⟨RX5, "<init>", "()V"⟩
abbrev cX5_write : ByteArray := prog_1_method_2_code
def yX5_write : MethodName := ⟨RX5, "write", "(II)I"⟩
abbrev cX5_append : ByteArray := prog_1_method_3_code
def yX5_append : MethodName := ⟨RX5, "append", "(II)I"⟩
abbrev cX5_insertSign : ByteArray := prog_1_method_4_code
def yX5_insertSign : MethodName := ⟨RX5, "insertSign", "(IIZ)I"⟩
abbrev cX5_insertSheet : ByteArray := prog_1_method_5_code
def yX5_insertSheet : MethodName := ⟨RX5, "insertSheet", "(III)I"⟩
abbrev cX5_setSign : ByteArray := prog_1_method_6_code
def yX5_setSign : MethodName := ⟨RX5, "setSign", "(IIZ)I"⟩
abbrev cX5_removeSign : ByteArray := prog_1_method_7_code
def yX5_removeSign : MethodName := ⟨RX5, "removeSign", "(II)I"⟩
abbrev cX5_remove : ByteArray := prog_1_method_8_code
def yX5_remove : MethodName := ⟨RX5, "remove", "(III)I"⟩
abbrev cX5_replace : ByteArray := prog_1_method_9_code
def yX5_replace : MethodName := ⟨RX5, "replace", "(IIII)I"⟩
abbrev cX5_cutTo : ByteArray := prog_1_method_10_code
def yX5_cutTo : MethodName := ⟨RX5, "cutTo", "(II)I"⟩
abbrev cX5_turn : ByteArray := prog_1_method_11_code
def yX5_turn : MethodName := ⟨RX5, "turn", "(I)I"⟩
abbrev cX5_exchange : ByteArray := prog_1_method_12_code
def yX5_exchange : MethodName := ⟨RX5, "exchange", "(I)I"⟩
abbrev cX5_rotate : ByteArray := prog_1_method_13_code
def yX5_rotate : MethodName := ⟨RX5, "rotate", "(II)I"⟩
abbrev cX5_copy : ByteArray := prog_1_method_14_code
def yX5_copy : MethodName := ⟨RX5, "copy", "(II)I"⟩
abbrev cX5_apply : ByteArray := prog_1_method_15_code
def yX5_apply : MethodName := ⟨RX5, "apply", "(III)I"⟩
abbrev cX5_undo : ByteArray := prog_1_method_16_code
def yX5_undo : MethodName := ⟨RX5, "undo", "(III)I"⟩
abbrev cX5_lay : ByteArray := prog_1_method_17_code
def yX5_lay : MethodName := ⟨RX5, "lay", "(III)I"⟩
abbrev cX5_twos : ByteArray := prog_1_method_18_code
def yX5_twos : MethodName := ⟨RX5, "twos", "(III)I"⟩
abbrev cX5_line : ByteArray := prog_1_method_19_code
def yX5_line : MethodName := ⟨RX5, "line", "(IIII)I"⟩
abbrev cX5_grow : ByteArray := prog_1_method_20_code
def yX5_grow : MethodName := ⟨RX5, "grow", "(II)I"⟩
abbrev cX5_shrink : ByteArray := prog_1_method_21_code
def yX5_shrink : MethodName := ⟨RX5, "shrink", "(I)I"⟩
abbrev cX5_fresh : ByteArray := prog_1_method_22_code
def yX5_fresh : MethodName := ⟨RX5, "fresh", "(I)I"⟩
abbrev cX5_length : ByteArray := prog_1_method_23_code
def yX5_length : MethodName := ⟨RX5, "length", "(I)I"⟩
abbrev cX5_isB : ByteArray := prog_1_method_24_code
def yX5_isB : MethodName := ⟨RX5, "isB", "(II)Z"⟩
abbrev cX5_text : ByteArray := prog_1_method_25_code
def yX5_text : MethodName := ⟨RX5, "text", "(I)Ljava/lang/String;"⟩
abbrev cX5_count : ByteArray := prog_1_method_26_code
def yX5_count : MethodName := ⟨RX5, "count", "(IZ)I"⟩
abbrev cX5_find : ByteArray := prog_1_method_27_code
def yX5_find : MethodName := ⟨RX5, "find", "(III)I"⟩
abbrev cX5_findLast : ByteArray := prog_1_method_28_code
def yX5_findLast : MethodName := ⟨RX5, "findLast", "(III)I"⟩
abbrev cX5_order : ByteArray := prog_1_method_29_code
def yX5_order : MethodName := ⟨RX5, "order", "(II)I"⟩
abbrev cX5_isMirrored : ByteArray := prog_1_method_30_code
def yX5_isMirrored : MethodName := ⟨RX5, "isMirrored", "(I)Z"⟩
abbrev cX5_spread : ByteArray := prog_1_method_31_code
def yX5_spread : MethodName := ⟨RX5, "spread", "(IIZ)I"⟩
abbrev cX5_kinds : ByteArray := prog_1_method_32_code
def yX5_kinds : MethodName := ⟨RX5, "kinds", "(IIZ)I"⟩
abbrev cX5_times : ByteArray := prog_1_method_33_code
def yX5_times : MethodName := ⟨RX5, "times", "(I)I"⟩
abbrev cX5_overlaps : ByteArray := prog_1_method_34_code
def yX5_overlaps : MethodName := ⟨RX5, "overlaps", "(I)I"⟩
abbrev cX5_mirrors : ByteArray := prog_1_method_35_code
def yX5_mirrors : MethodName := ⟨RX5, "mirrors", "(I)I"⟩
abbrev cX5_folds : ByteArray := prog_1_method_36_code
def yX5_folds : MethodName := ⟨RX5, "folds", "(I)I"⟩
abbrev cX5_least : ByteArray := prog_1_method_37_code
def yX5_least : MethodName := ⟨RX5, "least", "(I)I"⟩
abbrev cX5_isApart : ByteArray := prog_1_method_38_code
def yX5_isApart : MethodName := ⟨RX5, "isApart", "(II)Z"⟩
abbrev cX5_turns : ByteArray := prog_1_method_39_code
def yX5_turns : MethodName := ⟨RX5, "turns", "(I)Ljava/lang/String;"⟩
abbrev cX5_grown : ByteArray := prog_1_method_40_code
def yX5_grown : MethodName := ⟨RX5, "grown", "(IZ)Ljava/lang/String;"⟩
abbrev cX5_size : ByteArray := prog_1_method_41_code
def yX5_size : MethodName := ⟨RX5, "size", "(IZ)I"⟩
abbrev cX5_ups : ByteArray := prog_1_method_42_code
def yX5_ups : MethodName := ⟨RX5, "ups", "(IZ)I"⟩
abbrev cX5_cross : ByteArray := prog_1_method_43_code
def yX5_cross : MethodName := ⟨RX5, "cross", "(I)I"⟩
abbrev cX5_alike : ByteArray := prog_1_method_44_code
def yX5_alike : MethodName := ⟨RX5, "alike", "(I)I"⟩
abbrev cX5_house : ByteArray := prog_1_method_45_code
def yX5_house : MethodName := ⟨RX5, "house", "(I)I"⟩
abbrev cX5_knock : ByteArray := prog_1_method_46_code
def yX5_knock : MethodName := ⟨RX5, "knock", "()I"⟩
abbrev cX5_isSound : ByteArray := prog_1_method_47_code
def yX5_isSound : MethodName := ⟨RX5, "isSound", "()Z"⟩
abbrev cX5_digest : ByteArray := prog_1_method_48_code
def yX5_digest : MethodName := ⟨RX5, "digest", "()J"⟩
abbrev cX5_wordOf : ByteArray := prog_1_method_49_code
def yX5_wordOf : MethodName := ⟨RX5, "wordOf", "(I)LWordgarden$Word;"⟩
abbrev cX5_growthOf : ByteArray := prog_1_method_50_code
def yX5_growthOf : MethodName := ⟨RX5, "growthOf", "(I)LWordgarden$Growth;"⟩
abbrev cX5_needIndex : ByteArray := prog_1_method_51_code
def yX5_needIndex : MethodName := ⟨RX5, "needIndex", "(Z)V"⟩
abbrev cX5_needArgument : ByteArray := prog_1_method_52_code
def yX5_needArgument : MethodName := ⟨RX5, "needArgument", "(Z)V"⟩
abbrev cX5_needState : ByteArray := prog_1_method_53_code
def yX5_needState : MethodName := ⟨RX5, "needState", "(Z)V"⟩
abbrev cX5_oneIf : ByteArray := prog_1_method_54_code
def yX5_oneIf : MethodName := ⟨RX5, "oneIf", "(Z)I"⟩
abbrev cX5_sheetActDone : ByteArray := prog_1_method_55_code
def yX5_sheetActDone : MethodName := ⟨RX5, "sheetActDone", "(I)I"⟩
abbrev cX5_growthActDone : ByteArray := prog_1_method_56_code
def yX5_growthActDone : MethodName := ⟨RX5, "growthActDone", "(I)I"⟩
abbrev cX5_refuse : ByteArray := prog_1_method_57_code
def yX5_refuse : MethodName := ⟨RX5, "refuse", "()I"⟩
abbrev cX5_exchangePart : ByteArray := prog_1_method_58_code
def yX5_exchangePart : MethodName := ⟨RX5, "exchangePart", "(LWordgarden$Word;IILWordgarden$Word;)I"⟩
abbrev cX5_takeOut : ByteArray := prog_1_method_59_code
def yX5_takeOut : MethodName := ⟨RX5, "takeOut", "(LWordgarden$Word;II)I"⟩
abbrev cX5_settle : ByteArray := prog_1_method_60_code
def yX5_settle : MethodName := ⟨RX5, "settle", "(LWordgarden$Word;LWordgarden$Word;)I"⟩
abbrev cX5_takeRule : ByteArray := prog_1_method_61_code
def yX5_takeRule : MethodName := ⟨RX5, "takeRule", "(II)V"⟩
abbrev cX5_isUpOnLine : ByteArray := prog_1_method_62_code
def yX5_isUpOnLine : MethodName := ⟨RX5, "isUpOnLine", "(IIII)Z"⟩
abbrev cX5_isSheetSound : ByteArray := prog_1_method_63_code
def yX5_isSheetSound : MethodName := ⟨RX5, "isSheetSound", "(I)Z"⟩
abbrev cX5_isGrowthSound : ByteArray := prog_1_method_64_code
def yX5_isGrowthSound : MethodName := ⟨RX5, "isGrowthSound", "(I)Z"⟩
abbrev cX5_digestWith : ByteArray := prog_1_method_65_code
def yX5_digestWith : MethodName := ⟨RX5, "digestWith", "(JJ)J"⟩
abbrev cX5_digestSheet : ByteArray := prog_1_method_66_code
def yX5_digestSheet : MethodName := ⟨RX5, "digestSheet", "(JI)J"⟩
abbrev cX5_digestGrowth : ByteArray := prog_1_method_67_code
def yX5_digestGrowth : MethodName := ⟨RX5, "digestGrowth", "(JI)J"⟩
def RX6 : String := "WordgardenLaw$Out"
def TX6 : u_T := fun k => match k with
  | 0 => ("WordgardenLaw$Out", "n", "J", false)
  | _ => ("WordgardenLaw$Out", "s", "Ljava/lang/String;", false)
def tyX6 : Nat → FieldType := fun k => match k with
  | 0 => .long
  | _ => .object "java/lang/String"
abbrev wsX60 : List Cond := u_ws RX6 TX6 2
theorem nmX6 : ∀ a, a < 2 → ∀ b, b < 2 → a ≠ b → (TX6 a).2.1 ≠ (TX6 b).2.1 := by decide +kernel
theorem tyX6_ok : ∀ k, k < 2 → parseFieldDescriptor (TX6 k).2.2.1 = some (tyX6 k) := by decide +kernel
abbrev cX6_init : ByteArray := prog_8_method_1_code
def yX6_init : MethodName := ⟨RX6, "<init>", "()V"⟩
def RX7 : String := "WordgardenModel"
def TX7 : u_T := fun k => match k with
  | 0 => ("WordgardenModel", "words", "[[I", true)
  | 1 => ("WordgardenModel", "diaries", "[[I", true)
  | 2 => ("WordgardenModel", "many", "[I", true)
  | 3 => ("WordgardenModel", "onSheets", "I", false)
  | 4 => ("WordgardenModel", "onGrowths", "I", false)
  | 5 => ("WordgardenModel", "refused", "I", false)
  | 6 => ("WordgardenModel", "knocked", "I", false)
  | _ => ("WordgardenModel", "thrown", "I", false)
def tyX7 : Nat → FieldType := fun k => match k with
  | 0 => .array (.array .int)
  | 1 => .array (.array .int)
  | 2 => .array .int
  | 3 => .int
  | 4 => .int
  | 5 => .int
  | 6 => .int
  | _ => .int
abbrev wsX70 : List Cond := u_ws RX7 TX7 8
theorem nmX7 : ∀ a, a < 8 → ∀ b, b < 8 → a ≠ b → (TX7 a).2.1 ≠ (TX7 b).2.1 := by decide +kernel
theorem tyX7_ok : ∀ k, k < 8 → parseFieldDescriptor (TX7 k).2.2.1 = some (tyX7 k) := by decide +kernel
abbrev cX7_init : ByteArray := prog_9_method_1_code
def yX7_init : MethodName := ⟨RX7, "<init>", "()V"⟩
abbrev cX7_thrown : ByteArray := prog_9_method_2_code
def yX7_thrown : MethodName := ⟨RX7, "thrown", "()I"⟩
abbrev cX7_isIn : ByteArray := prog_9_method_3_code
def yX7_isIn : MethodName := ⟨RX7, "isIn", "(III)Z"⟩
abbrev cX7_refuse : ByteArray := prog_9_method_4_code
def yX7_refuse : MethodName := ⟨RX7, "refuse", "(ZI)Z"⟩
abbrev cX7_start : ByteArray := prog_9_method_5_code
def yX7_start : MethodName := ⟨RX7, "start", "(ZI)Z"⟩
abbrev cX7_isNoSheet : ByteArray := prog_9_method_6_code
def yX7_isNoSheet : MethodName := ⟨RX7, "isNoSheet", "(I)Z"⟩
abbrev cX7_isNoGrowth : ByteArray := prog_9_method_7_code
def yX7_isNoGrowth : MethodName := ⟨RX7, "isNoGrowth", "(I)Z"⟩
abbrev cX7_isNoGap : ByteArray := prog_9_method_8_code
def yX7_isNoGap : MethodName := ⟨RX7, "isNoGap", "(II)Z"⟩
abbrev cX7_isNoPlace : ByteArray := prog_9_method_9_code
def yX7_isNoPlace : MethodName := ⟨RX7, "isNoPlace", "(II)Z"⟩
abbrev cX7_isNoPart : ByteArray := prog_9_method_10_code
def yX7_isNoPart : MethodName := ⟨RX7, "isNoPart", "(III)Z"⟩
abbrev cX7_one : ByteArray := prog_9_method_11_code
def yX7_one : MethodName := ⟨RX7, "one", "(Z)I"⟩
abbrev cX7_areSame : ByteArray := prog_9_method_12_code
def yX7_areSame : MethodName := ⟨RX7, "areSame", "([I[I)Z"⟩
abbrev cX7_standsAt : ByteArray := prog_9_method_13_code
def yX7_standsAt : MethodName := ⟨RX7, "standsAt", "([I[II)Z"⟩
abbrev cX7_bs : ByteArray := prog_9_method_14_code
def yX7_bs : MethodName := ⟨RX7, "bs", "([I)I"⟩
abbrev cX7_spliced : ByteArray := prog_9_method_15_code
def yX7_spliced : MethodName := ⟨RX7, "spliced", "([III[I)[I"⟩
abbrev cX7_ofCode : ByteArray := prog_9_method_16_code
def yX7_ofCode : MethodName := ⟨RX7, "ofCode", "(I)[I"⟩
abbrev cX7_turned : ByteArray := prog_9_method_17_code
def yX7_turned : MethodName := ⟨RX7, "turned", "([I)[I"⟩
abbrev cX7_image : ByteArray := prog_9_method_18_code
def yX7_image : MethodName := ⟨RX7, "image", "([I[I[I)[I"⟩
abbrev cX7_isMirrored : ByteArray := prog_9_method_19_code
def yX7_isMirrored : MethodName := ⟨RX7, "isMirrored", "([III)Z"⟩
abbrev cX7_comes : ByteArray := prog_9_method_20_code
def yX7_comes : MethodName := ⟨RX7, "comes", "(I[I)I"⟩
abbrev cX7_cannot : ByteArray := prog_9_method_21_code
def yX7_cannot : MethodName := ⟨RX7, "cannot", "()I"⟩
abbrev cX7_write : ByteArray := prog_9_method_22_code
def yX7_write : MethodName := ⟨RX7, "write", "(II)I"⟩
abbrev cX7_put : ByteArray := prog_9_method_23_code
def yX7_put : MethodName := ⟨RX7, "put", "(III[I)I"⟩
abbrev cX7_append : ByteArray := prog_9_method_24_code
def yX7_append : MethodName := ⟨RX7, "append", "(II)I"⟩
abbrev cX7_insertSign : ByteArray := prog_9_method_25_code
def yX7_insertSign : MethodName := ⟨RX7, "insertSign", "(IIZ)I"⟩
abbrev cX7_insertSheet : ByteArray := prog_9_method_26_code
def yX7_insertSheet : MethodName := ⟨RX7, "insertSheet", "(III)I"⟩
abbrev cX7_setSign : ByteArray := prog_9_method_27_code
def yX7_setSign : MethodName := ⟨RX7, "setSign", "(IIZ)I"⟩
abbrev cX7_removeSign : ByteArray := prog_9_method_28_code
def yX7_removeSign : MethodName := ⟨RX7, "removeSign", "(II)I"⟩
abbrev cX7_remove : ByteArray := prog_9_method_29_code
def yX7_remove : MethodName := ⟨RX7, "remove", "(III)I"⟩
abbrev cX7_replace : ByteArray := prog_9_method_30_code
def yX7_replace : MethodName := ⟨RX7, "replace", "(IIII)I"⟩
abbrev cX7_cutTo : ByteArray := prog_9_method_31_code
def yX7_cutTo : MethodName := ⟨RX7, "cutTo", "(II)I"⟩
abbrev cX7_becomes : ByteArray := prog_9_method_32_code
def yX7_becomes : MethodName := ⟨RX7, "becomes", "(I[I)I"⟩
abbrev cX7_turn : ByteArray := prog_9_method_33_code
def yX7_turn : MethodName := ⟨RX7, "turn", "(I)I"⟩
abbrev cX7_exchange : ByteArray := prog_9_method_34_code
def yX7_exchange : MethodName := ⟨RX7, "exchange", "(I)I"⟩
abbrev cX7_rotate : ByteArray := prog_9_method_35_code
def yX7_rotate : MethodName := ⟨RX7, "rotate", "(II)I"⟩
abbrev cX7_copy : ByteArray := prog_9_method_36_code
def yX7_copy : MethodName := ⟨RX7, "copy", "(II)I"⟩
abbrev cX7_isNoRule : ByteArray := prog_9_method_37_code
def yX7_isNoRule : MethodName := ⟨RX7, "isNoRule", "(II)Z"⟩
abbrev cX7_apply : ByteArray := prog_9_method_38_code
def yX7_apply : MethodName := ⟨RX7, "apply", "(III)I"⟩
abbrev cX7_isApartRule : ByteArray := prog_9_method_39_code
def yX7_isApartRule : MethodName := ⟨RX7, "isApartRule", "(II)Z"⟩
abbrev cX7_steps : ByteArray := prog_9_method_40_code
def yX7_steps : MethodName := ⟨RX7, "steps", "([I[I[I)[I"⟩
abbrev cX7_undo : ByteArray := prog_9_method_41_code
def yX7_undo : MethodName := ⟨RX7, "undo", "(III)I"⟩
abbrev cX7_lay : ByteArray := prog_9_method_42_code
def yX7_lay : MethodName := ⟨RX7, "lay", "(III)I"⟩
abbrev cX7_twosOf : ByteArray := prog_9_method_43_code
def yX7_twosOf : MethodName := ⟨RX7, "twosOf", "(II)[I"⟩
abbrev cX7_twos : ByteArray := prog_9_method_44_code
def yX7_twos : MethodName := ⟨RX7, "twos", "(III)I"⟩
abbrev cX7_lineSign : ByteArray := prog_9_method_45_code
def yX7_lineSign : MethodName := ⟨RX7, "lineSign", "(IIII)I"⟩
abbrev cX7_line : ByteArray := prog_9_method_46_code
def yX7_line : MethodName := ⟨RX7, "line", "(IIII)I"⟩
abbrev cX7_byCopies : ByteArray := prog_9_method_47_code
def yX7_byCopies : MethodName := ⟨RX7, "byCopies", "(II)[I"⟩
abbrev cX7_elder : ByteArray := prog_9_method_48_code
def yX7_elder : MethodName := ⟨RX7, "elder", "(I)[I"⟩
abbrev cX7_word : ByteArray := prog_9_method_49_code
def yX7_word : MethodName := ⟨RX7, "word", "(IZ)[I"⟩
abbrev cX7_byRules : ByteArray := prog_9_method_50_code
def yX7_byRules : MethodName := ⟨RX7, "byRules", "(I)[I"⟩
abbrev cX7_byLine : ByteArray := prog_9_method_51_code
def yX7_byLine : MethodName := ⟨RX7, "byLine", "(I)[I"⟩
abbrev cX7_grow : ByteArray := prog_9_method_52_code
def yX7_grow : MethodName := ⟨RX7, "grow", "(II)I"⟩
abbrev cX7_shrink : ByteArray := prog_9_method_53_code
def yX7_shrink : MethodName := ⟨RX7, "shrink", "(I)I"⟩
abbrev cX7_fresh : ByteArray := prog_9_method_54_code
def yX7_fresh : MethodName := ⟨RX7, "fresh", "(I)I"⟩
abbrev cX7_length : ByteArray := prog_9_method_55_code
def yX7_length : MethodName := ⟨RX7, "length", "(I)I"⟩
abbrev cX7_isB : ByteArray := prog_9_method_56_code
def yX7_isB : MethodName := ⟨RX7, "isB", "(II)Z"⟩
abbrev cX7_textOf : ByteArray := prog_9_method_57_code
def yX7_textOf : MethodName := ⟨RX7, "textOf", "([I)Ljava/lang/String;"⟩
abbrev cX7_text : ByteArray := prog_9_method_58_code
def yX7_text : MethodName := ⟨RX7, "text", "(I)Ljava/lang/String;"⟩
abbrev cX7_count : ByteArray := prog_9_method_59_code
def yX7_count : MethodName := ⟨RX7, "count", "(IZ)I"⟩
abbrev cX7_find : ByteArray := prog_9_method_60_code
def yX7_find : MethodName := ⟨RX7, "find", "(III)I"⟩
abbrev cX7_findLast : ByteArray := prog_9_method_61_code
def yX7_findLast : MethodName := ⟨RX7, "findLast", "(III)I"⟩
abbrev cX7_order : ByteArray := prog_9_method_62_code
def yX7_order : MethodName := ⟨RX7, "order", "(II)I"⟩
abbrev cX7_isMirrored_ : ByteArray := prog_9_method_63_code
def yX7_isMirrored_ : MethodName := ⟨RX7, "isMirrored", "(I)Z"⟩
abbrev cX7_parts : ByteArray := prog_9_method_64_code
def yX7_parts : MethodName := ⟨RX7, "parts", "([IIZ)I"⟩
abbrev cX7_spread : ByteArray := prog_9_method_65_code
def yX7_spread : MethodName := ⟨RX7, "spread", "(IIZ)I"⟩
abbrev cX7_areLike : ByteArray := prog_9_method_66_code
def yX7_areLike : MethodName := ⟨RX7, "areLike", "([IIII)Z"⟩
abbrev cX7_kinds : ByteArray := prog_9_method_67_code
def yX7_kinds : MethodName := ⟨RX7, "kinds", "(IIZ)I"⟩
abbrev cX7_timesOf : ByteArray := prog_9_method_68_code
def yX7_timesOf : MethodName := ⟨RX7, "timesOf", "([I)I"⟩
abbrev cX7_times : ByteArray := prog_9_method_69_code
def yX7_times : MethodName := ⟨RX7, "times", "(I)I"⟩
abbrev cX7_overlapsOf : ByteArray := prog_9_method_70_code
def yX7_overlapsOf : MethodName := ⟨RX7, "overlapsOf", "([I)I"⟩
abbrev cX7_overlaps : ByteArray := prog_9_method_71_code
def yX7_overlaps : MethodName := ⟨RX7, "overlaps", "(I)I"⟩
abbrev cX7_mirrors : ByteArray := prog_9_method_72_code
def yX7_mirrors : MethodName := ⟨RX7, "mirrors", "(I)I"⟩
abbrev cX7_foldsOf : ByteArray := prog_9_method_73_code
def yX7_foldsOf : MethodName := ⟨RX7, "foldsOf", "([I)I"⟩
abbrev cX7_folds : ByteArray := prog_9_method_74_code
def yX7_folds : MethodName := ⟨RX7, "folds", "(I)I"⟩
abbrev cX7_leastOf : ByteArray := prog_9_method_75_code
def yX7_leastOf : MethodName := ⟨RX7, "leastOf", "([I)I"⟩
abbrev cX7_least : ByteArray := prog_9_method_76_code
def yX7_least : MethodName := ⟨RX7, "least", "(I)I"⟩
abbrev cX7_isApart : ByteArray := prog_9_method_77_code
def yX7_isApart : MethodName := ⟨RX7, "isApart", "(II)Z"⟩
abbrev cX7_turns : ByteArray := prog_9_method_78_code
def yX7_turns : MethodName := ⟨RX7, "turns", "(I)Ljava/lang/String;"⟩
abbrev cX7_grown : ByteArray := prog_9_method_79_code
def yX7_grown : MethodName := ⟨RX7, "grown", "(IZ)Ljava/lang/String;"⟩
abbrev cX7_size : ByteArray := prog_9_method_80_code
def yX7_size : MethodName := ⟨RX7, "size", "(IZ)I"⟩
abbrev cX7_ups : ByteArray := prog_9_method_81_code
def yX7_ups : MethodName := ⟨RX7, "ups", "(IZ)I"⟩
abbrev cX7_crossOf : ByteArray := prog_9_method_82_code
def yX7_crossOf : MethodName := ⟨RX7, "crossOf", "([I[I)I"⟩
abbrev cX7_cross : ByteArray := prog_9_method_83_code
def yX7_cross : MethodName := ⟨RX7, "cross", "(I)I"⟩
abbrev cX7_alikeOf : ByteArray := prog_9_method_84_code
def yX7_alikeOf : MethodName := ⟨RX7, "alikeOf", "([I[I)I"⟩
abbrev cX7_alike : ByteArray := prog_9_method_85_code
def yX7_alike : MethodName := ⟨RX7, "alike", "(I)I"⟩
abbrev cX7_told : ByteArray := prog_9_method_86_code
def yX7_told : MethodName := ⟨RX7, "told", "(I)I"⟩
abbrev cX7_house : ByteArray := prog_9_method_87_code
def yX7_house : MethodName := ⟨RX7, "house", "(I)I"⟩
abbrev cX7_knock : ByteArray := prog_9_method_88_code
def yX7_knock : MethodName := ⟨RX7, "knock", "()I"⟩
abbrev cX7_isWhole : ByteArray := prog_9_method_89_code
def yX7_isWhole : MethodName := ⟨RX7, "isWhole", "()Z"⟩
abbrev cX7_isSound : ByteArray := prog_9_method_90_code
def yX7_isSound : MethodName := ⟨RX7, "isSound", "()Z"⟩
abbrev cX7_add : ByteArray := prog_9_method_91_code
def yX7_add : MethodName := ⟨RX7, "add", "(JJ)J"⟩
abbrev cX7_added : ByteArray := prog_9_method_92_code
def yX7_added : MethodName := ⟨RX7, "added", "(JI)J"⟩
abbrev cX7_digest : ByteArray := prog_9_method_93_code
def yX7_digest : MethodName := ⟨RX7, "digest", "()J"⟩
def RJ5 : String := "java/lang/AbstractStringBuilder"
def TJ5 : u_T := fun k => match k with
  | _ => ("", "", "", false)
def tyJ5 : Nat → FieldType := fun k => match k with
  | _ => .int
abbrev wsJ50 : List Cond := u_ws RJ5 TJ5 0
theorem nmJ5 : ∀ a, a < 0 → ∀ b, b < 0 → a ≠ b → (TJ5 a).2.1 ≠ (TJ5 b).2.1 := by decide +kernel
theorem tyJ5_ok : ∀ k, k < 0 → parseFieldDescriptor (TJ5 k).2.2.1 = some (tyJ5 k) := by decide +kernel
abbrev cJ5_init_d00df : ByteArray := prog_10_method_2_code
def yJ5_init_d00df : MethodName := ⟨RJ5, "<init>", "(I)V"⟩
abbrev cJ5_length_8abf5 : ByteArray := prog_10_method_6_code
def yJ5_length_8abf5 : MethodName := ⟨RJ5, "length", "()I"⟩
abbrev cJ5_ensureCapacityInternal_d00df : ByteArray := prog_10_method_9_code
def yJ5_ensureCapacityInternal_d00df : MethodName := ⟨RJ5, "ensureCapacityInternal", "(I)V"⟩
abbrev cJ5_newCapacity_0f7a4 : ByteArray := prog_10_method_10_code
def yJ5_newCapacity_0f7a4 : MethodName := ⟨RJ5, "newCapacity", "(I)I"⟩
abbrev cJ5_inflate_da8c8 : ByteArray := prog_10_method_11_code
def yJ5_inflate_da8c8 : MethodName := ⟨RJ5, "inflate", "()V"⟩
abbrev cJ5_append_cf1ce : ByteArray := prog_10_method_22_code
def yJ5_append_cf1ce : MethodName := ⟨RJ5, "append", "(Ljava/lang/String;)Ljava/lang/AbstractStringBuilder;"⟩
abbrev cJ5_appendNull_278bc : ByteArray := prog_10_method_26_code
def yJ5_appendNull_278bc : MethodName := ⟨RJ5, "appendNull", "()Ljava/lang/AbstractStringBuilder;"⟩
abbrev cJ5_append_3fe6f : ByteArray := prog_10_method_31_code
def yJ5_append_3fe6f : MethodName := ⟨RJ5, "append", "(C)Ljava/lang/AbstractStringBuilder;"⟩
abbrev cJ5_append_c97b9 : ByteArray := prog_10_method_32_code
def yJ5_append_c97b9 : MethodName := ⟨RJ5, "append", "(I)Ljava/lang/AbstractStringBuilder;"⟩
abbrev cJ5_getValue_6d5f1 : ByteArray := prog_10_method_64_code
def yJ5_getValue_6d5f1 : MethodName := ⟨RJ5, "getValue", "()[B"⟩
abbrev cJ5_isLatin1_aae02 : ByteArray := prog_10_method_68_code
def yJ5_isLatin1_aae02 : MethodName := ⟨RJ5, "isLatin1", "()Z"⟩
abbrev cJ5_inflateIfNeededFor_a7421 : ByteArray := prog_10_method_71_code
def yJ5_inflateIfNeededFor_a7421 : MethodName := ⟨RJ5, "inflateIfNeededFor", "(Ljava/lang/String;)V"⟩
abbrev cJ5_putStringAt_47b60 : ByteArray := prog_10_method_73_code
def yJ5_putStringAt_47b60 : MethodName := ⟨RJ5, "putStringAt", "(ILjava/lang/String;)V"⟩
def RJx8e188 : String := "java/lang/Cloneable"
def TJx8e188 : u_T := fun k => match k with
  | _ => ("", "", "", false)
def tyJx8e188 : Nat → FieldType := fun k => match k with
  | _ => .int
abbrev wsJx8e1880 : List Cond := u_ws RJx8e188 TJx8e188 0
theorem nmJx8e188 : ∀ a, a < 0 → ∀ b, b < 0 → a ≠ b → (TJx8e188 a).2.1 ≠ (TJx8e188 b).2.1 := by decide +kernel
theorem tyJx8e188_ok : ∀ k, k < 0 → parseFieldDescriptor (TJx8e188 k).2.2.1 = some (tyJx8e188 k) := by decide +kernel
def RJ6 : String := "java/lang/Integer"
def TJ6 : u_T := fun k => match k with
  | _ => ("", "", "", false)
def tyJ6 : Nat → FieldType := fun k => match k with
  | _ => .int
abbrev wsJ60 : List Cond := u_ws RJ6 TJ6 0
theorem nmJ6 : ∀ a, a < 0 → ∀ b, b < 0 → a ≠ b → (TJ6 a).2.1 ≠ (TJ6 b).2.1 := by decide +kernel
theorem tyJ6_ok : ∀ k, k < 0 → parseFieldDescriptor (TJ6 k).2.2.1 = some (tyJ6 k) := by decide +kernel
abbrev cJ6_getChars_ba4f3 : ByteArray := prog_16_method_12_code
def yJ6_getChars_ba4f3 : MethodName := ⟨RJ6, "getChars", "(II[B)I"⟩
abbrev cJ6_stringSize_0f7a4 : ByteArray := prog_16_method_13_code
def yJ6_stringSize_0f7a4 : MethodName := ⟨RJ6, "stringSize", "(I)I"⟩
abbrev cJ6_compare_7cf53 : ByteArray := prog_16_method_40_code
def yJ6_compare_7cf53 : MethodName := ⟨RJ6, "compare", "(II)I"⟩
abbrev cJ6_bitCount_0f7a4 : ByteArray := prog_16_method_49_code
def yJ6_bitCount_0f7a4 : MethodName := ⟨RJ6, "bitCount", "(I)I"⟩
def RJ9 : String := "java/lang/Math"
def TJ9 : u_T := fun k => match k with
  | _ => ("", "", "", false)
def tyJ9 : Nat → FieldType := fun k => match k with
  | _ => .int
abbrev wsJ90 : List Cond := u_ws RJ9 TJ9 0
theorem nmJ9 : ∀ a, a < 0 → ∀ b, b < 0 → a ≠ b → (TJ9 a).2.1 ≠ (TJ9 b).2.1 := by decide +kernel
theorem tyJ9_ok : ∀ k, k < 0 → parseFieldDescriptor (TJ9 k).2.2.1 = some (tyJ9 k) := by decide +kernel
abbrev cJ9_max_7cf53 : ByteArray := prog_17_method_65_code
def yJ9_max_7cf53 : MethodName := ⟨RJ9, "max", "(II)I"⟩
abbrev cJ9_min_7cf53 : ByteArray := prog_17_method_69_code
def yJ9_min_7cf53 : MethodName := ⟨RJ9, "min", "(II)I"⟩
def RJ0 : String := "java/lang/String"
def TJ0 : u_T := fun k => match k with
  | 0 => ("java/lang/String", "value", "[B", true)
  | 1 => ("java/lang/String", "coder", "B", true)
  | 2 => ("java/lang/String", "hash", "I", false)
  | _ => ("java/lang/String", "hashIsZero", "Z", false)
def tyJ0 : Nat → FieldType := fun k => match k with
  | 0 => .array .byte
  | 1 => .byte
  | 2 => .int
  | _ => .boolean
abbrev wsJ00 : List Cond := u_ws RJ0 TJ0 4
theorem nmJ0 : ∀ a, a < 4 → ∀ b, b < 4 → a ≠ b → (TJ0 a).2.1 ≠ (TJ0 b).2.1 := by decide +kernel
theorem tyJ0_ok : ∀ k, k < 4 → parseFieldDescriptor (TJ0 k).2.2.1 = some (tyJ0 k) := by decide +kernel
abbrev cJ0_init_81219 : ByteArray := prog_19_method_53_code
def yJ0_init_81219 : MethodName := ⟨RJ0, "<init>", "(Ljava/lang/StringBuilder;)V"⟩
abbrev cJ0_length_8abf5 : ByteArray := prog_19_method_54_code
def yJ0_length_8abf5 : MethodName := ⟨RJ0, "length", "()I"⟩
abbrev cJ0_equals_9ea2d : ByteArray := prog_19_method_66_code
def yJ0_equals_9ea2d : MethodName := ⟨RJ0, "equals", "(Ljava/lang/Object;)Z"⟩
abbrev cJ0_getBytes_840e7 : ByteArray := prog_19_method_147_code
def yJ0_getBytes_840e7 : MethodName := ⟨RJ0, "getBytes", "([BIB)V"⟩
abbrev cJ0_init_db425 : ByteArray := prog_19_method_150_code
def yJ0_init_db425 : MethodName := ⟨RJ0, "<init>", "(Ljava/lang/AbstractStringBuilder;Ljava/lang/Void;)V"⟩
abbrev cJ0_coder_7d493 : ByteArray := prog_19_method_152_code
def yJ0_coder_7d493 : MethodName := ⟨RJ0, "coder", "()B"⟩
abbrev cJ0_checkIndex_df160 : ByteArray := prog_19_method_155_code
def yJ0_checkIndex_df160 : MethodName := ⟨RJ0, "checkIndex", "(II)V"⟩
abbrev cJ0_checkBoundsOffCount_cabcc : ByteArray := prog_19_method_157_code
def yJ0_checkBoundsOffCount_cabcc : MethodName := ⟨RJ0, "checkBoundsOffCount", "(III)I"⟩
abbrev cJ0_checkBoundsBeginEnd_23922 : ByteArray := prog_19_method_158_code
def yJ0_checkBoundsBeginEnd_23922 : MethodName := ⟨RJ0, "checkBoundsBeginEnd", "(III)V"⟩
def RJ4 : String := "java/lang/StringBuilder"
def TJ4 : u_T := fun k => match k with
  | 0 => ("java/lang/AbstractStringBuilder", "value", "[B", false)
  | 1 => ("java/lang/AbstractStringBuilder", "coder", "B", false)
  | 2 => ("java/lang/AbstractStringBuilder", "maybeLatin1", "Z", false)
  | _ => ("java/lang/AbstractStringBuilder", "count", "I", false)
def tyJ4 : Nat → FieldType := fun k => match k with
  | 0 => .array .byte
  | 1 => .byte
  | 2 => .boolean
  | _ => .int
abbrev wsJ40 : List Cond := u_ws RJ4 TJ4 4
theorem nmJ4 : ∀ a, a < 4 → ∀ b, b < 4 → a ≠ b → (TJ4 a).2.1 ≠ (TJ4 b).2.1 := by decide +kernel
theorem tyJ4_ok : ∀ k, k < 4 → parseFieldDescriptor (TJ4 k).2.2.1 = some (tyJ4 k) := by decide +kernel
abbrev cJ4_init_da8c8 : ByteArray := prog_20_method_1_code
def yJ4_init_da8c8 : MethodName := ⟨RJ4, "<init>", "()V"⟩
abbrev cJ4_append_15ec4 : ByteArray := prog_20_method_7_code
def yJ4_append_15ec4 : MethodName := ⟨RJ4, "append", "(Ljava/lang/String;)Ljava/lang/StringBuilder;"⟩
abbrev cJ4_append_cf468 : ByteArray := prog_20_method_14_code
def yJ4_append_cf468 : MethodName := ⟨RJ4, "append", "(C)Ljava/lang/StringBuilder;"⟩
abbrev cJ4_append_bf812 : ByteArray := prog_20_method_15_code
def yJ4_append_bf812 : MethodName := ⟨RJ4, "append", "(I)Ljava/lang/StringBuilder;"⟩
abbrev cJ4_toString_0e30d : ByteArray := prog_20_method_42_code
def yJ4_toString_0e30d : MethodName := ⟨RJ4, "toString", "()Ljava/lang/String;"⟩
abbrev cJ4_length_8abf5 : ByteArray := prog_20_method_93_code
def yJ4_length_8abf5 : MethodName := ⟨RJ4, "length", "()I"⟩
def RJ1 : String := "java/lang/StringLatin1"
def TJ1 : u_T := fun k => match k with
  | _ => ("", "", "", false)
def tyJ1 : Nat → FieldType := fun k => match k with
  | _ => .int
abbrev wsJ10 : List Cond := u_ws RJ1 TJ1 0
theorem nmJ1 : ∀ a, a < 0 → ∀ b, b < 0 → a ≠ b → (TJ1 a).2.1 ≠ (TJ1 b).2.1 := by decide +kernel
theorem tyJ1_ok : ∀ k, k < 0 → parseFieldDescriptor (TJ1 k).2.2.1 = some (tyJ1 k) := by decide +kernel
abbrev cJ1_canEncode_fc78d : ByteArray := prog_21_method_3_code
def yJ1_canEncode_fc78d : MethodName := ⟨RJ1, "canEncode", "(C)Z"⟩
abbrev cJ1_equals_b5fdf : ByteArray := prog_21_method_13_code
def yJ1_equals_b5fdf : MethodName := ⟨RJ1, "equals", "([B[B)Z"⟩
abbrev cJ1_inflate_0e8fd : ByteArray := prog_21_method_50_code
def yJ1_inflate_0e8fd : MethodName := ⟨RJ1, "inflate", "([BI[BII)V"⟩
def RJ2 : String := "java/lang/StringUTF16"
def TJ2 : u_T := fun k => match k with
  | _ => ("", "", "", false)
def tyJ2 : Nat → FieldType := fun k => match k with
  | _ => .int
abbrev wsJ20 : List Cond := u_ws RJ2 TJ2 0
theorem nmJ2 : ∀ a, a < 0 → ∀ b, b < 0 → a ≠ b → (TJ2 a).2.1 ≠ (TJ2 b).2.1 := by decide +kernel
theorem tyJ2_ok : ∀ k, k < 0 → parseFieldDescriptor (TJ2 k).2.2.1 = some (tyJ2 k) := by decide +kernel
abbrev cJ2_newBytesFor_77867 : ByteArray := prog_22_method_2_code
def yJ2_newBytesFor_77867 : MethodName := ⟨RJ2, "newBytesFor", "(I)[B"⟩
abbrev cJ2_newBytesLength_0f7a4 : ByteArray := prog_22_method_3_code
def yJ2_newBytesLength_0f7a4 : MethodName := ⟨RJ2, "newBytesLength", "(I)I"⟩
abbrev cJ2_putChar_b72d1 : ByteArray := prog_22_method_4_code
def yJ2_putChar_b72d1 : MethodName := ⟨RJ2, "putChar", "([BII)V"⟩
abbrev cJ2_getChar_3b067 : ByteArray := prog_22_method_5_code
def yJ2_getChar_3b067 : MethodName := ⟨RJ2, "getChar", "([BI)C"⟩
abbrev cJ2_length_9d52b : ByteArray := prog_22_method_6_code
def yJ2_length_9d52b : MethodName := ⟨RJ2, "length", "([B)I"⟩
abbrev cJ2_coderFromArrayLen_85cad : ByteArray := prog_22_method_15_code
def yJ2_coderFromArrayLen_85cad : MethodName := ⟨RJ2, "coderFromArrayLen", "([BI)B"⟩
abbrev cJ2_compress_39247 : ByteArray := prog_22_method_17_code
def yJ2_compress_39247 : MethodName := ⟨RJ2, "compress", "([BII)[B"⟩
abbrev cJ2_compress_5af95 : ByteArray := prog_22_method_22_code
def yJ2_compress_5af95 : MethodName := ⟨RJ2, "compress", "([BI[BII)I"⟩
abbrev cJ2_putCharSB_b72d1 : ByteArray := prog_22_method_71_code
def yJ2_putCharSB_b72d1 : MethodName := ⟨RJ2, "putCharSB", "([BII)V"⟩
abbrev cJ2_getChars_46870 : ByteArray := prog_22_method_77_code
def yJ2_getChars_46870 : MethodName := ⟨RJ2, "getChars", "(III[B)I"⟩
abbrev cJ2_putCharsAt_cd4e5 : ByteArray := prog_22_method_81_code
def yJ2_putCharsAt_cd4e5 : MethodName := ⟨RJ2, "putCharsAt", "([BICCCC)I"⟩
abbrev cJ2_inflate_0e8fd : ByteArray := prog_22_method_86_code
def yJ2_inflate_0e8fd : MethodName := ⟨RJ2, "inflate", "([BI[BII)V"⟩
abbrev cJ2_getChars_ba4f3 : ByteArray := prog_22_method_89_code
def yJ2_getChars_ba4f3 : MethodName := ⟨RJ2, "getChars", "(II[B)I"⟩
abbrev cJ2_checkIndex_2214a : ByteArray := prog_22_method_91_code
def yJ2_checkIndex_2214a : MethodName := ⟨RJ2, "checkIndex", "(I[B)V"⟩
abbrev cJ2_checkBoundsBeginEnd_d044e : ByteArray := prog_22_method_93_code
def yJ2_checkBoundsBeginEnd_d044e : MethodName := ⟨RJ2, "checkBoundsBeginEnd", "(II[B)V"⟩
abbrev cJ2_checkBoundsOffCount_d044e : ByteArray := prog_22_method_94_code
def yJ2_checkBoundsOffCount_d044e : MethodName := ⟨RJ2, "checkBoundsOffCount", "(II[B)V"⟩
def RJ10 : String := "java/lang/System"
def TJ10 : u_T := fun k => match k with
  | _ => ("", "", "", false)
def tyJ10 : Nat → FieldType := fun k => match k with
  | _ => .int
abbrev wsJ100 : List Cond := u_ws RJ10 TJ10 0
theorem nmJ10 : ∀ a, a < 0 → ∀ b, b < 0 → a ≠ b → (TJ10 a).2.1 ≠ (TJ10 b).2.1 := by decide +kernel
theorem tyJ10_ok : ∀ k, k < 0 → parseFieldDescriptor (TJ10 k).2.2.1 = some (tyJ10 k) := by decide +kernel
def RJ7 : String := "java/util/Arrays"
def TJ7 : u_T := fun k => match k with
  | _ => ("", "", "", false)
def tyJ7 : Nat → FieldType := fun k => match k with
  | _ => .int
abbrev wsJ70 : List Cond := u_ws RJ7 TJ7 0
theorem nmJ7 : ∀ a, a < 0 → ∀ b, b < 0 → a ≠ b → (TJ7 a).2.1 ≠ (TJ7 b).2.1 := by decide +kernel
theorem tyJ7_ok : ∀ k, k < 0 → parseFieldDescriptor (TJ7 k).2.2.1 = some (tyJ7 k) := by decide +kernel
abbrev cJ7_copyOf_9075b : ByteArray := prog_25_method_121_code
def yJ7_copyOf_9075b : MethodName := ⟨RJ7, "copyOf", "([BI)[B"⟩
abbrev cJ7_checkLength_df160 : ByteArray := prog_25_method_131_code
def yJ7_checkLength_df160 : MethodName := ⟨RJ7, "checkLength", "(II)V"⟩
abbrev cJ7_copyOfRange_39247 : ByteArray := prog_25_method_132_code
def yJ7_copyOfRange_39247 : MethodName := ⟨RJ7, "copyOfRange", "([BII)[B"⟩
abbrev cJ7_copyOfRangeByte_39247 : ByteArray := prog_25_method_133_code
def yJ7_copyOfRangeByte_39247 : MethodName := ⟨RJ7, "copyOfRangeByte", "([BII)[B"⟩
def RJ8 : String := "jdk/internal/util/ArraysSupport"
def TJ8 : u_T := fun k => match k with
  | _ => ("", "", "", false)
def tyJ8 : Nat → FieldType := fun k => match k with
  | _ => .int
abbrev wsJ80 : List Cond := u_ws RJ8 TJ8 0
theorem nmJ8 : ∀ a, a < 0 → ∀ b, b < 0 → a ≠ b → (TJ8 a).2.1 ≠ (TJ8 b).2.1 := by decide +kernel
theorem tyJ8_ok : ∀ k, k < 0 → parseFieldDescriptor (TJ8 k).2.2.1 = some (tyJ8 k) := by decide +kernel
abbrev cJ8_newLength_cabcc : ByteArray := prog_26_method_27_code
def yJ8_newLength_cabcc : MethodName := ⟨RJ8, "newLength", "(III)I"⟩
abbrev cJ8_hugeLength_7cf53 : ByteArray := prog_26_method_28_code
def yJ8_hugeLength_7cf53 : MethodName := ⟨RJ8, "hugeLength", "(II)I"⟩
def RJ3 : String := "jdk/internal/util/Preconditions"
def TJ3 : u_T := fun k => match k with
  | _ => ("", "", "", false)
def tyJ3 : Nat → FieldType := fun k => match k with
  | _ => .int
abbrev wsJ30 : List Cond := u_ws RJ3 TJ3 0
theorem nmJ3 : ∀ a, a < 0 → ∀ b, b < 0 → a ≠ b → (TJ3 a).2.1 ≠ (TJ3 b).2.1 := by decide +kernel
theorem tyJ3_ok : ∀ k, k < 0 → parseFieldDescriptor (TJ3 k).2.2.1 = some (tyJ3 k) := by decide +kernel
abbrev cJ3_checkIndex_8e157 : ByteArray := prog_27_method_11_code
def yJ3_checkIndex_8e157 : MethodName := ⟨RJ3, "checkIndex", "(IILjava/util/function/BiFunction;)I"⟩
abbrev cJ3_checkFromToIndex_8c36e : ByteArray := prog_27_method_12_code
def yJ3_checkFromToIndex_8c36e : MethodName := ⟨RJ3, "checkFromToIndex", "(IIILjava/util/function/BiFunction;)I"⟩
abbrev cJ3_checkFromIndexSize_8c36e : ByteArray := prog_27_method_13_code
def yJ3_checkFromIndexSize_8c36e : MethodName := ⟨RJ3, "checkFromIndexSize", "(IIILjava/util/function/BiFunction;)I"⟩
def RL : String := "WordgardenLaw"
abbrev cL_write : ByteArray := method_2_code
def yL_write : MethodName := ⟨RL, "write", "(LWordgarden;IILWordgardenLaw$Out;)I"⟩
abbrev cL_append : ByteArray := method_3_code
def yL_append : MethodName := ⟨RL, "append", "(LWordgarden;IILWordgardenLaw$Out;)I"⟩
abbrev cL_insertSign : ByteArray := method_4_code
def yL_insertSign : MethodName := ⟨RL, "insertSign", "(LWordgarden;IIZLWordgardenLaw$Out;)I"⟩
abbrev cL_insertSheet : ByteArray := method_5_code
def yL_insertSheet : MethodName := ⟨RL, "insertSheet", "(LWordgarden;IIILWordgardenLaw$Out;)I"⟩
abbrev cL_setSign : ByteArray := method_6_code
def yL_setSign : MethodName := ⟨RL, "setSign", "(LWordgarden;IIZLWordgardenLaw$Out;)I"⟩
abbrev cL_removeSign : ByteArray := method_7_code
def yL_removeSign : MethodName := ⟨RL, "removeSign", "(LWordgarden;IILWordgardenLaw$Out;)I"⟩
abbrev cL_remove : ByteArray := method_8_code
def yL_remove : MethodName := ⟨RL, "remove", "(LWordgarden;IIILWordgardenLaw$Out;)I"⟩
abbrev cL_replace : ByteArray := method_9_code
def yL_replace : MethodName := ⟨RL, "replace", "(LWordgarden;IIIILWordgardenLaw$Out;)I"⟩
abbrev cL_cutTo : ByteArray := method_10_code
def yL_cutTo : MethodName := ⟨RL, "cutTo", "(LWordgarden;IILWordgardenLaw$Out;)I"⟩
abbrev cL_turn : ByteArray := method_11_code
def yL_turn : MethodName := ⟨RL, "turn", "(LWordgarden;ILWordgardenLaw$Out;)I"⟩
abbrev cL_exchange : ByteArray := method_12_code
def yL_exchange : MethodName := ⟨RL, "exchange", "(LWordgarden;ILWordgardenLaw$Out;)I"⟩
abbrev cL_rotate : ByteArray := method_13_code
def yL_rotate : MethodName := ⟨RL, "rotate", "(LWordgarden;IILWordgardenLaw$Out;)I"⟩
abbrev cL_copy : ByteArray := method_14_code
def yL_copy : MethodName := ⟨RL, "copy", "(LWordgarden;IILWordgardenLaw$Out;)I"⟩
abbrev cL_apply : ByteArray := method_15_code
def yL_apply : MethodName := ⟨RL, "apply", "(LWordgarden;IIILWordgardenLaw$Out;)I"⟩
abbrev cL_undo : ByteArray := method_16_code
def yL_undo : MethodName := ⟨RL, "undo", "(LWordgarden;IIILWordgardenLaw$Out;)I"⟩
abbrev cL_lay : ByteArray := method_17_code
def yL_lay : MethodName := ⟨RL, "lay", "(LWordgarden;IIILWordgardenLaw$Out;)I"⟩
abbrev cL_twos : ByteArray := method_18_code
def yL_twos : MethodName := ⟨RL, "twos", "(LWordgarden;IIILWordgardenLaw$Out;)I"⟩
abbrev cL_line : ByteArray := method_19_code
def yL_line : MethodName := ⟨RL, "line", "(LWordgarden;IIIILWordgardenLaw$Out;)I"⟩
abbrev cL_grow : ByteArray := method_20_code
def yL_grow : MethodName := ⟨RL, "grow", "(LWordgarden;IILWordgardenLaw$Out;)I"⟩
abbrev cL_shrink : ByteArray := method_21_code
def yL_shrink : MethodName := ⟨RL, "shrink", "(LWordgarden;ILWordgardenLaw$Out;)I"⟩
abbrev cL_fresh : ByteArray := method_22_code
def yL_fresh : MethodName := ⟨RL, "fresh", "(LWordgarden;ILWordgardenLaw$Out;)I"⟩
abbrev cL_length : ByteArray := method_23_code
def yL_length : MethodName := ⟨RL, "length", "(LWordgarden;ILWordgardenLaw$Out;)I"⟩
abbrev cL_isB : ByteArray := method_24_code
def yL_isB : MethodName := ⟨RL, "isB", "(LWordgarden;IILWordgardenLaw$Out;)I"⟩
abbrev cL_text : ByteArray := method_25_code
def yL_text : MethodName := ⟨RL, "text", "(LWordgarden;ILWordgardenLaw$Out;)I"⟩
abbrev cL_count : ByteArray := method_26_code
def yL_count : MethodName := ⟨RL, "count", "(LWordgarden;IZLWordgardenLaw$Out;)I"⟩
abbrev cL_find : ByteArray := method_27_code
def yL_find : MethodName := ⟨RL, "find", "(LWordgarden;IIILWordgardenLaw$Out;)I"⟩
abbrev cL_findLast : ByteArray := method_28_code
def yL_findLast : MethodName := ⟨RL, "findLast", "(LWordgarden;IIILWordgardenLaw$Out;)I"⟩
abbrev cL_order : ByteArray := method_29_code
def yL_order : MethodName := ⟨RL, "order", "(LWordgarden;IILWordgardenLaw$Out;)I"⟩
abbrev cL_isMirrored : ByteArray := method_30_code
def yL_isMirrored : MethodName := ⟨RL, "isMirrored", "(LWordgarden;ILWordgardenLaw$Out;)I"⟩
abbrev cL_spread : ByteArray := method_31_code
def yL_spread : MethodName := ⟨RL, "spread", "(LWordgarden;IIZLWordgardenLaw$Out;)I"⟩
abbrev cL_kinds : ByteArray := method_32_code
def yL_kinds : MethodName := ⟨RL, "kinds", "(LWordgarden;IIZLWordgardenLaw$Out;)I"⟩
abbrev cL_times : ByteArray := method_33_code
def yL_times : MethodName := ⟨RL, "times", "(LWordgarden;ILWordgardenLaw$Out;)I"⟩
abbrev cL_overlaps : ByteArray := method_34_code
def yL_overlaps : MethodName := ⟨RL, "overlaps", "(LWordgarden;ILWordgardenLaw$Out;)I"⟩
abbrev cL_mirrors : ByteArray := method_35_code
def yL_mirrors : MethodName := ⟨RL, "mirrors", "(LWordgarden;ILWordgardenLaw$Out;)I"⟩
abbrev cL_folds : ByteArray := method_36_code
def yL_folds : MethodName := ⟨RL, "folds", "(LWordgarden;ILWordgardenLaw$Out;)I"⟩
abbrev cL_least : ByteArray := method_37_code
def yL_least : MethodName := ⟨RL, "least", "(LWordgarden;ILWordgardenLaw$Out;)I"⟩
abbrev cL_isApart : ByteArray := method_38_code
def yL_isApart : MethodName := ⟨RL, "isApart", "(LWordgarden;IILWordgardenLaw$Out;)I"⟩
abbrev cL_turns : ByteArray := method_39_code
def yL_turns : MethodName := ⟨RL, "turns", "(LWordgarden;ILWordgardenLaw$Out;)I"⟩
abbrev cL_grown : ByteArray := method_40_code
def yL_grown : MethodName := ⟨RL, "grown", "(LWordgarden;IZLWordgardenLaw$Out;)I"⟩
abbrev cL_size : ByteArray := method_41_code
def yL_size : MethodName := ⟨RL, "size", "(LWordgarden;IZLWordgardenLaw$Out;)I"⟩
abbrev cL_ups : ByteArray := method_42_code
def yL_ups : MethodName := ⟨RL, "ups", "(LWordgarden;IZLWordgardenLaw$Out;)I"⟩
abbrev cL_cross : ByteArray := method_43_code
def yL_cross : MethodName := ⟨RL, "cross", "(LWordgarden;ILWordgardenLaw$Out;)I"⟩
abbrev cL_alike : ByteArray := method_44_code
def yL_alike : MethodName := ⟨RL, "alike", "(LWordgarden;ILWordgardenLaw$Out;)I"⟩
abbrev cL_house : ByteArray := method_45_code
def yL_house : MethodName := ⟨RL, "house", "(LWordgarden;ILWordgardenLaw$Out;)I"⟩
abbrev cL_law : ByteArray := code
def yL_law : MethodName := ⟨RL, "law", "([I)Z"⟩
abbrev vwCl : List vw_C := [(RJ0, TJ0, 4), (RJ4, TJ4, 4), (RX0, TX0, 4), (RX2, TX2, 3), (RX4, TX4, 2), (RX5, TX5, 9), (RX6, TX6, 2), (RX7, TX7, 8)]
/-! An instruction out of its bytes, without walking the whole code. -/
def bA (c : ByteArray) (p : Nat) : Option Nat := if h : p < c.size then some c[p].toNat else none
theorem bA_list (c : ByteArray) (p : Nat) : bA c p = (c.data.toList[p]?).map UInt8.toNat := by
  unfold bA
  have hs : c.data.toList.length = c.size := by simp
  by_cases hp : p < c.size
  · rw [dif_pos hp, List.getElem?_eq_getElem (by rw [hs]; exact hp)]
    rfl
  · rw [dif_neg hp, List.getElem?_eq_none (by rw [hs]; omega)]
    rfl
theorem dr_step {l a t : List UInt8} {n : Nat} (h : l.drop n = a ++ t) (ha : a.length = 64) : l.drop (n + 64) = t := by
  have e : l.drop (n + 64) = (l.drop n).drop 64 := by rw [List.drop_drop]
  rw [e, h, ← ha, List.drop_left]
theorem gB {c : ByteArray} {a t : List UInt8} {n m p : Nat} (h : c.data.toList.drop n = a ++ t) (j : Nat) (hj : (a[j]?).map UInt8.toNat = some m) (hp : n + j = p) : bA c p = some m := by
  subst hp
  rw [bA_list, ← List.getElem?_drop, h]
  have l : j < a.length := by
    by_cases q : j < a.length
    · exact q
    · rw [List.getElem?_eq_none (by omega)] at hj; cases hj
  rw [List.getElem?_append_left l]
  exact hj
theorem u1_at {c : ByteArray} {p n : Nat} (h : bA c p = some n) : (Jvm.ClassFile.Reader.u1 : Jvm.ClassFile.Decoder Nat) c p = .ok (n, p + 1) := by
  unfold bA at h
  by_cases hp : p < c.size
  · rw [dif_pos hp] at h
    cases h
    show (if h : p < c.size then (do set (p + 1); pure c[p].toNat : Jvm.ClassFile.Decoder Nat) else throw _) c p = _
    rw [dif_pos hp]
    rfl
  · rw [dif_neg hp] at h; cases h
theorem bnd {α β : Type} {x : Jvm.ClassFile.Decoder α} {K : α → Jvm.ClassFile.Decoder β} {c : ByteArray} {q q' : Nat} {a : α} {r : Except Jvm.ClassFile.DecodeError (β × Nat)} (hx : x c q = .ok (a, q')) (hk : K a c q' = r) : (x >>= K) c q = r := by
  show Except.bind (x c q) (fun z => K z.1 c z.2) = r
  rw [hx]
  exact hk
theorem u2_at {c : ByteArray} {p a b : Nat} (h1 : bA c p = some a) (h2 : bA c (p + 1) = some b) : (Jvm.ClassFile.Reader.u2 : Jvm.ClassFile.Decoder Nat) c p = .ok (a * 256 + b, p + 2) := by
  unfold Jvm.ClassFile.Reader.u2
  exact bnd (u1_at h1) (bnd (u1_at h2) rfl)
theorem s1_at {c : ByteArray} {p a : Nat} (h1 : bA c p = some a) : (Jvm.ClassFile.Reader.s1 : Jvm.ClassFile.Decoder Int) c p = .ok (Jvm.ClassFile.Reader.signed 8 a, p + 1) := by
  show Except.map (fun z => (Jvm.ClassFile.Reader.signed 8 z.1, z.2)) ((Jvm.ClassFile.Reader.u1 : Jvm.ClassFile.Decoder Nat) c p) = _
  rw [u1_at h1]; rfl
theorem s2_at {c : ByteArray} {p a b : Nat} (h1 : bA c p = some a) (h2 : bA c (p + 1) = some b) : (Jvm.ClassFile.Reader.s2 : Jvm.ClassFile.Decoder Int) c p = .ok (Jvm.ClassFile.Reader.signed 16 (a * 256 + b), p + 2) := by
  show Except.map (fun z => (Jvm.ClassFile.Reader.signed 16 z.1, z.2)) ((Jvm.ClassFile.Reader.u2 : Jvm.ClassFile.Decoder Nat) c p) = _
  rw [u2_at h1 h2]; rfl
theorem dec_of {c : ByteArray} {p n : Nat} {i : Jvm.ClassFile.Instr} (e : Jvm.ClassFile.Decoder.instr p c p = .ok (i, p + n)) : decode c p = .ok (i, n) := by
  show Except.bind (Jvm.ClassFile.Decoder.instr p c p) (fun z => Except.ok (z.1, z.2 - p)) = _
  rw [e]
  show Except.ok (i, p + n - p) = _
  rw [Nat.add_sub_cancel_left]
section DEC
variable {c : ByteArray} {p a b d : Nat}
theorem dec_30 (h0 : bA c p = some 30) : decode c p = .ok ((Jvm.ClassFile.Instr.lload_n 0), 1) := by
  refine dec_of ?_
  unfold Jvm.ClassFile.Decoder.instr
  refine bnd (u1_at h0) ?_
  show (pure (Jvm.ClassFile.Instr.lload_n 0) : Jvm.ClassFile.Decoder Jvm.ClassFile.Instr) c (p + 1) = _
  rfl
theorem dec_31 (h0 : bA c p = some 31) : decode c p = .ok ((Jvm.ClassFile.Instr.lload_n 1), 1) := by
  refine dec_of ?_
  unfold Jvm.ClassFile.Decoder.instr
  refine bnd (u1_at h0) ?_
  show (pure (Jvm.ClassFile.Instr.lload_n 1) : Jvm.ClassFile.Decoder Jvm.ClassFile.Instr) c (p + 1) = _
  rfl
theorem dec_32 (h0 : bA c p = some 32) : decode c p = .ok ((Jvm.ClassFile.Instr.lload_n 2), 1) := by
  refine dec_of ?_
  unfold Jvm.ClassFile.Decoder.instr
  refine bnd (u1_at h0) ?_
  show (pure (Jvm.ClassFile.Instr.lload_n 2) : Jvm.ClassFile.Decoder Jvm.ClassFile.Instr) c (p + 1) = _
  rfl
theorem dec_33 (h0 : bA c p = some 33) : decode c p = .ok ((Jvm.ClassFile.Instr.lload_n 3), 1) := by
  refine dec_of ?_
  unfold Jvm.ClassFile.Decoder.instr
  refine bnd (u1_at h0) ?_
  show (pure (Jvm.ClassFile.Instr.lload_n 3) : Jvm.ClassFile.Decoder Jvm.ClassFile.Instr) c (p + 1) = _
  rfl
theorem dec_63 (h0 : bA c p = some 63) : decode c p = .ok ((Jvm.ClassFile.Instr.lstore_n 0), 1) := by
  refine dec_of ?_
  unfold Jvm.ClassFile.Decoder.instr
  refine bnd (u1_at h0) ?_
  show (pure (Jvm.ClassFile.Instr.lstore_n 0) : Jvm.ClassFile.Decoder Jvm.ClassFile.Instr) c (p + 1) = _
  rfl
theorem dec_64 (h0 : bA c p = some 64) : decode c p = .ok ((Jvm.ClassFile.Instr.lstore_n 1), 1) := by
  refine dec_of ?_
  unfold Jvm.ClassFile.Decoder.instr
  refine bnd (u1_at h0) ?_
  show (pure (Jvm.ClassFile.Instr.lstore_n 1) : Jvm.ClassFile.Decoder Jvm.ClassFile.Instr) c (p + 1) = _
  rfl
theorem dec_65 (h0 : bA c p = some 65) : decode c p = .ok ((Jvm.ClassFile.Instr.lstore_n 2), 1) := by
  refine dec_of ?_
  unfold Jvm.ClassFile.Decoder.instr
  refine bnd (u1_at h0) ?_
  show (pure (Jvm.ClassFile.Instr.lstore_n 2) : Jvm.ClassFile.Decoder Jvm.ClassFile.Instr) c (p + 1) = _
  rfl
theorem dec_66 (h0 : bA c p = some 66) : decode c p = .ok ((Jvm.ClassFile.Instr.lstore_n 3), 1) := by
  refine dec_of ?_
  unfold Jvm.ClassFile.Decoder.instr
  refine bnd (u1_at h0) ?_
  show (pure (Jvm.ClassFile.Instr.lstore_n 3) : Jvm.ClassFile.Decoder Jvm.ClassFile.Instr) c (p + 1) = _
  rfl
theorem dec_9 (h0 : bA c p = some 9) : decode c p = .ok ((Jvm.ClassFile.Instr.lconst 0), 1) := by
  refine dec_of ?_
  unfold Jvm.ClassFile.Decoder.instr
  refine bnd (u1_at h0) ?_
  show (pure (Jvm.ClassFile.Instr.lconst 0) : Jvm.ClassFile.Decoder Jvm.ClassFile.Instr) c (p + 1) = _
  rfl
theorem dec_10 (h0 : bA c p = some 10) : decode c p = .ok ((Jvm.ClassFile.Instr.lconst 1), 1) := by
  refine dec_of ?_
  unfold Jvm.ClassFile.Decoder.instr
  refine bnd (u1_at h0) ?_
  show (pure (Jvm.ClassFile.Instr.lconst 1) : Jvm.ClassFile.Decoder Jvm.ClassFile.Instr) c (p + 1) = _
  rfl
theorem dec_42 (h0 : bA c p = some 42) : decode c p = .ok ((Jvm.ClassFile.Instr.aload_n 0), 1) := by
  refine dec_of ?_
  unfold Jvm.ClassFile.Decoder.instr
  refine bnd (u1_at h0) ?_
  show (pure (Jvm.ClassFile.Instr.aload_n 0) : Jvm.ClassFile.Decoder Jvm.ClassFile.Instr) c (p + 1) = _
  rfl
theorem dec_43 (h0 : bA c p = some 43) : decode c p = .ok ((Jvm.ClassFile.Instr.aload_n 1), 1) := by
  refine dec_of ?_
  unfold Jvm.ClassFile.Decoder.instr
  refine bnd (u1_at h0) ?_
  show (pure (Jvm.ClassFile.Instr.aload_n 1) : Jvm.ClassFile.Decoder Jvm.ClassFile.Instr) c (p + 1) = _
  rfl
theorem dec_44 (h0 : bA c p = some 44) : decode c p = .ok ((Jvm.ClassFile.Instr.aload_n 2), 1) := by
  refine dec_of ?_
  unfold Jvm.ClassFile.Decoder.instr
  refine bnd (u1_at h0) ?_
  show (pure (Jvm.ClassFile.Instr.aload_n 2) : Jvm.ClassFile.Decoder Jvm.ClassFile.Instr) c (p + 1) = _
  rfl
theorem dec_45 (h0 : bA c p = some 45) : decode c p = .ok ((Jvm.ClassFile.Instr.aload_n 3), 1) := by
  refine dec_of ?_
  unfold Jvm.ClassFile.Decoder.instr
  refine bnd (u1_at h0) ?_
  show (pure (Jvm.ClassFile.Instr.aload_n 3) : Jvm.ClassFile.Decoder Jvm.ClassFile.Instr) c (p + 1) = _
  rfl
theorem dec_26 (h0 : bA c p = some 26) : decode c p = .ok ((Jvm.ClassFile.Instr.iload_n 0), 1) := by
  refine dec_of ?_
  unfold Jvm.ClassFile.Decoder.instr
  refine bnd (u1_at h0) ?_
  show (pure (Jvm.ClassFile.Instr.iload_n 0) : Jvm.ClassFile.Decoder Jvm.ClassFile.Instr) c (p + 1) = _
  rfl
theorem dec_27 (h0 : bA c p = some 27) : decode c p = .ok ((Jvm.ClassFile.Instr.iload_n 1), 1) := by
  refine dec_of ?_
  unfold Jvm.ClassFile.Decoder.instr
  refine bnd (u1_at h0) ?_
  show (pure (Jvm.ClassFile.Instr.iload_n 1) : Jvm.ClassFile.Decoder Jvm.ClassFile.Instr) c (p + 1) = _
  rfl
theorem dec_28 (h0 : bA c p = some 28) : decode c p = .ok ((Jvm.ClassFile.Instr.iload_n 2), 1) := by
  refine dec_of ?_
  unfold Jvm.ClassFile.Decoder.instr
  refine bnd (u1_at h0) ?_
  show (pure (Jvm.ClassFile.Instr.iload_n 2) : Jvm.ClassFile.Decoder Jvm.ClassFile.Instr) c (p + 1) = _
  rfl
theorem dec_29 (h0 : bA c p = some 29) : decode c p = .ok ((Jvm.ClassFile.Instr.iload_n 3), 1) := by
  refine dec_of ?_
  unfold Jvm.ClassFile.Decoder.instr
  refine bnd (u1_at h0) ?_
  show (pure (Jvm.ClassFile.Instr.iload_n 3) : Jvm.ClassFile.Decoder Jvm.ClassFile.Instr) c (p + 1) = _
  rfl
theorem dec_2 (h0 : bA c p = some 2) : decode c p = .ok ((Jvm.ClassFile.Instr.iconst (-1)), 1) := by
  refine dec_of ?_
  unfold Jvm.ClassFile.Decoder.instr
  refine bnd (u1_at h0) ?_
  show (pure (Jvm.ClassFile.Instr.iconst (-1)) : Jvm.ClassFile.Decoder Jvm.ClassFile.Instr) c (p + 1) = _
  rfl
theorem dec_3 (h0 : bA c p = some 3) : decode c p = .ok ((Jvm.ClassFile.Instr.iconst 0), 1) := by
  refine dec_of ?_
  unfold Jvm.ClassFile.Decoder.instr
  refine bnd (u1_at h0) ?_
  show (pure (Jvm.ClassFile.Instr.iconst 0) : Jvm.ClassFile.Decoder Jvm.ClassFile.Instr) c (p + 1) = _
  rfl
theorem dec_4 (h0 : bA c p = some 4) : decode c p = .ok ((Jvm.ClassFile.Instr.iconst 1), 1) := by
  refine dec_of ?_
  unfold Jvm.ClassFile.Decoder.instr
  refine bnd (u1_at h0) ?_
  show (pure (Jvm.ClassFile.Instr.iconst 1) : Jvm.ClassFile.Decoder Jvm.ClassFile.Instr) c (p + 1) = _
  rfl
theorem dec_5 (h0 : bA c p = some 5) : decode c p = .ok ((Jvm.ClassFile.Instr.iconst 2), 1) := by
  refine dec_of ?_
  unfold Jvm.ClassFile.Decoder.instr
  refine bnd (u1_at h0) ?_
  show (pure (Jvm.ClassFile.Instr.iconst 2) : Jvm.ClassFile.Decoder Jvm.ClassFile.Instr) c (p + 1) = _
  rfl
theorem dec_6 (h0 : bA c p = some 6) : decode c p = .ok ((Jvm.ClassFile.Instr.iconst 3), 1) := by
  refine dec_of ?_
  unfold Jvm.ClassFile.Decoder.instr
  refine bnd (u1_at h0) ?_
  show (pure (Jvm.ClassFile.Instr.iconst 3) : Jvm.ClassFile.Decoder Jvm.ClassFile.Instr) c (p + 1) = _
  rfl
theorem dec_7 (h0 : bA c p = some 7) : decode c p = .ok ((Jvm.ClassFile.Instr.iconst 4), 1) := by
  refine dec_of ?_
  unfold Jvm.ClassFile.Decoder.instr
  refine bnd (u1_at h0) ?_
  show (pure (Jvm.ClassFile.Instr.iconst 4) : Jvm.ClassFile.Decoder Jvm.ClassFile.Instr) c (p + 1) = _
  rfl
theorem dec_8 (h0 : bA c p = some 8) : decode c p = .ok ((Jvm.ClassFile.Instr.iconst 5), 1) := by
  refine dec_of ?_
  unfold Jvm.ClassFile.Decoder.instr
  refine bnd (u1_at h0) ?_
  show (pure (Jvm.ClassFile.Instr.iconst 5) : Jvm.ClassFile.Decoder Jvm.ClassFile.Instr) c (p + 1) = _
  rfl
theorem dec_75 (h0 : bA c p = some 75) : decode c p = .ok ((Jvm.ClassFile.Instr.astore_n 0), 1) := by
  refine dec_of ?_
  unfold Jvm.ClassFile.Decoder.instr
  refine bnd (u1_at h0) ?_
  show (pure (Jvm.ClassFile.Instr.astore_n 0) : Jvm.ClassFile.Decoder Jvm.ClassFile.Instr) c (p + 1) = _
  rfl
theorem dec_76 (h0 : bA c p = some 76) : decode c p = .ok ((Jvm.ClassFile.Instr.astore_n 1), 1) := by
  refine dec_of ?_
  unfold Jvm.ClassFile.Decoder.instr
  refine bnd (u1_at h0) ?_
  show (pure (Jvm.ClassFile.Instr.astore_n 1) : Jvm.ClassFile.Decoder Jvm.ClassFile.Instr) c (p + 1) = _
  rfl
theorem dec_77 (h0 : bA c p = some 77) : decode c p = .ok ((Jvm.ClassFile.Instr.astore_n 2), 1) := by
  refine dec_of ?_
  unfold Jvm.ClassFile.Decoder.instr
  refine bnd (u1_at h0) ?_
  show (pure (Jvm.ClassFile.Instr.astore_n 2) : Jvm.ClassFile.Decoder Jvm.ClassFile.Instr) c (p + 1) = _
  rfl
theorem dec_78 (h0 : bA c p = some 78) : decode c p = .ok ((Jvm.ClassFile.Instr.astore_n 3), 1) := by
  refine dec_of ?_
  unfold Jvm.ClassFile.Decoder.instr
  refine bnd (u1_at h0) ?_
  show (pure (Jvm.ClassFile.Instr.astore_n 3) : Jvm.ClassFile.Decoder Jvm.ClassFile.Instr) c (p + 1) = _
  rfl
theorem dec_59 (h0 : bA c p = some 59) : decode c p = .ok ((Jvm.ClassFile.Instr.istore_n 0), 1) := by
  refine dec_of ?_
  unfold Jvm.ClassFile.Decoder.instr
  refine bnd (u1_at h0) ?_
  show (pure (Jvm.ClassFile.Instr.istore_n 0) : Jvm.ClassFile.Decoder Jvm.ClassFile.Instr) c (p + 1) = _
  rfl
theorem dec_60 (h0 : bA c p = some 60) : decode c p = .ok ((Jvm.ClassFile.Instr.istore_n 1), 1) := by
  refine dec_of ?_
  unfold Jvm.ClassFile.Decoder.instr
  refine bnd (u1_at h0) ?_
  show (pure (Jvm.ClassFile.Instr.istore_n 1) : Jvm.ClassFile.Decoder Jvm.ClassFile.Instr) c (p + 1) = _
  rfl
theorem dec_61 (h0 : bA c p = some 61) : decode c p = .ok ((Jvm.ClassFile.Instr.istore_n 2), 1) := by
  refine dec_of ?_
  unfold Jvm.ClassFile.Decoder.instr
  refine bnd (u1_at h0) ?_
  show (pure (Jvm.ClassFile.Instr.istore_n 2) : Jvm.ClassFile.Decoder Jvm.ClassFile.Instr) c (p + 1) = _
  rfl
theorem dec_62 (h0 : bA c p = some 62) : decode c p = .ok ((Jvm.ClassFile.Instr.istore_n 3), 1) := by
  refine dec_of ?_
  unfold Jvm.ClassFile.Decoder.instr
  refine bnd (u1_at h0) ?_
  show (pure (Jvm.ClassFile.Instr.istore_n 3) : Jvm.ClassFile.Decoder Jvm.ClassFile.Instr) c (p + 1) = _
  rfl
theorem dec_46 (h0 : bA c p = some 46) : decode c p = .ok ((Jvm.ClassFile.Instr.iaload), 1) := by
  refine dec_of ?_
  unfold Jvm.ClassFile.Decoder.instr
  refine bnd (u1_at h0) ?_
  show (pure (Jvm.ClassFile.Instr.iaload) : Jvm.ClassFile.Decoder Jvm.ClassFile.Instr) c (p + 1) = _
  rfl
theorem dec_87 (h0 : bA c p = some 87) : decode c p = .ok ((Jvm.ClassFile.Instr.pop), 1) := by
  refine dec_of ?_
  unfold Jvm.ClassFile.Decoder.instr
  refine bnd (u1_at h0) ?_
  show (pure (Jvm.ClassFile.Instr.pop) : Jvm.ClassFile.Decoder Jvm.ClassFile.Instr) c (p + 1) = _
  rfl
theorem dec_88 (h0 : bA c p = some 88) : decode c p = .ok ((Jvm.ClassFile.Instr.pop2), 1) := by
  refine dec_of ?_
  unfold Jvm.ClassFile.Decoder.instr
  refine bnd (u1_at h0) ?_
  show (pure (Jvm.ClassFile.Instr.pop2) : Jvm.ClassFile.Decoder Jvm.ClassFile.Instr) c (p + 1) = _
  rfl
theorem dec_89 (h0 : bA c p = some 89) : decode c p = .ok ((Jvm.ClassFile.Instr.dup), 1) := by
  refine dec_of ?_
  unfold Jvm.ClassFile.Decoder.instr
  refine bnd (u1_at h0) ?_
  show (pure (Jvm.ClassFile.Instr.dup) : Jvm.ClassFile.Decoder Jvm.ClassFile.Instr) c (p + 1) = _
  rfl
theorem dec_96 (h0 : bA c p = some 96) : decode c p = .ok ((Jvm.ClassFile.Instr.iadd), 1) := by
  refine dec_of ?_
  unfold Jvm.ClassFile.Decoder.instr
  refine bnd (u1_at h0) ?_
  show (pure (Jvm.ClassFile.Instr.iadd) : Jvm.ClassFile.Decoder Jvm.ClassFile.Instr) c (p + 1) = _
  rfl
theorem dec_100 (h0 : bA c p = some 100) : decode c p = .ok ((Jvm.ClassFile.Instr.isub), 1) := by
  refine dec_of ?_
  unfold Jvm.ClassFile.Decoder.instr
  refine bnd (u1_at h0) ?_
  show (pure (Jvm.ClassFile.Instr.isub) : Jvm.ClassFile.Decoder Jvm.ClassFile.Instr) c (p + 1) = _
  rfl
theorem dec_104 (h0 : bA c p = some 104) : decode c p = .ok ((Jvm.ClassFile.Instr.imul), 1) := by
  refine dec_of ?_
  unfold Jvm.ClassFile.Decoder.instr
  refine bnd (u1_at h0) ?_
  show (pure (Jvm.ClassFile.Instr.imul) : Jvm.ClassFile.Decoder Jvm.ClassFile.Instr) c (p + 1) = _
  rfl
theorem dec_126 (h0 : bA c p = some 126) : decode c p = .ok ((Jvm.ClassFile.Instr.iand), 1) := by
  refine dec_of ?_
  unfold Jvm.ClassFile.Decoder.instr
  refine bnd (u1_at h0) ?_
  show (pure (Jvm.ClassFile.Instr.iand) : Jvm.ClassFile.Decoder Jvm.ClassFile.Instr) c (p + 1) = _
  rfl
theorem dec_133 (h0 : bA c p = some 133) : decode c p = .ok ((Jvm.ClassFile.Instr.i2l), 1) := by
  refine dec_of ?_
  unfold Jvm.ClassFile.Decoder.instr
  refine bnd (u1_at h0) ?_
  show (pure (Jvm.ClassFile.Instr.i2l) : Jvm.ClassFile.Decoder Jvm.ClassFile.Instr) c (p + 1) = _
  rfl
theorem dec_148 (h0 : bA c p = some 148) : decode c p = .ok ((Jvm.ClassFile.Instr.lcmp), 1) := by
  refine dec_of ?_
  unfold Jvm.ClassFile.Decoder.instr
  refine bnd (u1_at h0) ?_
  show (pure (Jvm.ClassFile.Instr.lcmp) : Jvm.ClassFile.Decoder Jvm.ClassFile.Instr) c (p + 1) = _
  rfl
theorem dec_172 (h0 : bA c p = some 172) : decode c p = .ok ((Jvm.ClassFile.Instr.ireturn), 1) := by
  refine dec_of ?_
  unfold Jvm.ClassFile.Decoder.instr
  refine bnd (u1_at h0) ?_
  show (pure (Jvm.ClassFile.Instr.ireturn) : Jvm.ClassFile.Decoder Jvm.ClassFile.Instr) c (p + 1) = _
  rfl
theorem dec_190 (h0 : bA c p = some 190) : decode c p = .ok ((Jvm.ClassFile.Instr.arraylength), 1) := by
  refine dec_of ?_
  unfold Jvm.ClassFile.Decoder.instr
  refine bnd (u1_at h0) ?_
  show (pure (Jvm.ClassFile.Instr.arraylength) : Jvm.ClassFile.Decoder Jvm.ClassFile.Instr) c (p + 1) = _
  rfl
theorem dec_50 (h0 : bA c p = some 50) : decode c p = .ok ((Jvm.ClassFile.Instr.aaload), 1) := by
  refine dec_of ?_
  unfold Jvm.ClassFile.Decoder.instr
  refine bnd (u1_at h0) ?_
  show (pure (Jvm.ClassFile.Instr.aaload) : Jvm.ClassFile.Decoder Jvm.ClassFile.Instr) c (p + 1) = _
  rfl
theorem dec_177 (h0 : bA c p = some 177) : decode c p = .ok ((Jvm.ClassFile.Instr.return_), 1) := by
  refine dec_of ?_
  unfold Jvm.ClassFile.Decoder.instr
  refine bnd (u1_at h0) ?_
  show (pure (Jvm.ClassFile.Instr.return_) : Jvm.ClassFile.Decoder Jvm.ClassFile.Instr) c (p + 1) = _
  rfl
theorem dec_176 (h0 : bA c p = some 176) : decode c p = .ok ((Jvm.ClassFile.Instr.areturn), 1) := by
  refine dec_of ?_
  unfold Jvm.ClassFile.Decoder.instr
  refine bnd (u1_at h0) ?_
  show (pure (Jvm.ClassFile.Instr.areturn) : Jvm.ClassFile.Decoder Jvm.ClassFile.Instr) c (p + 1) = _
  rfl
theorem dec_79 (h0 : bA c p = some 79) : decode c p = .ok ((Jvm.ClassFile.Instr.iastore), 1) := by
  refine dec_of ?_
  unfold Jvm.ClassFile.Decoder.instr
  refine bnd (u1_at h0) ?_
  show (pure (Jvm.ClassFile.Instr.iastore) : Jvm.ClassFile.Decoder Jvm.ClassFile.Instr) c (p + 1) = _
  rfl
theorem dec_191 (h0 : bA c p = some 191) : decode c p = .ok ((Jvm.ClassFile.Instr.athrow), 1) := by
  refine dec_of ?_
  unfold Jvm.ClassFile.Decoder.instr
  refine bnd (u1_at h0) ?_
  show (pure (Jvm.ClassFile.Instr.athrow) : Jvm.ClassFile.Decoder Jvm.ClassFile.Instr) c (p + 1) = _
  rfl
theorem dec_112 (h0 : bA c p = some 112) : decode c p = .ok ((Jvm.ClassFile.Instr.irem), 1) := by
  refine dec_of ?_
  unfold Jvm.ClassFile.Decoder.instr
  refine bnd (u1_at h0) ?_
  show (pure (Jvm.ClassFile.Instr.irem) : Jvm.ClassFile.Decoder Jvm.ClassFile.Instr) c (p + 1) = _
  rfl
theorem dec_84 (h0 : bA c p = some 84) : decode c p = .ok ((Jvm.ClassFile.Instr.bastore), 1) := by
  refine dec_of ?_
  unfold Jvm.ClassFile.Decoder.instr
  refine bnd (u1_at h0) ?_
  show (pure (Jvm.ClassFile.Instr.bastore) : Jvm.ClassFile.Decoder Jvm.ClassFile.Instr) c (p + 1) = _
  rfl
theorem dec_120 (h0 : bA c p = some 120) : decode c p = .ok ((Jvm.ClassFile.Instr.ishl), 1) := by
  refine dec_of ?_
  unfold Jvm.ClassFile.Decoder.instr
  refine bnd (u1_at h0) ?_
  show (pure (Jvm.ClassFile.Instr.ishl) : Jvm.ClassFile.Decoder Jvm.ClassFile.Instr) c (p + 1) = _
  rfl
theorem dec_51 (h0 : bA c p = some 51) : decode c p = .ok ((Jvm.ClassFile.Instr.baload), 1) := by
  refine dec_of ?_
  unfold Jvm.ClassFile.Decoder.instr
  refine bnd (u1_at h0) ?_
  show (pure (Jvm.ClassFile.Instr.baload) : Jvm.ClassFile.Decoder Jvm.ClassFile.Instr) c (p + 1) = _
  rfl
theorem dec_122 (h0 : bA c p = some 122) : decode c p = .ok ((Jvm.ClassFile.Instr.ishr), 1) := by
  refine dec_of ?_
  unfold Jvm.ClassFile.Decoder.instr
  refine bnd (u1_at h0) ?_
  show (pure (Jvm.ClassFile.Instr.ishr) : Jvm.ClassFile.Decoder Jvm.ClassFile.Instr) c (p + 1) = _
  rfl
theorem dec_83 (h0 : bA c p = some 83) : decode c p = .ok ((Jvm.ClassFile.Instr.aastore), 1) := by
  refine dec_of ?_
  unfold Jvm.ClassFile.Decoder.instr
  refine bnd (u1_at h0) ?_
  show (pure (Jvm.ClassFile.Instr.aastore) : Jvm.ClassFile.Decoder Jvm.ClassFile.Instr) c (p + 1) = _
  rfl
theorem dec_173 (h0 : bA c p = some 173) : decode c p = .ok ((Jvm.ClassFile.Instr.lreturn), 1) := by
  refine dec_of ?_
  unfold Jvm.ClassFile.Decoder.instr
  refine bnd (u1_at h0) ?_
  show (pure (Jvm.ClassFile.Instr.lreturn) : Jvm.ClassFile.Decoder Jvm.ClassFile.Instr) c (p + 1) = _
  rfl
theorem dec_116 (h0 : bA c p = some 116) : decode c p = .ok ((Jvm.ClassFile.Instr.ineg), 1) := by
  refine dec_of ?_
  unfold Jvm.ClassFile.Decoder.instr
  refine bnd (u1_at h0) ?_
  show (pure (Jvm.ClassFile.Instr.ineg) : Jvm.ClassFile.Decoder Jvm.ClassFile.Instr) c (p + 1) = _
  rfl
theorem dec_124 (h0 : bA c p = some 124) : decode c p = .ok ((Jvm.ClassFile.Instr.iushr), 1) := by
  refine dec_of ?_
  unfold Jvm.ClassFile.Decoder.instr
  refine bnd (u1_at h0) ?_
  show (pure (Jvm.ClassFile.Instr.iushr) : Jvm.ClassFile.Decoder Jvm.ClassFile.Instr) c (p + 1) = _
  rfl
theorem dec_108 (h0 : bA c p = some 108) : decode c p = .ok ((Jvm.ClassFile.Instr.idiv), 1) := by
  refine dec_of ?_
  unfold Jvm.ClassFile.Decoder.instr
  refine bnd (u1_at h0) ?_
  show (pure (Jvm.ClassFile.Instr.idiv) : Jvm.ClassFile.Decoder Jvm.ClassFile.Instr) c (p + 1) = _
  rfl
theorem dec_145 (h0 : bA c p = some 145) : decode c p = .ok ((Jvm.ClassFile.Instr.i2b), 1) := by
  refine dec_of ?_
  unfold Jvm.ClassFile.Decoder.instr
  refine bnd (u1_at h0) ?_
  show (pure (Jvm.ClassFile.Instr.i2b) : Jvm.ClassFile.Decoder Jvm.ClassFile.Instr) c (p + 1) = _
  rfl
theorem dec_128 (h0 : bA c p = some 128) : decode c p = .ok ((Jvm.ClassFile.Instr.ior), 1) := by
  refine dec_of ?_
  unfold Jvm.ClassFile.Decoder.instr
  refine bnd (u1_at h0) ?_
  show (pure (Jvm.ClassFile.Instr.ior) : Jvm.ClassFile.Decoder Jvm.ClassFile.Instr) c (p + 1) = _
  rfl
theorem dec_105 (h0 : bA c p = some 105) : decode c p = .ok ((Jvm.ClassFile.Instr.lmul), 1) := by
  refine dec_of ?_
  unfold Jvm.ClassFile.Decoder.instr
  refine bnd (u1_at h0) ?_
  show (pure (Jvm.ClassFile.Instr.lmul) : Jvm.ClassFile.Decoder Jvm.ClassFile.Instr) c (p + 1) = _
  rfl
theorem dec_97 (h0 : bA c p = some 97) : decode c p = .ok ((Jvm.ClassFile.Instr.ladd), 1) := by
  refine dec_of ?_
  unfold Jvm.ClassFile.Decoder.instr
  refine bnd (u1_at h0) ?_
  show (pure (Jvm.ClassFile.Instr.ladd) : Jvm.ClassFile.Decoder Jvm.ClassFile.Instr) c (p + 1) = _
  rfl
theorem dec_90 (h0 : bA c p = some 90) : decode c p = .ok ((Jvm.ClassFile.Instr.dup_x1), 1) := by
  refine dec_of ?_
  unfold Jvm.ClassFile.Decoder.instr
  refine bnd (u1_at h0) ?_
  show (pure (Jvm.ClassFile.Instr.dup_x1) : Jvm.ClassFile.Decoder Jvm.ClassFile.Instr) c (p + 1) = _
  rfl
theorem dec_92 (h0 : bA c p = some 92) : decode c p = .ok ((Jvm.ClassFile.Instr.dup2), 1) := by
  refine dec_of ?_
  unfold Jvm.ClassFile.Decoder.instr
  refine bnd (u1_at h0) ?_
  show (pure (Jvm.ClassFile.Instr.dup2) : Jvm.ClassFile.Decoder Jvm.ClassFile.Instr) c (p + 1) = _
  rfl
theorem dec_18 (h0 : bA c p = some 18) (h1 : bA c (p + 1) = some a) : decode c p = .ok ((Jvm.ClassFile.Instr.ldc a), 2) := by
  refine dec_of ?_
  unfold Jvm.ClassFile.Decoder.instr
  refine bnd (u1_at h0) ?_
  show (Jvm.ClassFile.Reader.u1 >>= fun x => pure (Jvm.ClassFile.Instr.ldc x) : Jvm.ClassFile.Decoder Jvm.ClassFile.Instr) c (p + 1) = _
  exact bnd (u1_at h1) rfl
theorem dec_22 (h0 : bA c p = some 22) (h1 : bA c (p + 1) = some a) : decode c p = .ok ((Jvm.ClassFile.Instr.lload a), 2) := by
  refine dec_of ?_
  unfold Jvm.ClassFile.Decoder.instr
  refine bnd (u1_at h0) ?_
  show (Jvm.ClassFile.Reader.u1 >>= fun x => pure (Jvm.ClassFile.Instr.lload x) : Jvm.ClassFile.Decoder Jvm.ClassFile.Instr) c (p + 1) = _
  exact bnd (u1_at h1) rfl
theorem dec_55 (h0 : bA c p = some 55) (h1 : bA c (p + 1) = some a) : decode c p = .ok ((Jvm.ClassFile.Instr.lstore a), 2) := by
  refine dec_of ?_
  unfold Jvm.ClassFile.Decoder.instr
  refine bnd (u1_at h0) ?_
  show (Jvm.ClassFile.Reader.u1 >>= fun x => pure (Jvm.ClassFile.Instr.lstore x) : Jvm.ClassFile.Decoder Jvm.ClassFile.Instr) c (p + 1) = _
  exact bnd (u1_at h1) rfl
theorem dec_21 (h0 : bA c p = some 21) (h1 : bA c (p + 1) = some a) : decode c p = .ok ((Jvm.ClassFile.Instr.iload a), 2) := by
  refine dec_of ?_
  unfold Jvm.ClassFile.Decoder.instr
  refine bnd (u1_at h0) ?_
  show (Jvm.ClassFile.Reader.u1 >>= fun x => pure (Jvm.ClassFile.Instr.iload x) : Jvm.ClassFile.Decoder Jvm.ClassFile.Instr) c (p + 1) = _
  exact bnd (u1_at h1) rfl
theorem dec_25 (h0 : bA c p = some 25) (h1 : bA c (p + 1) = some a) : decode c p = .ok ((Jvm.ClassFile.Instr.aload a), 2) := by
  refine dec_of ?_
  unfold Jvm.ClassFile.Decoder.instr
  refine bnd (u1_at h0) ?_
  show (Jvm.ClassFile.Reader.u1 >>= fun x => pure (Jvm.ClassFile.Instr.aload x) : Jvm.ClassFile.Decoder Jvm.ClassFile.Instr) c (p + 1) = _
  exact bnd (u1_at h1) rfl
theorem dec_54 (h0 : bA c p = some 54) (h1 : bA c (p + 1) = some a) : decode c p = .ok ((Jvm.ClassFile.Instr.istore a), 2) := by
  refine dec_of ?_
  unfold Jvm.ClassFile.Decoder.instr
  refine bnd (u1_at h0) ?_
  show (Jvm.ClassFile.Reader.u1 >>= fun x => pure (Jvm.ClassFile.Instr.istore x) : Jvm.ClassFile.Decoder Jvm.ClassFile.Instr) c (p + 1) = _
  exact bnd (u1_at h1) rfl
theorem dec_58 (h0 : bA c p = some 58) (h1 : bA c (p + 1) = some a) : decode c p = .ok ((Jvm.ClassFile.Instr.astore a), 2) := by
  refine dec_of ?_
  unfold Jvm.ClassFile.Decoder.instr
  refine bnd (u1_at h0) ?_
  show (Jvm.ClassFile.Reader.u1 >>= fun x => pure (Jvm.ClassFile.Instr.astore x) : Jvm.ClassFile.Decoder Jvm.ClassFile.Instr) c (p + 1) = _
  exact bnd (u1_at h1) rfl
theorem dec_16 (h0 : bA c p = some 16) (h1 : bA c (p + 1) = some a) : decode c p = .ok (Jvm.ClassFile.Instr.bipush (Jvm.ClassFile.Reader.signed 8 a), 2) := by
  refine dec_of ?_
  unfold Jvm.ClassFile.Decoder.instr
  refine bnd (u1_at h0) ?_
  show (Jvm.ClassFile.Reader.s1 >>= fun x => pure (Jvm.ClassFile.Instr.bipush x) : Jvm.ClassFile.Decoder Jvm.ClassFile.Instr) c (p + 1) = _
  exact bnd (s1_at h1) rfl
theorem dec_19 (h0 : bA c p = some 19) (h1 : bA c (p + 1) = some a) (h2 : bA c (p + 1 + 1) = some b) : decode c p = .ok (Jvm.ClassFile.Instr.ldc_w (a * 256 + b), 3) := by
  refine dec_of ?_
  unfold Jvm.ClassFile.Decoder.instr
  refine bnd (u1_at h0) ?_
  show (Jvm.ClassFile.Reader.u2 >>= fun x => pure (Jvm.ClassFile.Instr.ldc_w x) : Jvm.ClassFile.Decoder Jvm.ClassFile.Instr) c (p + 1) = _
  exact bnd (u2_at h1 h2) rfl
theorem dec_20 (h0 : bA c p = some 20) (h1 : bA c (p + 1) = some a) (h2 : bA c (p + 1 + 1) = some b) : decode c p = .ok (Jvm.ClassFile.Instr.ldc2_w (a * 256 + b), 3) := by
  refine dec_of ?_
  unfold Jvm.ClassFile.Decoder.instr
  refine bnd (u1_at h0) ?_
  show (Jvm.ClassFile.Reader.u2 >>= fun x => pure (Jvm.ClassFile.Instr.ldc2_w x) : Jvm.ClassFile.Decoder Jvm.ClassFile.Instr) c (p + 1) = _
  exact bnd (u2_at h1 h2) rfl
theorem dec_189 (h0 : bA c p = some 189) (h1 : bA c (p + 1) = some a) (h2 : bA c (p + 1 + 1) = some b) : decode c p = .ok (Jvm.ClassFile.Instr.anewarray (a * 256 + b), 3) := by
  refine dec_of ?_
  unfold Jvm.ClassFile.Decoder.instr
  refine bnd (u1_at h0) ?_
  show (Jvm.ClassFile.Reader.u2 >>= fun x => pure (Jvm.ClassFile.Instr.anewarray x) : Jvm.ClassFile.Decoder Jvm.ClassFile.Instr) c (p + 1) = _
  exact bnd (u2_at h1 h2) rfl
theorem dec_192 (h0 : bA c p = some 192) (h1 : bA c (p + 1) = some a) (h2 : bA c (p + 1 + 1) = some b) : decode c p = .ok (Jvm.ClassFile.Instr.checkcast (a * 256 + b), 3) := by
  refine dec_of ?_
  unfold Jvm.ClassFile.Decoder.instr
  refine bnd (u1_at h0) ?_
  show (Jvm.ClassFile.Reader.u2 >>= fun x => pure (Jvm.ClassFile.Instr.checkcast x) : Jvm.ClassFile.Decoder Jvm.ClassFile.Instr) c (p + 1) = _
  exact bnd (u2_at h1 h2) rfl
theorem dec_178 (h0 : bA c p = some 178) (h1 : bA c (p + 1) = some a) (h2 : bA c (p + 1 + 1) = some b) : decode c p = .ok (Jvm.ClassFile.Instr.getstatic (a * 256 + b), 3) := by
  refine dec_of ?_
  unfold Jvm.ClassFile.Decoder.instr
  refine bnd (u1_at h0) ?_
  show (Jvm.ClassFile.Reader.u2 >>= fun x => pure (Jvm.ClassFile.Instr.getstatic x) : Jvm.ClassFile.Decoder Jvm.ClassFile.Instr) c (p + 1) = _
  exact bnd (u2_at h1 h2) rfl
theorem dec_180 (h0 : bA c p = some 180) (h1 : bA c (p + 1) = some a) (h2 : bA c (p + 1 + 1) = some b) : decode c p = .ok (Jvm.ClassFile.Instr.getfield (a * 256 + b), 3) := by
  refine dec_of ?_
  unfold Jvm.ClassFile.Decoder.instr
  refine bnd (u1_at h0) ?_
  show (Jvm.ClassFile.Reader.u2 >>= fun x => pure (Jvm.ClassFile.Instr.getfield x) : Jvm.ClassFile.Decoder Jvm.ClassFile.Instr) c (p + 1) = _
  exact bnd (u2_at h1 h2) rfl
theorem dec_182 (h0 : bA c p = some 182) (h1 : bA c (p + 1) = some a) (h2 : bA c (p + 1 + 1) = some b) : decode c p = .ok (Jvm.ClassFile.Instr.invokevirtual (a * 256 + b), 3) := by
  refine dec_of ?_
  unfold Jvm.ClassFile.Decoder.instr
  refine bnd (u1_at h0) ?_
  show (Jvm.ClassFile.Reader.u2 >>= fun x => pure (Jvm.ClassFile.Instr.invokevirtual x) : Jvm.ClassFile.Decoder Jvm.ClassFile.Instr) c (p + 1) = _
  exact bnd (u2_at h1 h2) rfl
theorem dec_183 (h0 : bA c p = some 183) (h1 : bA c (p + 1) = some a) (h2 : bA c (p + 1 + 1) = some b) : decode c p = .ok (Jvm.ClassFile.Instr.invokespecial (a * 256 + b), 3) := by
  refine dec_of ?_
  unfold Jvm.ClassFile.Decoder.instr
  refine bnd (u1_at h0) ?_
  show (Jvm.ClassFile.Reader.u2 >>= fun x => pure (Jvm.ClassFile.Instr.invokespecial x) : Jvm.ClassFile.Decoder Jvm.ClassFile.Instr) c (p + 1) = _
  exact bnd (u2_at h1 h2) rfl
theorem dec_184 (h0 : bA c p = some 184) (h1 : bA c (p + 1) = some a) (h2 : bA c (p + 1 + 1) = some b) : decode c p = .ok (Jvm.ClassFile.Instr.invokestatic (a * 256 + b), 3) := by
  refine dec_of ?_
  unfold Jvm.ClassFile.Decoder.instr
  refine bnd (u1_at h0) ?_
  show (Jvm.ClassFile.Reader.u2 >>= fun x => pure (Jvm.ClassFile.Instr.invokestatic x) : Jvm.ClassFile.Decoder Jvm.ClassFile.Instr) c (p + 1) = _
  exact bnd (u2_at h1 h2) rfl
theorem dec_187 (h0 : bA c p = some 187) (h1 : bA c (p + 1) = some a) (h2 : bA c (p + 1 + 1) = some b) : decode c p = .ok (Jvm.ClassFile.Instr.new (a * 256 + b), 3) := by
  refine dec_of ?_
  unfold Jvm.ClassFile.Decoder.instr
  refine bnd (u1_at h0) ?_
  show (Jvm.ClassFile.Reader.u2 >>= fun x => pure (Jvm.ClassFile.Instr.new x) : Jvm.ClassFile.Decoder Jvm.ClassFile.Instr) c (p + 1) = _
  exact bnd (u2_at h1 h2) rfl
theorem dec_181 (h0 : bA c p = some 181) (h1 : bA c (p + 1) = some a) (h2 : bA c (p + 1 + 1) = some b) : decode c p = .ok (Jvm.ClassFile.Instr.putfield (a * 256 + b), 3) := by
  refine dec_of ?_
  unfold Jvm.ClassFile.Decoder.instr
  refine bnd (u1_at h0) ?_
  show (Jvm.ClassFile.Reader.u2 >>= fun x => pure (Jvm.ClassFile.Instr.putfield x) : Jvm.ClassFile.Decoder Jvm.ClassFile.Instr) c (p + 1) = _
  exact bnd (u2_at h1 h2) rfl
theorem dec_167 (h0 : bA c p = some 167) (h1 : bA c (p + 1) = some a) (h2 : bA c (p + 1 + 1) = some b) : decode c p = .ok (Jvm.ClassFile.Instr.goto (Jvm.ClassFile.Reader.signed 16 (a * 256 + b)), 3) := by
  refine dec_of ?_
  unfold Jvm.ClassFile.Decoder.instr
  refine bnd (u1_at h0) ?_
  show (Jvm.ClassFile.Reader.s2 >>= fun x => pure (Jvm.ClassFile.Instr.goto x) : Jvm.ClassFile.Decoder Jvm.ClassFile.Instr) c (p + 1) = _
  exact bnd (s2_at h1 h2) rfl
theorem dec_17 (h0 : bA c p = some 17) (h1 : bA c (p + 1) = some a) (h2 : bA c (p + 1 + 1) = some b) : decode c p = .ok (Jvm.ClassFile.Instr.sipush (Jvm.ClassFile.Reader.signed 16 (a * 256 + b)), 3) := by
  refine dec_of ?_
  unfold Jvm.ClassFile.Decoder.instr
  refine bnd (u1_at h0) ?_
  show (Jvm.ClassFile.Reader.s2 >>= fun x => pure (Jvm.ClassFile.Instr.sipush x) : Jvm.ClassFile.Decoder Jvm.ClassFile.Instr) c (p + 1) = _
  exact bnd (s2_at h1 h2) rfl
theorem dec_153 (h0 : bA c p = some 153) (h1 : bA c (p + 1) = some a) (h2 : bA c (p + 1 + 1) = some b) : decode c p = .ok (Jvm.ClassFile.Instr.ifCond .eq (Jvm.ClassFile.Reader.signed 16 (a * 256 + b)), 3) := by
  refine dec_of ?_
  unfold Jvm.ClassFile.Decoder.instr
  refine bnd (u1_at h0) ?_
  show (Jvm.ClassFile.Reader.s2 >>= fun x => pure (Jvm.ClassFile.Instr.ifCond .eq x) : Jvm.ClassFile.Decoder Jvm.ClassFile.Instr) c (p + 1) = _
  exact bnd (s2_at h1 h2) rfl
theorem dec_154 (h0 : bA c p = some 154) (h1 : bA c (p + 1) = some a) (h2 : bA c (p + 1 + 1) = some b) : decode c p = .ok (Jvm.ClassFile.Instr.ifCond .ne (Jvm.ClassFile.Reader.signed 16 (a * 256 + b)), 3) := by
  refine dec_of ?_
  unfold Jvm.ClassFile.Decoder.instr
  refine bnd (u1_at h0) ?_
  show (Jvm.ClassFile.Reader.s2 >>= fun x => pure (Jvm.ClassFile.Instr.ifCond .ne x) : Jvm.ClassFile.Decoder Jvm.ClassFile.Instr) c (p + 1) = _
  exact bnd (s2_at h1 h2) rfl
theorem dec_155 (h0 : bA c p = some 155) (h1 : bA c (p + 1) = some a) (h2 : bA c (p + 1 + 1) = some b) : decode c p = .ok (Jvm.ClassFile.Instr.ifCond .lt (Jvm.ClassFile.Reader.signed 16 (a * 256 + b)), 3) := by
  refine dec_of ?_
  unfold Jvm.ClassFile.Decoder.instr
  refine bnd (u1_at h0) ?_
  show (Jvm.ClassFile.Reader.s2 >>= fun x => pure (Jvm.ClassFile.Instr.ifCond .lt x) : Jvm.ClassFile.Decoder Jvm.ClassFile.Instr) c (p + 1) = _
  exact bnd (s2_at h1 h2) rfl
theorem dec_156 (h0 : bA c p = some 156) (h1 : bA c (p + 1) = some a) (h2 : bA c (p + 1 + 1) = some b) : decode c p = .ok (Jvm.ClassFile.Instr.ifCond .ge (Jvm.ClassFile.Reader.signed 16 (a * 256 + b)), 3) := by
  refine dec_of ?_
  unfold Jvm.ClassFile.Decoder.instr
  refine bnd (u1_at h0) ?_
  show (Jvm.ClassFile.Reader.s2 >>= fun x => pure (Jvm.ClassFile.Instr.ifCond .ge x) : Jvm.ClassFile.Decoder Jvm.ClassFile.Instr) c (p + 1) = _
  exact bnd (s2_at h1 h2) rfl
theorem dec_157 (h0 : bA c p = some 157) (h1 : bA c (p + 1) = some a) (h2 : bA c (p + 1 + 1) = some b) : decode c p = .ok (Jvm.ClassFile.Instr.ifCond .gt (Jvm.ClassFile.Reader.signed 16 (a * 256 + b)), 3) := by
  refine dec_of ?_
  unfold Jvm.ClassFile.Decoder.instr
  refine bnd (u1_at h0) ?_
  show (Jvm.ClassFile.Reader.s2 >>= fun x => pure (Jvm.ClassFile.Instr.ifCond .gt x) : Jvm.ClassFile.Decoder Jvm.ClassFile.Instr) c (p + 1) = _
  exact bnd (s2_at h1 h2) rfl
theorem dec_158 (h0 : bA c p = some 158) (h1 : bA c (p + 1) = some a) (h2 : bA c (p + 1 + 1) = some b) : decode c p = .ok (Jvm.ClassFile.Instr.ifCond .le (Jvm.ClassFile.Reader.signed 16 (a * 256 + b)), 3) := by
  refine dec_of ?_
  unfold Jvm.ClassFile.Decoder.instr
  refine bnd (u1_at h0) ?_
  show (Jvm.ClassFile.Reader.s2 >>= fun x => pure (Jvm.ClassFile.Instr.ifCond .le x) : Jvm.ClassFile.Decoder Jvm.ClassFile.Instr) c (p + 1) = _
  exact bnd (s2_at h1 h2) rfl
theorem dec_159 (h0 : bA c p = some 159) (h1 : bA c (p + 1) = some a) (h2 : bA c (p + 1 + 1) = some b) : decode c p = .ok (Jvm.ClassFile.Instr.if_icmp .eq (Jvm.ClassFile.Reader.signed 16 (a * 256 + b)), 3) := by
  refine dec_of ?_
  unfold Jvm.ClassFile.Decoder.instr
  refine bnd (u1_at h0) ?_
  show (Jvm.ClassFile.Reader.s2 >>= fun x => pure (Jvm.ClassFile.Instr.if_icmp .eq x) : Jvm.ClassFile.Decoder Jvm.ClassFile.Instr) c (p + 1) = _
  exact bnd (s2_at h1 h2) rfl
theorem dec_160 (h0 : bA c p = some 160) (h1 : bA c (p + 1) = some a) (h2 : bA c (p + 1 + 1) = some b) : decode c p = .ok (Jvm.ClassFile.Instr.if_icmp .ne (Jvm.ClassFile.Reader.signed 16 (a * 256 + b)), 3) := by
  refine dec_of ?_
  unfold Jvm.ClassFile.Decoder.instr
  refine bnd (u1_at h0) ?_
  show (Jvm.ClassFile.Reader.s2 >>= fun x => pure (Jvm.ClassFile.Instr.if_icmp .ne x) : Jvm.ClassFile.Decoder Jvm.ClassFile.Instr) c (p + 1) = _
  exact bnd (s2_at h1 h2) rfl
theorem dec_161 (h0 : bA c p = some 161) (h1 : bA c (p + 1) = some a) (h2 : bA c (p + 1 + 1) = some b) : decode c p = .ok (Jvm.ClassFile.Instr.if_icmp .lt (Jvm.ClassFile.Reader.signed 16 (a * 256 + b)), 3) := by
  refine dec_of ?_
  unfold Jvm.ClassFile.Decoder.instr
  refine bnd (u1_at h0) ?_
  show (Jvm.ClassFile.Reader.s2 >>= fun x => pure (Jvm.ClassFile.Instr.if_icmp .lt x) : Jvm.ClassFile.Decoder Jvm.ClassFile.Instr) c (p + 1) = _
  exact bnd (s2_at h1 h2) rfl
theorem dec_162 (h0 : bA c p = some 162) (h1 : bA c (p + 1) = some a) (h2 : bA c (p + 1 + 1) = some b) : decode c p = .ok (Jvm.ClassFile.Instr.if_icmp .ge (Jvm.ClassFile.Reader.signed 16 (a * 256 + b)), 3) := by
  refine dec_of ?_
  unfold Jvm.ClassFile.Decoder.instr
  refine bnd (u1_at h0) ?_
  show (Jvm.ClassFile.Reader.s2 >>= fun x => pure (Jvm.ClassFile.Instr.if_icmp .ge x) : Jvm.ClassFile.Decoder Jvm.ClassFile.Instr) c (p + 1) = _
  exact bnd (s2_at h1 h2) rfl
theorem dec_163 (h0 : bA c p = some 163) (h1 : bA c (p + 1) = some a) (h2 : bA c (p + 1 + 1) = some b) : decode c p = .ok (Jvm.ClassFile.Instr.if_icmp .gt (Jvm.ClassFile.Reader.signed 16 (a * 256 + b)), 3) := by
  refine dec_of ?_
  unfold Jvm.ClassFile.Decoder.instr
  refine bnd (u1_at h0) ?_
  show (Jvm.ClassFile.Reader.s2 >>= fun x => pure (Jvm.ClassFile.Instr.if_icmp .gt x) : Jvm.ClassFile.Decoder Jvm.ClassFile.Instr) c (p + 1) = _
  exact bnd (s2_at h1 h2) rfl
theorem dec_164 (h0 : bA c p = some 164) (h1 : bA c (p + 1) = some a) (h2 : bA c (p + 1 + 1) = some b) : decode c p = .ok (Jvm.ClassFile.Instr.if_icmp .le (Jvm.ClassFile.Reader.signed 16 (a * 256 + b)), 3) := by
  refine dec_of ?_
  unfold Jvm.ClassFile.Decoder.instr
  refine bnd (u1_at h0) ?_
  show (Jvm.ClassFile.Reader.s2 >>= fun x => pure (Jvm.ClassFile.Instr.if_icmp .le x) : Jvm.ClassFile.Decoder Jvm.ClassFile.Instr) c (p + 1) = _
  exact bnd (s2_at h1 h2) rfl
theorem dec_132 (h0 : bA c p = some 132) (h1 : bA c (p + 1) = some a) (h2 : bA c (p + 1 + 1) = some b) : decode c p = .ok (Jvm.ClassFile.Instr.iinc a (Jvm.ClassFile.Reader.signed 8 b), 3) := by
  refine dec_of ?_
  unfold Jvm.ClassFile.Decoder.instr
  refine bnd (u1_at h0) ?_
  show (Jvm.ClassFile.Reader.u1 >>= fun x => Jvm.ClassFile.Reader.s1 >>= fun y => pure (Jvm.ClassFile.Instr.iinc x y) : Jvm.ClassFile.Decoder Jvm.ClassFile.Instr) c (p + 1) = _
  exact bnd (u1_at h1) (bnd (s1_at h2) rfl)
theorem at_k {t u : List UInt8} {n m j : Nat} {l : List Nat} (h : c.data.toList.drop n = t ++ u) (hj : ((t.drop j).take m).map UInt8.toNat = l) (hp : n + j = p) (i v : Nat) (hi : i < m) (hv : l[i]? = some v) : bA c (p + i) = some v := by
  rw [← hj, List.getElem?_map, List.getElem?_take_of_lt hi, List.getElem?_drop] at hv
  exact gB h (j + i) hv (by omega)
theorem at2 {t u : List UInt8} {n x y : Nat} (h : c.data.toList.drop n = t ++ u) (j : Nat) (hj : ((t.drop j).take 2).map UInt8.toNat = [x, y]) (hp : n + j = p) : bA c p = some x ∧ bA c (p + 1) = some y :=
  ⟨at_k h hj hp 0 x (by decide) rfl, at_k h hj hp 1 y (by decide) rfl⟩
theorem at3 {t u : List UInt8} {n x y z : Nat} (h : c.data.toList.drop n = t ++ u) (j : Nat) (hj : ((t.drop j).take 3).map UInt8.toNat = [x, y, z]) (hp : n + j = p) : bA c p = some x ∧ bA c (p + 1) = some y ∧ bA c (p + 1 + 1) = some z :=
  ⟨at_k h hj hp 0 x (by decide) rfl, at_k h hj hp 1 y (by decide) rfl, at_k h hj hp 2 z (by decide) rfl⟩
theorem e_18 {t u : List UInt8} {n x : Nat} (h : c.data.toList.drop n = t ++ u) (j : Nat) (hj : ((t.drop j).take 2).map UInt8.toNat = [18, x]) (hp : n + j = p) : decode c p = .ok ((Jvm.ClassFile.Instr.ldc x), 2) := dec_18 (at2 h j hj hp).1 (at2 h j hj hp).2
theorem e_22 {t u : List UInt8} {n x : Nat} (h : c.data.toList.drop n = t ++ u) (j : Nat) (hj : ((t.drop j).take 2).map UInt8.toNat = [22, x]) (hp : n + j = p) : decode c p = .ok ((Jvm.ClassFile.Instr.lload x), 2) := dec_22 (at2 h j hj hp).1 (at2 h j hj hp).2
theorem e_55 {t u : List UInt8} {n x : Nat} (h : c.data.toList.drop n = t ++ u) (j : Nat) (hj : ((t.drop j).take 2).map UInt8.toNat = [55, x]) (hp : n + j = p) : decode c p = .ok ((Jvm.ClassFile.Instr.lstore x), 2) := dec_55 (at2 h j hj hp).1 (at2 h j hj hp).2
theorem e_21 {t u : List UInt8} {n x : Nat} (h : c.data.toList.drop n = t ++ u) (j : Nat) (hj : ((t.drop j).take 2).map UInt8.toNat = [21, x]) (hp : n + j = p) : decode c p = .ok ((Jvm.ClassFile.Instr.iload x), 2) := dec_21 (at2 h j hj hp).1 (at2 h j hj hp).2
theorem e_25 {t u : List UInt8} {n x : Nat} (h : c.data.toList.drop n = t ++ u) (j : Nat) (hj : ((t.drop j).take 2).map UInt8.toNat = [25, x]) (hp : n + j = p) : decode c p = .ok ((Jvm.ClassFile.Instr.aload x), 2) := dec_25 (at2 h j hj hp).1 (at2 h j hj hp).2
theorem e_54 {t u : List UInt8} {n x : Nat} (h : c.data.toList.drop n = t ++ u) (j : Nat) (hj : ((t.drop j).take 2).map UInt8.toNat = [54, x]) (hp : n + j = p) : decode c p = .ok ((Jvm.ClassFile.Instr.istore x), 2) := dec_54 (at2 h j hj hp).1 (at2 h j hj hp).2
theorem e_58 {t u : List UInt8} {n x : Nat} (h : c.data.toList.drop n = t ++ u) (j : Nat) (hj : ((t.drop j).take 2).map UInt8.toNat = [58, x]) (hp : n + j = p) : decode c p = .ok ((Jvm.ClassFile.Instr.astore x), 2) := dec_58 (at2 h j hj hp).1 (at2 h j hj hp).2
theorem e_16 {t u : List UInt8} {n x : Nat} (h : c.data.toList.drop n = t ++ u) (j : Nat) (hj : ((t.drop j).take 2).map UInt8.toNat = [16, x]) (hp : n + j = p) : decode c p = .ok (Jvm.ClassFile.Instr.bipush (Jvm.ClassFile.Reader.signed 8 x), 2) := dec_16 (at2 h j hj hp).1 (at2 h j hj hp).2
theorem e_19 {t u : List UInt8} {n x y : Nat} (h : c.data.toList.drop n = t ++ u) (j : Nat) (hj : ((t.drop j).take 3).map UInt8.toNat = [19, x, y]) (hp : n + j = p) : decode c p = .ok (Jvm.ClassFile.Instr.ldc_w (x * 256 + y), 3) := dec_19 (at3 h j hj hp).1 (at3 h j hj hp).2.1 (at3 h j hj hp).2.2
theorem e_20 {t u : List UInt8} {n x y : Nat} (h : c.data.toList.drop n = t ++ u) (j : Nat) (hj : ((t.drop j).take 3).map UInt8.toNat = [20, x, y]) (hp : n + j = p) : decode c p = .ok (Jvm.ClassFile.Instr.ldc2_w (x * 256 + y), 3) := dec_20 (at3 h j hj hp).1 (at3 h j hj hp).2.1 (at3 h j hj hp).2.2
theorem e_189 {t u : List UInt8} {n x y : Nat} (h : c.data.toList.drop n = t ++ u) (j : Nat) (hj : ((t.drop j).take 3).map UInt8.toNat = [189, x, y]) (hp : n + j = p) : decode c p = .ok (Jvm.ClassFile.Instr.anewarray (x * 256 + y), 3) := dec_189 (at3 h j hj hp).1 (at3 h j hj hp).2.1 (at3 h j hj hp).2.2
theorem e_192 {t u : List UInt8} {n x y : Nat} (h : c.data.toList.drop n = t ++ u) (j : Nat) (hj : ((t.drop j).take 3).map UInt8.toNat = [192, x, y]) (hp : n + j = p) : decode c p = .ok (Jvm.ClassFile.Instr.checkcast (x * 256 + y), 3) := dec_192 (at3 h j hj hp).1 (at3 h j hj hp).2.1 (at3 h j hj hp).2.2
theorem e_178 {t u : List UInt8} {n x y : Nat} (h : c.data.toList.drop n = t ++ u) (j : Nat) (hj : ((t.drop j).take 3).map UInt8.toNat = [178, x, y]) (hp : n + j = p) : decode c p = .ok (Jvm.ClassFile.Instr.getstatic (x * 256 + y), 3) := dec_178 (at3 h j hj hp).1 (at3 h j hj hp).2.1 (at3 h j hj hp).2.2
theorem e_180 {t u : List UInt8} {n x y : Nat} (h : c.data.toList.drop n = t ++ u) (j : Nat) (hj : ((t.drop j).take 3).map UInt8.toNat = [180, x, y]) (hp : n + j = p) : decode c p = .ok (Jvm.ClassFile.Instr.getfield (x * 256 + y), 3) := dec_180 (at3 h j hj hp).1 (at3 h j hj hp).2.1 (at3 h j hj hp).2.2
theorem e_182 {t u : List UInt8} {n x y : Nat} (h : c.data.toList.drop n = t ++ u) (j : Nat) (hj : ((t.drop j).take 3).map UInt8.toNat = [182, x, y]) (hp : n + j = p) : decode c p = .ok (Jvm.ClassFile.Instr.invokevirtual (x * 256 + y), 3) := dec_182 (at3 h j hj hp).1 (at3 h j hj hp).2.1 (at3 h j hj hp).2.2
theorem e_183 {t u : List UInt8} {n x y : Nat} (h : c.data.toList.drop n = t ++ u) (j : Nat) (hj : ((t.drop j).take 3).map UInt8.toNat = [183, x, y]) (hp : n + j = p) : decode c p = .ok (Jvm.ClassFile.Instr.invokespecial (x * 256 + y), 3) := dec_183 (at3 h j hj hp).1 (at3 h j hj hp).2.1 (at3 h j hj hp).2.2
theorem e_184 {t u : List UInt8} {n x y : Nat} (h : c.data.toList.drop n = t ++ u) (j : Nat) (hj : ((t.drop j).take 3).map UInt8.toNat = [184, x, y]) (hp : n + j = p) : decode c p = .ok (Jvm.ClassFile.Instr.invokestatic (x * 256 + y), 3) := dec_184 (at3 h j hj hp).1 (at3 h j hj hp).2.1 (at3 h j hj hp).2.2
theorem e_187 {t u : List UInt8} {n x y : Nat} (h : c.data.toList.drop n = t ++ u) (j : Nat) (hj : ((t.drop j).take 3).map UInt8.toNat = [187, x, y]) (hp : n + j = p) : decode c p = .ok (Jvm.ClassFile.Instr.new (x * 256 + y), 3) := dec_187 (at3 h j hj hp).1 (at3 h j hj hp).2.1 (at3 h j hj hp).2.2
theorem e_181 {t u : List UInt8} {n x y : Nat} (h : c.data.toList.drop n = t ++ u) (j : Nat) (hj : ((t.drop j).take 3).map UInt8.toNat = [181, x, y]) (hp : n + j = p) : decode c p = .ok (Jvm.ClassFile.Instr.putfield (x * 256 + y), 3) := dec_181 (at3 h j hj hp).1 (at3 h j hj hp).2.1 (at3 h j hj hp).2.2
theorem e_167 {t u : List UInt8} {n x y : Nat} (h : c.data.toList.drop n = t ++ u) (j : Nat) (hj : ((t.drop j).take 3).map UInt8.toNat = [167, x, y]) (hp : n + j = p) : decode c p = .ok (Jvm.ClassFile.Instr.goto (Jvm.ClassFile.Reader.signed 16 (x * 256 + y)), 3) := dec_167 (at3 h j hj hp).1 (at3 h j hj hp).2.1 (at3 h j hj hp).2.2
theorem e_17 {t u : List UInt8} {n x y : Nat} (h : c.data.toList.drop n = t ++ u) (j : Nat) (hj : ((t.drop j).take 3).map UInt8.toNat = [17, x, y]) (hp : n + j = p) : decode c p = .ok (Jvm.ClassFile.Instr.sipush (Jvm.ClassFile.Reader.signed 16 (x * 256 + y)), 3) := dec_17 (at3 h j hj hp).1 (at3 h j hj hp).2.1 (at3 h j hj hp).2.2
theorem e_153 {t u : List UInt8} {n x y : Nat} (h : c.data.toList.drop n = t ++ u) (j : Nat) (hj : ((t.drop j).take 3).map UInt8.toNat = [153, x, y]) (hp : n + j = p) : decode c p = .ok (Jvm.ClassFile.Instr.ifCond .eq (Jvm.ClassFile.Reader.signed 16 (x * 256 + y)), 3) := dec_153 (at3 h j hj hp).1 (at3 h j hj hp).2.1 (at3 h j hj hp).2.2
theorem e_154 {t u : List UInt8} {n x y : Nat} (h : c.data.toList.drop n = t ++ u) (j : Nat) (hj : ((t.drop j).take 3).map UInt8.toNat = [154, x, y]) (hp : n + j = p) : decode c p = .ok (Jvm.ClassFile.Instr.ifCond .ne (Jvm.ClassFile.Reader.signed 16 (x * 256 + y)), 3) := dec_154 (at3 h j hj hp).1 (at3 h j hj hp).2.1 (at3 h j hj hp).2.2
theorem e_155 {t u : List UInt8} {n x y : Nat} (h : c.data.toList.drop n = t ++ u) (j : Nat) (hj : ((t.drop j).take 3).map UInt8.toNat = [155, x, y]) (hp : n + j = p) : decode c p = .ok (Jvm.ClassFile.Instr.ifCond .lt (Jvm.ClassFile.Reader.signed 16 (x * 256 + y)), 3) := dec_155 (at3 h j hj hp).1 (at3 h j hj hp).2.1 (at3 h j hj hp).2.2
theorem e_156 {t u : List UInt8} {n x y : Nat} (h : c.data.toList.drop n = t ++ u) (j : Nat) (hj : ((t.drop j).take 3).map UInt8.toNat = [156, x, y]) (hp : n + j = p) : decode c p = .ok (Jvm.ClassFile.Instr.ifCond .ge (Jvm.ClassFile.Reader.signed 16 (x * 256 + y)), 3) := dec_156 (at3 h j hj hp).1 (at3 h j hj hp).2.1 (at3 h j hj hp).2.2
theorem e_157 {t u : List UInt8} {n x y : Nat} (h : c.data.toList.drop n = t ++ u) (j : Nat) (hj : ((t.drop j).take 3).map UInt8.toNat = [157, x, y]) (hp : n + j = p) : decode c p = .ok (Jvm.ClassFile.Instr.ifCond .gt (Jvm.ClassFile.Reader.signed 16 (x * 256 + y)), 3) := dec_157 (at3 h j hj hp).1 (at3 h j hj hp).2.1 (at3 h j hj hp).2.2
theorem e_158 {t u : List UInt8} {n x y : Nat} (h : c.data.toList.drop n = t ++ u) (j : Nat) (hj : ((t.drop j).take 3).map UInt8.toNat = [158, x, y]) (hp : n + j = p) : decode c p = .ok (Jvm.ClassFile.Instr.ifCond .le (Jvm.ClassFile.Reader.signed 16 (x * 256 + y)), 3) := dec_158 (at3 h j hj hp).1 (at3 h j hj hp).2.1 (at3 h j hj hp).2.2
theorem e_159 {t u : List UInt8} {n x y : Nat} (h : c.data.toList.drop n = t ++ u) (j : Nat) (hj : ((t.drop j).take 3).map UInt8.toNat = [159, x, y]) (hp : n + j = p) : decode c p = .ok (Jvm.ClassFile.Instr.if_icmp .eq (Jvm.ClassFile.Reader.signed 16 (x * 256 + y)), 3) := dec_159 (at3 h j hj hp).1 (at3 h j hj hp).2.1 (at3 h j hj hp).2.2
theorem e_160 {t u : List UInt8} {n x y : Nat} (h : c.data.toList.drop n = t ++ u) (j : Nat) (hj : ((t.drop j).take 3).map UInt8.toNat = [160, x, y]) (hp : n + j = p) : decode c p = .ok (Jvm.ClassFile.Instr.if_icmp .ne (Jvm.ClassFile.Reader.signed 16 (x * 256 + y)), 3) := dec_160 (at3 h j hj hp).1 (at3 h j hj hp).2.1 (at3 h j hj hp).2.2
theorem e_161 {t u : List UInt8} {n x y : Nat} (h : c.data.toList.drop n = t ++ u) (j : Nat) (hj : ((t.drop j).take 3).map UInt8.toNat = [161, x, y]) (hp : n + j = p) : decode c p = .ok (Jvm.ClassFile.Instr.if_icmp .lt (Jvm.ClassFile.Reader.signed 16 (x * 256 + y)), 3) := dec_161 (at3 h j hj hp).1 (at3 h j hj hp).2.1 (at3 h j hj hp).2.2
theorem e_162 {t u : List UInt8} {n x y : Nat} (h : c.data.toList.drop n = t ++ u) (j : Nat) (hj : ((t.drop j).take 3).map UInt8.toNat = [162, x, y]) (hp : n + j = p) : decode c p = .ok (Jvm.ClassFile.Instr.if_icmp .ge (Jvm.ClassFile.Reader.signed 16 (x * 256 + y)), 3) := dec_162 (at3 h j hj hp).1 (at3 h j hj hp).2.1 (at3 h j hj hp).2.2
theorem e_163 {t u : List UInt8} {n x y : Nat} (h : c.data.toList.drop n = t ++ u) (j : Nat) (hj : ((t.drop j).take 3).map UInt8.toNat = [163, x, y]) (hp : n + j = p) : decode c p = .ok (Jvm.ClassFile.Instr.if_icmp .gt (Jvm.ClassFile.Reader.signed 16 (x * 256 + y)), 3) := dec_163 (at3 h j hj hp).1 (at3 h j hj hp).2.1 (at3 h j hj hp).2.2
theorem e_164 {t u : List UInt8} {n x y : Nat} (h : c.data.toList.drop n = t ++ u) (j : Nat) (hj : ((t.drop j).take 3).map UInt8.toNat = [164, x, y]) (hp : n + j = p) : decode c p = .ok (Jvm.ClassFile.Instr.if_icmp .le (Jvm.ClassFile.Reader.signed 16 (x * 256 + y)), 3) := dec_164 (at3 h j hj hp).1 (at3 h j hj hp).2.1 (at3 h j hj hp).2.2
theorem e_132 {t u : List UInt8} {n x y : Nat} (h : c.data.toList.drop n = t ++ u) (j : Nat) (hj : ((t.drop j).take 3).map UInt8.toNat = [132, x, y]) (hp : n + j = p) : decode c p = .ok (Jvm.ClassFile.Instr.iinc x (Jvm.ClassFile.Reader.signed 8 y), 3) := dec_132 (at3 h j hj hp).1 (at3 h j hj hp).2.1 (at3 h j hj hp).2.2
end DEC
/-! The rows of the law, out of its bytes. -/
def lk_0 : List UInt8 := [0xbb, 0x00, 0x08, 0x59, 0xb7, 0x00, 0xa7, 0x4c, 0xbb, 0x00, 0xa8, 0x59, 0xb7, 0x00, 0xaa, 0x4d, 0xbb, 0x00, 0x0e, 0x59, 0xb7, 0x00, 0xab, 0x4e, 0x03, 0x36, 0x04, 0x15, 0x04, 0x2a, 0xbe, 0x08, 0x64, 0xa3, 0x0d, 0x75, 0x2a, 0x15, 0x04, 0x2e, 0x10, 0x3f, 0x7e, 0xaa, 0x00, 0x00, 0x0d, 0x65, 0x00, 0x00, 0x00, 0x00, 0x00, 0x00, 0x00, 0x2e, 0x00, 0x00, 0x00, 0xc9, 0x00, 0x00, 0x01, 0x0e]
def lk_1 : List UInt8 := [0x00, 0x00, 0x01, 0x53, 0x00, 0x00, 0x01, 0xb4, 0x00, 0x00, 0x02, 0x05, 0x00, 0x00, 0x02, 0x66, 0x00, 0x00, 0x02, 0xab, 0x00, 0x00, 0x02, 0xfc, 0x00, 0x00, 0x03, 0x59, 0x00, 0x00, 0x03, 0x9e, 0x00, 0x00, 0x03, 0xd7, 0x00, 0x00, 0x04, 0x10, 0x00, 0x00, 0x04, 0x55, 0x00, 0x00, 0x04, 0x9a, 0x00, 0x00, 0x04, 0xeb, 0x00, 0x00, 0x05, 0x3c, 0x00, 0x00, 0x05, 0x8d, 0x00, 0x00, 0x05, 0xde]
def lk_2 : List UInt8 := [0x00, 0x00, 0x06, 0x3b, 0x00, 0x00, 0x06, 0x80, 0x00, 0x00, 0x06, 0xb9, 0x00, 0x00, 0x06, 0xf2, 0x00, 0x00, 0x07, 0x2b, 0x00, 0x00, 0x07, 0x77, 0x00, 0x00, 0x07, 0xb1, 0x00, 0x00, 0x08, 0x06, 0x00, 0x00, 0x08, 0x57, 0x00, 0x00, 0x08, 0xa8, 0x00, 0x00, 0x08, 0xed, 0x00, 0x00, 0x09, 0x2d, 0x00, 0x00, 0x09, 0x8e, 0x00, 0x00, 0x09, 0xef, 0x00, 0x00, 0x0a, 0x28, 0x00, 0x00, 0x0a, 0x61]
def lk_3 : List UInt8 := [0x00, 0x00, 0x0a, 0x9a, 0x00, 0x00, 0x0a, 0xd3, 0x00, 0x00, 0x0b, 0x0c, 0x00, 0x00, 0x0b, 0x58, 0x00, 0x00, 0x0b, 0x92, 0x00, 0x00, 0x0b, 0xe8, 0x00, 0x00, 0x0c, 0x3d, 0x00, 0x00, 0x0c, 0x92, 0x00, 0x00, 0x0c, 0xcb, 0x00, 0x00, 0x0d, 0x04, 0x00, 0x00, 0x0d, 0x3d, 0x00, 0x00, 0x0d, 0x4a, 0x00, 0x00, 0x0d, 0x57, 0x2b, 0x2a, 0x15, 0x04, 0x04, 0x60, 0x2e, 0x2a, 0x15, 0x04, 0x05, 0x60]
def lk_4 : List UInt8 := [0x2e, 0x2d, 0xb8, 0x00, 0xac, 0x36, 0x05, 0x2c, 0x2a, 0x15, 0x04, 0x04, 0x60, 0x2e, 0x2a, 0x15, 0x04, 0x05, 0x60, 0x2e, 0xb6, 0x00, 0xb1, 0x36, 0x06, 0x2c, 0xb6, 0x00, 0xb2, 0x15, 0x05, 0x9f, 0x00, 0x05, 0x03, 0xac, 0x15, 0x05, 0x9a, 0x00, 0x10, 0x2d, 0xb4, 0x00, 0x0d, 0x15, 0x06, 0x85, 0x94, 0x99, 0x00, 0x05, 0x03, 0xac, 0xa7, 0x0c, 0x5a, 0x2b, 0x2a, 0x15, 0x04, 0x04, 0x60, 0x2e]
def lk_5 : List UInt8 := [0x2a, 0x15, 0x04, 0x05, 0x60, 0x2e, 0x2d, 0xb8, 0x00, 0xb6, 0x36, 0x05, 0x2c, 0x2a, 0x15, 0x04, 0x04, 0x60, 0x2e, 0x2a, 0x15, 0x04, 0x05, 0x60, 0x2e, 0xb6, 0x00, 0xb8, 0x36, 0x06, 0x2c, 0xb6, 0x00, 0xb2, 0x15, 0x05, 0x9f, 0x00, 0x05, 0x03, 0xac, 0x15, 0x05, 0x9a, 0x00, 0x10, 0x2d, 0xb4, 0x00, 0x0d, 0x15, 0x06, 0x85, 0x94, 0x99, 0x00, 0x05, 0x03, 0xac, 0xa7, 0x0c, 0x15, 0x2b, 0x2a]
def lk_6 : List UInt8 := [0x15, 0x04, 0x04, 0x60, 0x2e, 0x2a, 0x15, 0x04, 0x05, 0x60, 0x2e, 0x2a, 0x15, 0x04, 0x06, 0x60, 0x2e, 0x99, 0x00, 0x07, 0x04, 0xa7, 0x00, 0x04, 0x03, 0x2d, 0xb8, 0x00, 0xb9, 0x36, 0x05, 0x2c, 0x2a, 0x15, 0x04, 0x04, 0x60, 0x2e, 0x2a, 0x15, 0x04, 0x05, 0x60, 0x2e, 0x2a, 0x15, 0x04, 0x06, 0x60, 0x2e, 0x99, 0x00, 0x07, 0x04, 0xa7, 0x00, 0x04, 0x03, 0xb6, 0x00, 0xbc, 0x36, 0x06, 0x2c]
def lk_7 : List UInt8 := [0xb6, 0x00, 0xb2, 0x15, 0x05, 0x9f, 0x00, 0x05, 0x03, 0xac, 0x15, 0x05, 0x9a, 0x00, 0x10, 0x2d, 0xb4, 0x00, 0x0d, 0x15, 0x06, 0x85, 0x94, 0x99, 0x00, 0x05, 0x03, 0xac, 0xa7, 0x0b, 0xb4, 0x2b, 0x2a, 0x15, 0x04, 0x04, 0x60, 0x2e, 0x2a, 0x15, 0x04, 0x05, 0x60, 0x2e, 0x2a, 0x15, 0x04, 0x06, 0x60, 0x2e, 0x2d, 0xb8, 0x00, 0xbd, 0x36, 0x05, 0x2c, 0x2a, 0x15, 0x04, 0x04, 0x60, 0x2e, 0x2a]
def lk_8 : List UInt8 := [0x15, 0x04, 0x05, 0x60, 0x2e, 0x2a, 0x15, 0x04, 0x06, 0x60, 0x2e, 0xb6, 0x00, 0xc0, 0x36, 0x06, 0x2c, 0xb6, 0x00, 0xb2, 0x15, 0x05, 0x9f, 0x00, 0x05, 0x03, 0xac, 0x15, 0x05, 0x9a, 0x00, 0x10, 0x2d, 0xb4, 0x00, 0x0d, 0x15, 0x06, 0x85, 0x94, 0x99, 0x00, 0x05, 0x03, 0xac, 0xa7, 0x0b, 0x63, 0x2b, 0x2a, 0x15, 0x04, 0x04, 0x60, 0x2e, 0x2a, 0x15, 0x04, 0x05, 0x60, 0x2e, 0x2a, 0x15, 0x04]
def lk_9 : List UInt8 := [0x06, 0x60, 0x2e, 0x99, 0x00, 0x07, 0x04, 0xa7, 0x00, 0x04, 0x03, 0x2d, 0xb8, 0x00, 0xc1, 0x36, 0x05, 0x2c, 0x2a, 0x15, 0x04, 0x04, 0x60, 0x2e, 0x2a, 0x15, 0x04, 0x05, 0x60, 0x2e, 0x2a, 0x15, 0x04, 0x06, 0x60, 0x2e, 0x99, 0x00, 0x07, 0x04, 0xa7, 0x00, 0x04, 0x03, 0xb6, 0x00, 0xc3, 0x36, 0x06, 0x2c, 0xb6, 0x00, 0xb2, 0x15, 0x05, 0x9f, 0x00, 0x05, 0x03, 0xac, 0x15, 0x05, 0x9a, 0x00]
def lk_10 : List UInt8 := [0x10, 0x2d, 0xb4, 0x00, 0x0d, 0x15, 0x06, 0x85, 0x94, 0x99, 0x00, 0x05, 0x03, 0xac, 0xa7, 0x0b, 0x02, 0x2b, 0x2a, 0x15, 0x04, 0x04, 0x60, 0x2e, 0x2a, 0x15, 0x04, 0x05, 0x60, 0x2e, 0x2d, 0xb8, 0x00, 0xc4, 0x36, 0x05, 0x2c, 0x2a, 0x15, 0x04, 0x04, 0x60, 0x2e, 0x2a, 0x15, 0x04, 0x05, 0x60, 0x2e, 0xb6, 0x00, 0xc6, 0x36, 0x06, 0x2c, 0xb6, 0x00, 0xb2, 0x15, 0x05, 0x9f, 0x00, 0x05, 0x03]
def lk_11 : List UInt8 := [0xac, 0x15, 0x05, 0x9a, 0x00, 0x10, 0x2d, 0xb4, 0x00, 0x0d, 0x15, 0x06, 0x85, 0x94, 0x99, 0x00, 0x05, 0x03, 0xac, 0xa7, 0x0a, 0xbd, 0x2b, 0x2a, 0x15, 0x04, 0x04, 0x60, 0x2e, 0x2a, 0x15, 0x04, 0x05, 0x60, 0x2e, 0x2a, 0x15, 0x04, 0x06, 0x60, 0x2e, 0x2d, 0xb8, 0x00, 0xc7, 0x36, 0x05, 0x2c, 0x2a, 0x15, 0x04, 0x04, 0x60, 0x2e, 0x2a, 0x15, 0x04, 0x05, 0x60, 0x2e, 0x2a, 0x15, 0x04, 0x06]
def lk_12 : List UInt8 := [0x60, 0x2e, 0xb6, 0x00, 0xc9, 0x36, 0x06, 0x2c, 0xb6, 0x00, 0xb2, 0x15, 0x05, 0x9f, 0x00, 0x05, 0x03, 0xac, 0x15, 0x05, 0x9a, 0x00, 0x10, 0x2d, 0xb4, 0x00, 0x0d, 0x15, 0x06, 0x85, 0x94, 0x99, 0x00, 0x05, 0x03, 0xac, 0xa7, 0x0a, 0x6c, 0x2b, 0x2a, 0x15, 0x04, 0x04, 0x60, 0x2e, 0x2a, 0x15, 0x04, 0x05, 0x60, 0x2e, 0x2a, 0x15, 0x04, 0x06, 0x60, 0x2e, 0x2a, 0x15, 0x04, 0x07, 0x60, 0x2e]
def lk_13 : List UInt8 := [0x2d, 0xb8, 0x00, 0xca, 0x36, 0x05, 0x2c, 0x2a, 0x15, 0x04, 0x04, 0x60, 0x2e, 0x2a, 0x15, 0x04, 0x05, 0x60, 0x2e, 0x2a, 0x15, 0x04, 0x06, 0x60, 0x2e, 0x2a, 0x15, 0x04, 0x07, 0x60, 0x2e, 0xb6, 0x00, 0xcd, 0x36, 0x06, 0x2c, 0xb6, 0x00, 0xb2, 0x15, 0x05, 0x9f, 0x00, 0x05, 0x03, 0xac, 0x15, 0x05, 0x9a, 0x00, 0x10, 0x2d, 0xb4, 0x00, 0x0d, 0x15, 0x06, 0x85, 0x94, 0x99, 0x00, 0x05, 0x03]
def lk_14 : List UInt8 := [0xac, 0xa7, 0x0a, 0x0f, 0x2b, 0x2a, 0x15, 0x04, 0x04, 0x60, 0x2e, 0x2a, 0x15, 0x04, 0x05, 0x60, 0x2e, 0x2d, 0xb8, 0x00, 0xce, 0x36, 0x05, 0x2c, 0x2a, 0x15, 0x04, 0x04, 0x60, 0x2e, 0x2a, 0x15, 0x04, 0x05, 0x60, 0x2e, 0xb6, 0x00, 0xd0, 0x36, 0x06, 0x2c, 0xb6, 0x00, 0xb2, 0x15, 0x05, 0x9f, 0x00, 0x05, 0x03, 0xac, 0x15, 0x05, 0x9a, 0x00, 0x10, 0x2d, 0xb4, 0x00, 0x0d, 0x15, 0x06, 0x85]
def lk_15 : List UInt8 := [0x94, 0x99, 0x00, 0x05, 0x03, 0xac, 0xa7, 0x09, 0xca, 0x2b, 0x2a, 0x15, 0x04, 0x04, 0x60, 0x2e, 0x2d, 0xb8, 0x00, 0xd1, 0x36, 0x05, 0x2c, 0x2a, 0x15, 0x04, 0x04, 0x60, 0x2e, 0xb6, 0x00, 0xd4, 0x36, 0x06, 0x2c, 0xb6, 0x00, 0xb2, 0x15, 0x05, 0x9f, 0x00, 0x05, 0x03, 0xac, 0x15, 0x05, 0x9a, 0x00, 0x10, 0x2d, 0xb4, 0x00, 0x0d, 0x15, 0x06, 0x85, 0x94, 0x99, 0x00, 0x05, 0x03, 0xac, 0xa7]
def lk_16 : List UInt8 := [0x09, 0x91, 0x2b, 0x2a, 0x15, 0x04, 0x04, 0x60, 0x2e, 0x2d, 0xb8, 0x00, 0xd5, 0x36, 0x05, 0x2c, 0x2a, 0x15, 0x04, 0x04, 0x60, 0x2e, 0xb6, 0x00, 0xd7, 0x36, 0x06, 0x2c, 0xb6, 0x00, 0xb2, 0x15, 0x05, 0x9f, 0x00, 0x05, 0x03, 0xac, 0x15, 0x05, 0x9a, 0x00, 0x10, 0x2d, 0xb4, 0x00, 0x0d, 0x15, 0x06, 0x85, 0x94, 0x99, 0x00, 0x05, 0x03, 0xac, 0xa7, 0x09, 0x58, 0x2b, 0x2a, 0x15, 0x04, 0x04]
def lk_17 : List UInt8 := [0x60, 0x2e, 0x2a, 0x15, 0x04, 0x05, 0x60, 0x2e, 0x2d, 0xb8, 0x00, 0xd8, 0x36, 0x05, 0x2c, 0x2a, 0x15, 0x04, 0x04, 0x60, 0x2e, 0x2a, 0x15, 0x04, 0x05, 0x60, 0x2e, 0xb6, 0x00, 0xda, 0x36, 0x06, 0x2c, 0xb6, 0x00, 0xb2, 0x15, 0x05, 0x9f, 0x00, 0x05, 0x03, 0xac, 0x15, 0x05, 0x9a, 0x00, 0x10, 0x2d, 0xb4, 0x00, 0x0d, 0x15, 0x06, 0x85, 0x94, 0x99, 0x00, 0x05, 0x03, 0xac, 0xa7, 0x09, 0x13]
def lk_18 : List UInt8 := [0x2b, 0x2a, 0x15, 0x04, 0x04, 0x60, 0x2e, 0x2a, 0x15, 0x04, 0x05, 0x60, 0x2e, 0x2d, 0xb8, 0x00, 0xdb, 0x36, 0x05, 0x2c, 0x2a, 0x15, 0x04, 0x04, 0x60, 0x2e, 0x2a, 0x15, 0x04, 0x05, 0x60, 0x2e, 0xb6, 0x00, 0xdd, 0x36, 0x06, 0x2c, 0xb6, 0x00, 0xb2, 0x15, 0x05, 0x9f, 0x00, 0x05, 0x03, 0xac, 0x15, 0x05, 0x9a, 0x00, 0x10, 0x2d, 0xb4, 0x00, 0x0d, 0x15, 0x06, 0x85, 0x94, 0x99, 0x00, 0x05]
def lk_19 : List UInt8 := [0x03, 0xac, 0xa7, 0x08, 0xce, 0x2b, 0x2a, 0x15, 0x04, 0x04, 0x60, 0x2e, 0x2a, 0x15, 0x04, 0x05, 0x60, 0x2e, 0x2a, 0x15, 0x04, 0x06, 0x60, 0x2e, 0x2d, 0xb8, 0x00, 0xde, 0x36, 0x05, 0x2c, 0x2a, 0x15, 0x04, 0x04, 0x60, 0x2e, 0x2a, 0x15, 0x04, 0x05, 0x60, 0x2e, 0x2a, 0x15, 0x04, 0x06, 0x60, 0x2e, 0xb6, 0x00, 0xe0, 0x36, 0x06, 0x2c, 0xb6, 0x00, 0xb2, 0x15, 0x05, 0x9f, 0x00, 0x05, 0x03]
def lk_20 : List UInt8 := [0xac, 0x15, 0x05, 0x9a, 0x00, 0x10, 0x2d, 0xb4, 0x00, 0x0d, 0x15, 0x06, 0x85, 0x94, 0x99, 0x00, 0x05, 0x03, 0xac, 0xa7, 0x08, 0x7d, 0x2b, 0x2a, 0x15, 0x04, 0x04, 0x60, 0x2e, 0x2a, 0x15, 0x04, 0x05, 0x60, 0x2e, 0x2a, 0x15, 0x04, 0x06, 0x60, 0x2e, 0x2d, 0xb8, 0x00, 0xe1, 0x36, 0x05, 0x2c, 0x2a, 0x15, 0x04, 0x04, 0x60, 0x2e, 0x2a, 0x15, 0x04, 0x05, 0x60, 0x2e, 0x2a, 0x15, 0x04, 0x06]
def lk_21 : List UInt8 := [0x60, 0x2e, 0xb6, 0x00, 0xe3, 0x36, 0x06, 0x2c, 0xb6, 0x00, 0xb2, 0x15, 0x05, 0x9f, 0x00, 0x05, 0x03, 0xac, 0x15, 0x05, 0x9a, 0x00, 0x10, 0x2d, 0xb4, 0x00, 0x0d, 0x15, 0x06, 0x85, 0x94, 0x99, 0x00, 0x05, 0x03, 0xac, 0xa7, 0x08, 0x2c, 0x2b, 0x2a, 0x15, 0x04, 0x04, 0x60, 0x2e, 0x2a, 0x15, 0x04, 0x05, 0x60, 0x2e, 0x2a, 0x15, 0x04, 0x06, 0x60, 0x2e, 0x2d, 0xb8, 0x00, 0xe4, 0x36, 0x05]
def lk_22 : List UInt8 := [0x2c, 0x2a, 0x15, 0x04, 0x04, 0x60, 0x2e, 0x2a, 0x15, 0x04, 0x05, 0x60, 0x2e, 0x2a, 0x15, 0x04, 0x06, 0x60, 0x2e, 0xb6, 0x00, 0xe6, 0x36, 0x06, 0x2c, 0xb6, 0x00, 0xb2, 0x15, 0x05, 0x9f, 0x00, 0x05, 0x03, 0xac, 0x15, 0x05, 0x9a, 0x00, 0x10, 0x2d, 0xb4, 0x00, 0x0d, 0x15, 0x06, 0x85, 0x94, 0x99, 0x00, 0x05, 0x03, 0xac, 0xa7, 0x07, 0xdb, 0x2b, 0x2a, 0x15, 0x04, 0x04, 0x60, 0x2e, 0x2a]
def lk_23 : List UInt8 := [0x15, 0x04, 0x05, 0x60, 0x2e, 0x2a, 0x15, 0x04, 0x06, 0x60, 0x2e, 0x2d, 0xb8, 0x00, 0xe7, 0x36, 0x05, 0x2c, 0x2a, 0x15, 0x04, 0x04, 0x60, 0x2e, 0x2a, 0x15, 0x04, 0x05, 0x60, 0x2e, 0x2a, 0x15, 0x04, 0x06, 0x60, 0x2e, 0xb6, 0x00, 0xe9, 0x36, 0x06, 0x2c, 0xb6, 0x00, 0xb2, 0x15, 0x05, 0x9f, 0x00, 0x05, 0x03, 0xac, 0x15, 0x05, 0x9a, 0x00, 0x10, 0x2d, 0xb4, 0x00, 0x0d, 0x15, 0x06, 0x85]
def lk_24 : List UInt8 := [0x94, 0x99, 0x00, 0x05, 0x03, 0xac, 0xa7, 0x07, 0x8a, 0x2b, 0x2a, 0x15, 0x04, 0x04, 0x60, 0x2e, 0x2a, 0x15, 0x04, 0x05, 0x60, 0x2e, 0x2a, 0x15, 0x04, 0x06, 0x60, 0x2e, 0x2a, 0x15, 0x04, 0x07, 0x60, 0x2e, 0x2d, 0xb8, 0x00, 0xea, 0x36, 0x05, 0x2c, 0x2a, 0x15, 0x04, 0x04, 0x60, 0x2e, 0x2a, 0x15, 0x04, 0x05, 0x60, 0x2e, 0x2a, 0x15, 0x04, 0x06, 0x60, 0x2e, 0x2a, 0x15, 0x04, 0x07, 0x60]
def lk_25 : List UInt8 := [0x2e, 0xb6, 0x00, 0xec, 0x36, 0x06, 0x2c, 0xb6, 0x00, 0xb2, 0x15, 0x05, 0x9f, 0x00, 0x05, 0x03, 0xac, 0x15, 0x05, 0x9a, 0x00, 0x10, 0x2d, 0xb4, 0x00, 0x0d, 0x15, 0x06, 0x85, 0x94, 0x99, 0x00, 0x05, 0x03, 0xac, 0xa7, 0x07, 0x2d, 0x2b, 0x2a, 0x15, 0x04, 0x04, 0x60, 0x2e, 0x2a, 0x15, 0x04, 0x05, 0x60, 0x2e, 0x2d, 0xb8, 0x00, 0xed, 0x36, 0x05, 0x2c, 0x2a, 0x15, 0x04, 0x04, 0x60, 0x2e]
def lk_26 : List UInt8 := [0x2a, 0x15, 0x04, 0x05, 0x60, 0x2e, 0xb6, 0x00, 0xef, 0x36, 0x06, 0x2c, 0xb6, 0x00, 0xb2, 0x15, 0x05, 0x9f, 0x00, 0x05, 0x03, 0xac, 0x15, 0x05, 0x9a, 0x00, 0x10, 0x2d, 0xb4, 0x00, 0x0d, 0x15, 0x06, 0x85, 0x94, 0x99, 0x00, 0x05, 0x03, 0xac, 0xa7, 0x06, 0xe8, 0x2b, 0x2a, 0x15, 0x04, 0x04, 0x60, 0x2e, 0x2d, 0xb8, 0x00, 0xf0, 0x36, 0x05, 0x2c, 0x2a, 0x15, 0x04, 0x04, 0x60, 0x2e, 0xb6]
def lk_27 : List UInt8 := [0x00, 0xf2, 0x36, 0x06, 0x2c, 0xb6, 0x00, 0xb2, 0x15, 0x05, 0x9f, 0x00, 0x05, 0x03, 0xac, 0x15, 0x05, 0x9a, 0x00, 0x10, 0x2d, 0xb4, 0x00, 0x0d, 0x15, 0x06, 0x85, 0x94, 0x99, 0x00, 0x05, 0x03, 0xac, 0xa7, 0x06, 0xaf, 0x2b, 0x2a, 0x15, 0x04, 0x04, 0x60, 0x2e, 0x2d, 0xb8, 0x00, 0xf3, 0x36, 0x05, 0x2c, 0x2a, 0x15, 0x04, 0x04, 0x60, 0x2e, 0xb6, 0x00, 0xf5, 0x36, 0x06, 0x2c, 0xb6, 0x00]
def lk_28 : List UInt8 := [0xb2, 0x15, 0x05, 0x9f, 0x00, 0x05, 0x03, 0xac, 0x15, 0x05, 0x9a, 0x00, 0x10, 0x2d, 0xb4, 0x00, 0x0d, 0x15, 0x06, 0x85, 0x94, 0x99, 0x00, 0x05, 0x03, 0xac, 0xa7, 0x06, 0x76, 0x2b, 0x2a, 0x15, 0x04, 0x04, 0x60, 0x2e, 0x2d, 0xb8, 0x00, 0xf6, 0x36, 0x05, 0x2c, 0x2a, 0x15, 0x04, 0x04, 0x60, 0x2e, 0xb6, 0x00, 0xf8, 0x36, 0x06, 0x2c, 0xb6, 0x00, 0xb2, 0x15, 0x05, 0x9f, 0x00, 0x05, 0x03]
def lk_29 : List UInt8 := [0xac, 0x15, 0x05, 0x9a, 0x00, 0x10, 0x2d, 0xb4, 0x00, 0x0d, 0x15, 0x06, 0x85, 0x94, 0x99, 0x00, 0x05, 0x03, 0xac, 0xa7, 0x06, 0x3d, 0x2b, 0x2a, 0x15, 0x04, 0x04, 0x60, 0x2e, 0x2a, 0x15, 0x04, 0x05, 0x60, 0x2e, 0x2d, 0xb8, 0x00, 0xf9, 0x36, 0x05, 0x2c, 0x2a, 0x15, 0x04, 0x04, 0x60, 0x2e, 0x2a, 0x15, 0x04, 0x05, 0x60, 0x2e, 0xb6, 0x00, 0xfb, 0x36, 0x06, 0x2c, 0xb6, 0x00, 0xb2, 0x15]
def lk_30 : List UInt8 := [0x05, 0x9f, 0x00, 0x05, 0x03, 0xac, 0x15, 0x05, 0x9a, 0x00, 0x17, 0x2d, 0xb4, 0x00, 0x0d, 0x15, 0x06, 0x99, 0x00, 0x07, 0x0a, 0xa7, 0x00, 0x04, 0x09, 0x94, 0x99, 0x00, 0x05, 0x03, 0xac, 0xa7, 0x05, 0xf1, 0x2b, 0x2a, 0x15, 0x04, 0x04, 0x60, 0x2e, 0x2d, 0xb8, 0x00, 0xfc, 0x36, 0x05, 0x2c, 0x2a, 0x15, 0x04, 0x04, 0x60, 0x2e, 0xb6, 0x00, 0xfe, 0x3a, 0x06, 0x2c, 0xb6, 0x00, 0xb2, 0x15]
def lk_31 : List UInt8 := [0x05, 0x9f, 0x00, 0x05, 0x03, 0xac, 0x15, 0x05, 0x9a, 0x00, 0x11, 0x2d, 0xb4, 0x00, 0x64, 0x19, 0x06, 0xb6, 0x00, 0xff, 0x9a, 0x00, 0x05, 0x03, 0xac, 0xa7, 0x05, 0xb7, 0x2b, 0x2a, 0x15, 0x04, 0x04, 0x60, 0x2e, 0x2a, 0x15, 0x04, 0x05, 0x60, 0x2e, 0x99, 0x00, 0x07, 0x04, 0xa7, 0x00, 0x04, 0x03, 0x2d, 0xb8, 0x01, 0x05, 0x36, 0x05, 0x2c, 0x2a, 0x15, 0x04, 0x04, 0x60, 0x2e, 0x2a, 0x15]
def lk_32 : List UInt8 := [0x04, 0x05, 0x60, 0x2e, 0x99, 0x00, 0x07, 0x04, 0xa7, 0x00, 0x04, 0x03, 0xb6, 0x01, 0x08, 0x36, 0x06, 0x2c, 0xb6, 0x00, 0xb2, 0x15, 0x05, 0x9f, 0x00, 0x05, 0x03, 0xac, 0x15, 0x05, 0x9a, 0x00, 0x10, 0x2d, 0xb4, 0x00, 0x0d, 0x15, 0x06, 0x85, 0x94, 0x99, 0x00, 0x05, 0x03, 0xac, 0xa7, 0x05, 0x62, 0x2b, 0x2a, 0x15, 0x04, 0x04, 0x60, 0x2e, 0x2a, 0x15, 0x04, 0x05, 0x60, 0x2e, 0x2a, 0x15]
def lk_33 : List UInt8 := [0x04, 0x06, 0x60, 0x2e, 0x2d, 0xb8, 0x01, 0x09, 0x36, 0x05, 0x2c, 0x2a, 0x15, 0x04, 0x04, 0x60, 0x2e, 0x2a, 0x15, 0x04, 0x05, 0x60, 0x2e, 0x2a, 0x15, 0x04, 0x06, 0x60, 0x2e, 0xb6, 0x01, 0x0b, 0x36, 0x06, 0x2c, 0xb6, 0x00, 0xb2, 0x15, 0x05, 0x9f, 0x00, 0x05, 0x03, 0xac, 0x15, 0x05, 0x9a, 0x00, 0x10, 0x2d, 0xb4, 0x00, 0x0d, 0x15, 0x06, 0x85, 0x94, 0x99, 0x00, 0x05, 0x03, 0xac, 0xa7]
def lk_34 : List UInt8 := [0x05, 0x11, 0x2b, 0x2a, 0x15, 0x04, 0x04, 0x60, 0x2e, 0x2a, 0x15, 0x04, 0x05, 0x60, 0x2e, 0x2a, 0x15, 0x04, 0x06, 0x60, 0x2e, 0x2d, 0xb8, 0x01, 0x0c, 0x36, 0x05, 0x2c, 0x2a, 0x15, 0x04, 0x04, 0x60, 0x2e, 0x2a, 0x15, 0x04, 0x05, 0x60, 0x2e, 0x2a, 0x15, 0x04, 0x06, 0x60, 0x2e, 0xb6, 0x01, 0x0e, 0x36, 0x06, 0x2c, 0xb6, 0x00, 0xb2, 0x15, 0x05, 0x9f, 0x00, 0x05, 0x03, 0xac, 0x15, 0x05]
def lk_35 : List UInt8 := [0x9a, 0x00, 0x10, 0x2d, 0xb4, 0x00, 0x0d, 0x15, 0x06, 0x85, 0x94, 0x99, 0x00, 0x05, 0x03, 0xac, 0xa7, 0x04, 0xc0, 0x2b, 0x2a, 0x15, 0x04, 0x04, 0x60, 0x2e, 0x2a, 0x15, 0x04, 0x05, 0x60, 0x2e, 0x2d, 0xb8, 0x01, 0x0f, 0x36, 0x05, 0x2c, 0x2a, 0x15, 0x04, 0x04, 0x60, 0x2e, 0x2a, 0x15, 0x04, 0x05, 0x60, 0x2e, 0xb6, 0x01, 0x11, 0x36, 0x06, 0x2c, 0xb6, 0x00, 0xb2, 0x15, 0x05, 0x9f, 0x00]
def lk_36 : List UInt8 := [0x05, 0x03, 0xac, 0x15, 0x05, 0x9a, 0x00, 0x10, 0x2d, 0xb4, 0x00, 0x0d, 0x15, 0x06, 0x85, 0x94, 0x99, 0x00, 0x05, 0x03, 0xac, 0xa7, 0x04, 0x7b, 0x2b, 0x2a, 0x15, 0x04, 0x04, 0x60, 0x2e, 0x2d, 0xb8, 0x01, 0x12, 0x36, 0x05, 0x2c, 0x2a, 0x15, 0x04, 0x04, 0x60, 0x2e, 0xb6, 0x01, 0x14, 0x36, 0x06, 0x2c, 0xb6, 0x00, 0xb2, 0x15, 0x05, 0x9f, 0x00, 0x05, 0x03, 0xac, 0x15, 0x05, 0x9a, 0x00]
def lk_37 : List UInt8 := [0x17, 0x2d, 0xb4, 0x00, 0x0d, 0x15, 0x06, 0x99, 0x00, 0x07, 0x0a, 0xa7, 0x00, 0x04, 0x09, 0x94, 0x99, 0x00, 0x05, 0x03, 0xac, 0xa7, 0x04, 0x3b, 0x2b, 0x2a, 0x15, 0x04, 0x04, 0x60, 0x2e, 0x2a, 0x15, 0x04, 0x05, 0x60, 0x2e, 0x2a, 0x15, 0x04, 0x06, 0x60, 0x2e, 0x99, 0x00, 0x07, 0x04, 0xa7, 0x00, 0x04, 0x03, 0x2d, 0xb8, 0x01, 0x15, 0x36, 0x05, 0x2c, 0x2a, 0x15, 0x04, 0x04, 0x60, 0x2e]
def lk_38 : List UInt8 := [0x2a, 0x15, 0x04, 0x05, 0x60, 0x2e, 0x2a, 0x15, 0x04, 0x06, 0x60, 0x2e, 0x99, 0x00, 0x07, 0x04, 0xa7, 0x00, 0x04, 0x03, 0xb6, 0x01, 0x17, 0x36, 0x06, 0x2c, 0xb6, 0x00, 0xb2, 0x15, 0x05, 0x9f, 0x00, 0x05, 0x03, 0xac, 0x15, 0x05, 0x9a, 0x00, 0x10, 0x2d, 0xb4, 0x00, 0x0d, 0x15, 0x06, 0x85, 0x94, 0x99, 0x00, 0x05, 0x03, 0xac, 0xa7, 0x03, 0xda, 0x2b, 0x2a, 0x15, 0x04, 0x04, 0x60, 0x2e]
def lk_39 : List UInt8 := [0x2a, 0x15, 0x04, 0x05, 0x60, 0x2e, 0x2a, 0x15, 0x04, 0x06, 0x60, 0x2e, 0x99, 0x00, 0x07, 0x04, 0xa7, 0x00, 0x04, 0x03, 0x2d, 0xb8, 0x01, 0x18, 0x36, 0x05, 0x2c, 0x2a, 0x15, 0x04, 0x04, 0x60, 0x2e, 0x2a, 0x15, 0x04, 0x05, 0x60, 0x2e, 0x2a, 0x15, 0x04, 0x06, 0x60, 0x2e, 0x99, 0x00, 0x07, 0x04, 0xa7, 0x00, 0x04, 0x03, 0xb6, 0x01, 0x1a, 0x36, 0x06, 0x2c, 0xb6, 0x00, 0xb2, 0x15, 0x05]
def lk_40 : List UInt8 := [0x9f, 0x00, 0x05, 0x03, 0xac, 0x15, 0x05, 0x9a, 0x00, 0x10, 0x2d, 0xb4, 0x00, 0x0d, 0x15, 0x06, 0x85, 0x94, 0x99, 0x00, 0x05, 0x03, 0xac, 0xa7, 0x03, 0x79, 0x2b, 0x2a, 0x15, 0x04, 0x04, 0x60, 0x2e, 0x2d, 0xb8, 0x01, 0x1b, 0x36, 0x05, 0x2c, 0x2a, 0x15, 0x04, 0x04, 0x60, 0x2e, 0xb6, 0x01, 0x1d, 0x36, 0x06, 0x2c, 0xb6, 0x00, 0xb2, 0x15, 0x05, 0x9f, 0x00, 0x05, 0x03, 0xac, 0x15, 0x05]
def lk_41 : List UInt8 := [0x9a, 0x00, 0x10, 0x2d, 0xb4, 0x00, 0x0d, 0x15, 0x06, 0x85, 0x94, 0x99, 0x00, 0x05, 0x03, 0xac, 0xa7, 0x03, 0x40, 0x2b, 0x2a, 0x15, 0x04, 0x04, 0x60, 0x2e, 0x2d, 0xb8, 0x01, 0x1e, 0x36, 0x05, 0x2c, 0x2a, 0x15, 0x04, 0x04, 0x60, 0x2e, 0xb6, 0x01, 0x20, 0x36, 0x06, 0x2c, 0xb6, 0x00, 0xb2, 0x15, 0x05, 0x9f, 0x00, 0x05, 0x03, 0xac, 0x15, 0x05, 0x9a, 0x00, 0x10, 0x2d, 0xb4, 0x00, 0x0d]
def lk_42 : List UInt8 := [0x15, 0x06, 0x85, 0x94, 0x99, 0x00, 0x05, 0x03, 0xac, 0xa7, 0x03, 0x07, 0x2b, 0x2a, 0x15, 0x04, 0x04, 0x60, 0x2e, 0x2d, 0xb8, 0x01, 0x21, 0x36, 0x05, 0x2c, 0x2a, 0x15, 0x04, 0x04, 0x60, 0x2e, 0xb6, 0x01, 0x23, 0x36, 0x06, 0x2c, 0xb6, 0x00, 0xb2, 0x15, 0x05, 0x9f, 0x00, 0x05, 0x03, 0xac, 0x15, 0x05, 0x9a, 0x00, 0x10, 0x2d, 0xb4, 0x00, 0x0d, 0x15, 0x06, 0x85, 0x94, 0x99, 0x00, 0x05]
def lk_43 : List UInt8 := [0x03, 0xac, 0xa7, 0x02, 0xce, 0x2b, 0x2a, 0x15, 0x04, 0x04, 0x60, 0x2e, 0x2d, 0xb8, 0x01, 0x24, 0x36, 0x05, 0x2c, 0x2a, 0x15, 0x04, 0x04, 0x60, 0x2e, 0xb6, 0x01, 0x26, 0x36, 0x06, 0x2c, 0xb6, 0x00, 0xb2, 0x15, 0x05, 0x9f, 0x00, 0x05, 0x03, 0xac, 0x15, 0x05, 0x9a, 0x00, 0x10, 0x2d, 0xb4, 0x00, 0x0d, 0x15, 0x06, 0x85, 0x94, 0x99, 0x00, 0x05, 0x03, 0xac, 0xa7, 0x02, 0x95, 0x2b, 0x2a]
def lk_44 : List UInt8 := [0x15, 0x04, 0x04, 0x60, 0x2e, 0x2d, 0xb8, 0x01, 0x27, 0x36, 0x05, 0x2c, 0x2a, 0x15, 0x04, 0x04, 0x60, 0x2e, 0xb6, 0x01, 0x29, 0x36, 0x06, 0x2c, 0xb6, 0x00, 0xb2, 0x15, 0x05, 0x9f, 0x00, 0x05, 0x03, 0xac, 0x15, 0x05, 0x9a, 0x00, 0x10, 0x2d, 0xb4, 0x00, 0x0d, 0x15, 0x06, 0x85, 0x94, 0x99, 0x00, 0x05, 0x03, 0xac, 0xa7, 0x02, 0x5c, 0x2b, 0x2a, 0x15, 0x04, 0x04, 0x60, 0x2e, 0x2a, 0x15]
def lk_45 : List UInt8 := [0x04, 0x05, 0x60, 0x2e, 0x2d, 0xb8, 0x01, 0x2a, 0x36, 0x05, 0x2c, 0x2a, 0x15, 0x04, 0x04, 0x60, 0x2e, 0x2a, 0x15, 0x04, 0x05, 0x60, 0x2e, 0xb6, 0x01, 0x2c, 0x36, 0x06, 0x2c, 0xb6, 0x00, 0xb2, 0x15, 0x05, 0x9f, 0x00, 0x05, 0x03, 0xac, 0x15, 0x05, 0x9a, 0x00, 0x17, 0x2d, 0xb4, 0x00, 0x0d, 0x15, 0x06, 0x99, 0x00, 0x07, 0x0a, 0xa7, 0x00, 0x04, 0x09, 0x94, 0x99, 0x00, 0x05, 0x03, 0xac]
def lk_46 : List UInt8 := [0xa7, 0x02, 0x10, 0x2b, 0x2a, 0x15, 0x04, 0x04, 0x60, 0x2e, 0x2d, 0xb8, 0x01, 0x2d, 0x36, 0x05, 0x2c, 0x2a, 0x15, 0x04, 0x04, 0x60, 0x2e, 0xb6, 0x01, 0x2f, 0x3a, 0x06, 0x2c, 0xb6, 0x00, 0xb2, 0x15, 0x05, 0x9f, 0x00, 0x05, 0x03, 0xac, 0x15, 0x05, 0x9a, 0x00, 0x11, 0x2d, 0xb4, 0x00, 0x64, 0x19, 0x06, 0xb6, 0x00, 0xff, 0x9a, 0x00, 0x05, 0x03, 0xac, 0xa7, 0x01, 0xd6, 0x2b, 0x2a, 0x15]
def lk_47 : List UInt8 := [0x04, 0x04, 0x60, 0x2e, 0x2a, 0x15, 0x04, 0x05, 0x60, 0x2e, 0x99, 0x00, 0x07, 0x04, 0xa7, 0x00, 0x04, 0x03, 0x2d, 0xb8, 0x01, 0x30, 0x36, 0x05, 0x2c, 0x2a, 0x15, 0x04, 0x04, 0x60, 0x2e, 0x2a, 0x15, 0x04, 0x05, 0x60, 0x2e, 0x99, 0x00, 0x07, 0x04, 0xa7, 0x00, 0x04, 0x03, 0xb6, 0x01, 0x32, 0x3a, 0x06, 0x2c, 0xb6, 0x00, 0xb2, 0x15, 0x05, 0x9f, 0x00, 0x05, 0x03, 0xac, 0x15, 0x05, 0x9a]
def lk_48 : List UInt8 := [0x00, 0x11, 0x2d, 0xb4, 0x00, 0x64, 0x19, 0x06, 0xb6, 0x00, 0xff, 0x9a, 0x00, 0x05, 0x03, 0xac, 0xa7, 0x01, 0x80, 0x2b, 0x2a, 0x15, 0x04, 0x04, 0x60, 0x2e, 0x2a, 0x15, 0x04, 0x05, 0x60, 0x2e, 0x99, 0x00, 0x07, 0x04, 0xa7, 0x00, 0x04, 0x03, 0x2d, 0xb8, 0x01, 0x33, 0x36, 0x05, 0x2c, 0x2a, 0x15, 0x04, 0x04, 0x60, 0x2e, 0x2a, 0x15, 0x04, 0x05, 0x60, 0x2e, 0x99, 0x00, 0x07, 0x04, 0xa7]
def lk_49 : List UInt8 := [0x00, 0x04, 0x03, 0xb6, 0x01, 0x35, 0x36, 0x06, 0x2c, 0xb6, 0x00, 0xb2, 0x15, 0x05, 0x9f, 0x00, 0x05, 0x03, 0xac, 0x15, 0x05, 0x9a, 0x00, 0x10, 0x2d, 0xb4, 0x00, 0x0d, 0x15, 0x06, 0x85, 0x94, 0x99, 0x00, 0x05, 0x03, 0xac, 0xa7, 0x01, 0x2b, 0x2b, 0x2a, 0x15, 0x04, 0x04, 0x60, 0x2e, 0x2a, 0x15, 0x04, 0x05, 0x60, 0x2e, 0x99, 0x00, 0x07, 0x04, 0xa7, 0x00, 0x04, 0x03, 0x2d, 0xb8, 0x01]
def lk_50 : List UInt8 := [0x36, 0x36, 0x05, 0x2c, 0x2a, 0x15, 0x04, 0x04, 0x60, 0x2e, 0x2a, 0x15, 0x04, 0x05, 0x60, 0x2e, 0x99, 0x00, 0x07, 0x04, 0xa7, 0x00, 0x04, 0x03, 0xb6, 0x01, 0x38, 0x36, 0x06, 0x2c, 0xb6, 0x00, 0xb2, 0x15, 0x05, 0x9f, 0x00, 0x05, 0x03, 0xac, 0x15, 0x05, 0x9a, 0x00, 0x10, 0x2d, 0xb4, 0x00, 0x0d, 0x15, 0x06, 0x85, 0x94, 0x99, 0x00, 0x05, 0x03, 0xac, 0xa7, 0x00, 0xd6, 0x2b, 0x2a, 0x15]
def lk_51 : List UInt8 := [0x04, 0x04, 0x60, 0x2e, 0x2d, 0xb8, 0x01, 0x39, 0x36, 0x05, 0x2c, 0x2a, 0x15, 0x04, 0x04, 0x60, 0x2e, 0xb6, 0x01, 0x3b, 0x36, 0x06, 0x2c, 0xb6, 0x00, 0xb2, 0x15, 0x05, 0x9f, 0x00, 0x05, 0x03, 0xac, 0x15, 0x05, 0x9a, 0x00, 0x10, 0x2d, 0xb4, 0x00, 0x0d, 0x15, 0x06, 0x85, 0x94, 0x99, 0x00, 0x05, 0x03, 0xac, 0xa7, 0x00, 0x9d, 0x2b, 0x2a, 0x15, 0x04, 0x04, 0x60, 0x2e, 0x2d, 0xb8, 0x01]
def lk_52 : List UInt8 := [0x3c, 0x36, 0x05, 0x2c, 0x2a, 0x15, 0x04, 0x04, 0x60, 0x2e, 0xb6, 0x01, 0x3e, 0x36, 0x06, 0x2c, 0xb6, 0x00, 0xb2, 0x15, 0x05, 0x9f, 0x00, 0x05, 0x03, 0xac, 0x15, 0x05, 0x9a, 0x00, 0x10, 0x2d, 0xb4, 0x00, 0x0d, 0x15, 0x06, 0x85, 0x94, 0x99, 0x00, 0x05, 0x03, 0xac, 0xa7, 0x00, 0x64, 0x2b, 0x2a, 0x15, 0x04, 0x04, 0x60, 0x2e, 0x2d, 0xb8, 0x01, 0x3f, 0x36, 0x05, 0x2c, 0x2a, 0x15, 0x04]
def lk_53 : List UInt8 := [0x04, 0x60, 0x2e, 0xb6, 0x01, 0x41, 0x36, 0x06, 0x2c, 0xb6, 0x00, 0xb2, 0x15, 0x05, 0x9f, 0x00, 0x05, 0x03, 0xac, 0x15, 0x05, 0x9a, 0x00, 0x10, 0x2d, 0xb4, 0x00, 0x0d, 0x15, 0x06, 0x85, 0x94, 0x99, 0x00, 0x05, 0x03, 0xac, 0xa7, 0x00, 0x2b, 0x2b, 0xb6, 0x01, 0x42, 0x2c, 0xb6, 0x01, 0x45, 0x9f, 0x00, 0x20, 0x03, 0xac, 0x2b, 0xb6, 0x01, 0x46, 0x2c, 0xb6, 0x01, 0x4a, 0x9f, 0x00, 0x13]
def lk_54 : List UInt8 := [0x03, 0xac, 0x2b, 0xb6, 0x01, 0x4b, 0x2c, 0xb6, 0x01, 0x4f, 0x94, 0x99, 0x00, 0x05, 0x03, 0xac, 0x84, 0x04, 0x05, 0xa7, 0xf2, 0x88, 0x04, 0xac]
def tk_54 : List UInt8 := lk_54 ++ []
def tk_53 : List UInt8 := lk_53 ++ tk_54
def tk_52 : List UInt8 := lk_52 ++ tk_53
def tk_51 : List UInt8 := lk_51 ++ tk_52
def tk_50 : List UInt8 := lk_50 ++ tk_51
def tk_49 : List UInt8 := lk_49 ++ tk_50
def tk_48 : List UInt8 := lk_48 ++ tk_49
def tk_47 : List UInt8 := lk_47 ++ tk_48
def tk_46 : List UInt8 := lk_46 ++ tk_47
def tk_45 : List UInt8 := lk_45 ++ tk_46
def tk_44 : List UInt8 := lk_44 ++ tk_45
def tk_43 : List UInt8 := lk_43 ++ tk_44
def tk_42 : List UInt8 := lk_42 ++ tk_43
def tk_41 : List UInt8 := lk_41 ++ tk_42
def tk_40 : List UInt8 := lk_40 ++ tk_41
def tk_39 : List UInt8 := lk_39 ++ tk_40
def tk_38 : List UInt8 := lk_38 ++ tk_39
def tk_37 : List UInt8 := lk_37 ++ tk_38
def tk_36 : List UInt8 := lk_36 ++ tk_37
def tk_35 : List UInt8 := lk_35 ++ tk_36
def tk_34 : List UInt8 := lk_34 ++ tk_35
def tk_33 : List UInt8 := lk_33 ++ tk_34
def tk_32 : List UInt8 := lk_32 ++ tk_33
def tk_31 : List UInt8 := lk_31 ++ tk_32
def tk_30 : List UInt8 := lk_30 ++ tk_31
def tk_29 : List UInt8 := lk_29 ++ tk_30
def tk_28 : List UInt8 := lk_28 ++ tk_29
def tk_27 : List UInt8 := lk_27 ++ tk_28
def tk_26 : List UInt8 := lk_26 ++ tk_27
def tk_25 : List UInt8 := lk_25 ++ tk_26
def tk_24 : List UInt8 := lk_24 ++ tk_25
def tk_23 : List UInt8 := lk_23 ++ tk_24
def tk_22 : List UInt8 := lk_22 ++ tk_23
def tk_21 : List UInt8 := lk_21 ++ tk_22
def tk_20 : List UInt8 := lk_20 ++ tk_21
def tk_19 : List UInt8 := lk_19 ++ tk_20
def tk_18 : List UInt8 := lk_18 ++ tk_19
def tk_17 : List UInt8 := lk_17 ++ tk_18
def tk_16 : List UInt8 := lk_16 ++ tk_17
def tk_15 : List UInt8 := lk_15 ++ tk_16
def tk_14 : List UInt8 := lk_14 ++ tk_15
def tk_13 : List UInt8 := lk_13 ++ tk_14
def tk_12 : List UInt8 := lk_12 ++ tk_13
def tk_11 : List UInt8 := lk_11 ++ tk_12
def tk_10 : List UInt8 := lk_10 ++ tk_11
def tk_9 : List UInt8 := lk_9 ++ tk_10
def tk_8 : List UInt8 := lk_8 ++ tk_9
def tk_7 : List UInt8 := lk_7 ++ tk_8
def tk_6 : List UInt8 := lk_6 ++ tk_7
def tk_5 : List UInt8 := lk_5 ++ tk_6
def tk_4 : List UInt8 := lk_4 ++ tk_5
def tk_3 : List UInt8 := lk_3 ++ tk_4
def tk_2 : List UInt8 := lk_2 ++ tk_3
def tk_1 : List UInt8 := lk_1 ++ tk_2
def tk_0 : List UInt8 := lk_0 ++ tk_1
theorem dr_0 : code.data.toList.drop 0 = lk_0 ++ tk_1 := by decide +kernel
theorem dr_1 : code.data.toList.drop 64 = lk_1 ++ tk_2 := dr_step dr_0 rfl
theorem dr_2 : code.data.toList.drop 128 = lk_2 ++ tk_3 := dr_step dr_1 rfl
theorem dr_3 : code.data.toList.drop 192 = lk_3 ++ tk_4 := dr_step dr_2 rfl
theorem dr_4 : code.data.toList.drop 256 = lk_4 ++ tk_5 := dr_step dr_3 rfl
theorem dr_5 : code.data.toList.drop 320 = lk_5 ++ tk_6 := dr_step dr_4 rfl
theorem dr_6 : code.data.toList.drop 384 = lk_6 ++ tk_7 := dr_step dr_5 rfl
theorem dr_7 : code.data.toList.drop 448 = lk_7 ++ tk_8 := dr_step dr_6 rfl
theorem dr_8 : code.data.toList.drop 512 = lk_8 ++ tk_9 := dr_step dr_7 rfl
theorem dr_9 : code.data.toList.drop 576 = lk_9 ++ tk_10 := dr_step dr_8 rfl
theorem dr_10 : code.data.toList.drop 640 = lk_10 ++ tk_11 := dr_step dr_9 rfl
theorem dr_11 : code.data.toList.drop 704 = lk_11 ++ tk_12 := dr_step dr_10 rfl
theorem dr_12 : code.data.toList.drop 768 = lk_12 ++ tk_13 := dr_step dr_11 rfl
theorem dr_13 : code.data.toList.drop 832 = lk_13 ++ tk_14 := dr_step dr_12 rfl
theorem dr_14 : code.data.toList.drop 896 = lk_14 ++ tk_15 := dr_step dr_13 rfl
theorem dr_15 : code.data.toList.drop 960 = lk_15 ++ tk_16 := dr_step dr_14 rfl
theorem dr_16 : code.data.toList.drop 1024 = lk_16 ++ tk_17 := dr_step dr_15 rfl
theorem dr_17 : code.data.toList.drop 1088 = lk_17 ++ tk_18 := dr_step dr_16 rfl
theorem dr_18 : code.data.toList.drop 1152 = lk_18 ++ tk_19 := dr_step dr_17 rfl
theorem dr_19 : code.data.toList.drop 1216 = lk_19 ++ tk_20 := dr_step dr_18 rfl
theorem dr_20 : code.data.toList.drop 1280 = lk_20 ++ tk_21 := dr_step dr_19 rfl
theorem dr_21 : code.data.toList.drop 1344 = lk_21 ++ tk_22 := dr_step dr_20 rfl
theorem dr_22 : code.data.toList.drop 1408 = lk_22 ++ tk_23 := dr_step dr_21 rfl
theorem dr_23 : code.data.toList.drop 1472 = lk_23 ++ tk_24 := dr_step dr_22 rfl
theorem dr_24 : code.data.toList.drop 1536 = lk_24 ++ tk_25 := dr_step dr_23 rfl
theorem dr_25 : code.data.toList.drop 1600 = lk_25 ++ tk_26 := dr_step dr_24 rfl
theorem dr_26 : code.data.toList.drop 1664 = lk_26 ++ tk_27 := dr_step dr_25 rfl
theorem dr_27 : code.data.toList.drop 1728 = lk_27 ++ tk_28 := dr_step dr_26 rfl
theorem dr_28 : code.data.toList.drop 1792 = lk_28 ++ tk_29 := dr_step dr_27 rfl
theorem dr_29 : code.data.toList.drop 1856 = lk_29 ++ tk_30 := dr_step dr_28 rfl
theorem dr_30 : code.data.toList.drop 1920 = lk_30 ++ tk_31 := dr_step dr_29 rfl
theorem dr_31 : code.data.toList.drop 1984 = lk_31 ++ tk_32 := dr_step dr_30 rfl
theorem dr_32 : code.data.toList.drop 2048 = lk_32 ++ tk_33 := dr_step dr_31 rfl
theorem dr_33 : code.data.toList.drop 2112 = lk_33 ++ tk_34 := dr_step dr_32 rfl
theorem dr_34 : code.data.toList.drop 2176 = lk_34 ++ tk_35 := dr_step dr_33 rfl
theorem dr_35 : code.data.toList.drop 2240 = lk_35 ++ tk_36 := dr_step dr_34 rfl
theorem dr_36 : code.data.toList.drop 2304 = lk_36 ++ tk_37 := dr_step dr_35 rfl
theorem dr_37 : code.data.toList.drop 2368 = lk_37 ++ tk_38 := dr_step dr_36 rfl
theorem dr_38 : code.data.toList.drop 2432 = lk_38 ++ tk_39 := dr_step dr_37 rfl
theorem dr_39 : code.data.toList.drop 2496 = lk_39 ++ tk_40 := dr_step dr_38 rfl
theorem dr_40 : code.data.toList.drop 2560 = lk_40 ++ tk_41 := dr_step dr_39 rfl
theorem dr_41 : code.data.toList.drop 2624 = lk_41 ++ tk_42 := dr_step dr_40 rfl
theorem dr_42 : code.data.toList.drop 2688 = lk_42 ++ tk_43 := dr_step dr_41 rfl
theorem dr_43 : code.data.toList.drop 2752 = lk_43 ++ tk_44 := dr_step dr_42 rfl
theorem dr_44 : code.data.toList.drop 2816 = lk_44 ++ tk_45 := dr_step dr_43 rfl
theorem dr_45 : code.data.toList.drop 2880 = lk_45 ++ tk_46 := dr_step dr_44 rfl
theorem dr_46 : code.data.toList.drop 2944 = lk_46 ++ tk_47 := dr_step dr_45 rfl
theorem dr_47 : code.data.toList.drop 3008 = lk_47 ++ tk_48 := dr_step dr_46 rfl
theorem dr_48 : code.data.toList.drop 3072 = lk_48 ++ tk_49 := dr_step dr_47 rfl
theorem dr_49 : code.data.toList.drop 3136 = lk_49 ++ tk_50 := dr_step dr_48 rfl
theorem dr_50 : code.data.toList.drop 3200 = lk_50 ++ tk_51 := dr_step dr_49 rfl
theorem dr_51 : code.data.toList.drop 3264 = lk_51 ++ tk_52 := dr_step dr_50 rfl
theorem dr_52 : code.data.toList.drop 3328 = lk_52 ++ tk_53 := dr_step dr_51 rfl
theorem dr_53 : code.data.toList.drop 3392 = lk_53 ++ tk_54 := dr_step dr_52 rfl
theorem dr_54 : code.data.toList.drop 3456 = lk_54 ++ [] := dr_step dr_53 rfl
theorem dL_law_0 : decode cL_law 0 = .ok (.new 8, 3) := e_187 (x := 0) (y := 8) dr_0 0 rfl rfl
theorem dL_law_3 : decode cL_law 3 = .ok (.dup, 1) := dec_89 (gB dr_0 3 rfl rfl)
theorem dL_law_4 : decode cL_law 4 = .ok (.invokespecial 167, 3) := e_183 (x := 0) (y := 167) dr_0 4 rfl rfl
theorem dL_law_7 : decode cL_law 7 = .ok (.astore_n 1, 1) := dec_76 (gB dr_0 7 rfl rfl)
theorem dL_law_8 : decode cL_law 8 = .ok (.new 168, 3) := e_187 (x := 0) (y := 168) dr_0 8 rfl rfl
theorem dL_law_11 : decode cL_law 11 = .ok (.dup, 1) := dec_89 (gB dr_0 11 rfl rfl)
theorem dL_law_12 : decode cL_law 12 = .ok (.invokespecial 170, 3) := e_183 (x := 0) (y := 170) dr_0 12 rfl rfl
theorem dL_law_15 : decode cL_law 15 = .ok (.astore_n 2, 1) := dec_77 (gB dr_0 15 rfl rfl)
theorem dL_law_16 : decode cL_law 16 = .ok (.new 14, 3) := e_187 (x := 0) (y := 14) dr_0 16 rfl rfl
theorem dL_law_19 : decode cL_law 19 = .ok (.dup, 1) := dec_89 (gB dr_0 19 rfl rfl)
theorem dL_law_20 : decode cL_law 20 = .ok (.invokespecial 171, 3) := e_183 (x := 0) (y := 171) dr_0 20 rfl rfl
theorem dL_law_23 : decode cL_law 23 = .ok (.astore_n 3, 1) := dec_78 (gB dr_0 23 rfl rfl)
theorem dL_law_24 : decode cL_law 24 = .ok (.iconst 0, 1) := dec_3 (gB dr_0 24 rfl rfl)
theorem dL_law_25 : decode cL_law 25 = .ok (.istore 4, 2) := e_54 (x := 4) dr_0 25 rfl rfl
theorem dL_law_27 : decode cL_law 27 = .ok (.iload 4, 2) := e_21 (x := 4) dr_0 27 rfl rfl
theorem dL_law_29 : decode cL_law 29 = .ok (.aload_n 0, 1) := dec_42 (gB dr_0 29 rfl rfl)
theorem dL_law_30 : decode cL_law 30 = .ok (.arraylength, 1) := dec_190 (gB dr_0 30 rfl rfl)
theorem dL_law_31 : decode cL_law 31 = .ok (.iconst 5, 1) := dec_8 (gB dr_0 31 rfl rfl)
theorem dL_law_32 : decode cL_law 32 = .ok (.isub, 1) := dec_100 (gB dr_0 32 rfl rfl)
theorem dL_law_33 : decode cL_law 33 = .ok (.if_icmp .gt 3445, 3) := e_163 (x := 13) (y := 117) dr_0 33 rfl rfl
theorem dL_law_36 : decode cL_law 36 = .ok (.aload_n 0, 1) := dec_42 (gB dr_0 36 rfl rfl)
theorem dL_law_37 : decode cL_law 37 = .ok (.iload 4, 2) := e_21 (x := 4) dr_0 37 rfl rfl
theorem dL_law_39 : decode cL_law 39 = .ok (.iaload, 1) := dec_46 (gB dr_0 39 rfl rfl)
theorem dL_law_40 : decode cL_law 40 = .ok (.bipush 63, 2) := e_16 (x := 63) dr_0 40 rfl rfl
theorem dL_law_42 : decode cL_law 42 = .ok (.iand, 1) := dec_126 (gB dr_0 42 rfl rfl)
theorem dL_law_43 : decode cL_law 43 = .ok (.tableswitch 3429 0 46 #[201, 270, 339, 436, 517, 614, 683, 764, 857, 926, 983, 1040, 1109, 1178, 1259, 1340, 1421, 1502, 1595, 1664, 1721, 1778, 1835, 1911, 1969, 2054, 2135, 2216, 2285, 2349, 2446, 2543, 2600, 2657, 2714, 2771, 2828, 2904, 2962, 3048, 3133, 3218, 3275, 3332, 3389, 3402, 3415], 201) := by decide +kernel
theorem dL_law_244 : decode cL_law 244 = .ok (.aload_n 1, 1) := dec_43 (gB dr_3 52 rfl rfl)
theorem dL_law_245 : decode cL_law 245 = .ok (.aload_n 0, 1) := dec_42 (gB dr_3 53 rfl rfl)
theorem dL_law_246 : decode cL_law 246 = .ok (.iload 4, 2) := e_21 (x := 4) dr_3 54 rfl rfl
theorem dL_law_248 : decode cL_law 248 = .ok (.iconst 1, 1) := dec_4 (gB dr_3 56 rfl rfl)
theorem dL_law_249 : decode cL_law 249 = .ok (.iadd, 1) := dec_96 (gB dr_3 57 rfl rfl)
theorem dL_law_250 : decode cL_law 250 = .ok (.iaload, 1) := dec_46 (gB dr_3 58 rfl rfl)
theorem dL_law_251 : decode cL_law 251 = .ok (.aload_n 0, 1) := dec_42 (gB dr_3 59 rfl rfl)
theorem dL_law_252 : decode cL_law 252 = .ok (.iload 4, 2) := e_21 (x := 4) dr_3 60 rfl rfl
theorem dL_law_254 : decode cL_law 254 = .ok (.iconst 2, 1) := dec_5 (gB dr_3 62 rfl rfl)
theorem dL_law_255 : decode cL_law 255 = .ok (.iadd, 1) := dec_96 (gB dr_3 63 rfl rfl)
theorem dL_law_256 : decode cL_law 256 = .ok (.iaload, 1) := dec_46 (gB dr_4 0 rfl rfl)
theorem dL_law_257 : decode cL_law 257 = .ok (.aload_n 3, 1) := dec_45 (gB dr_4 1 rfl rfl)
theorem dL_law_258 : decode cL_law 258 = .ok (.invokestatic 172, 3) := e_184 (x := 0) (y := 172) dr_4 2 rfl rfl
theorem dL_law_261 : decode cL_law 261 = .ok (.istore 5, 2) := e_54 (x := 5) dr_4 5 rfl rfl
theorem dL_law_263 : decode cL_law 263 = .ok (.aload_n 2, 1) := dec_44 (gB dr_4 7 rfl rfl)
theorem dL_law_264 : decode cL_law 264 = .ok (.aload_n 0, 1) := dec_42 (gB dr_4 8 rfl rfl)
theorem dL_law_265 : decode cL_law 265 = .ok (.iload 4, 2) := e_21 (x := 4) dr_4 9 rfl rfl
theorem dL_law_267 : decode cL_law 267 = .ok (.iconst 1, 1) := dec_4 (gB dr_4 11 rfl rfl)
theorem dL_law_268 : decode cL_law 268 = .ok (.iadd, 1) := dec_96 (gB dr_4 12 rfl rfl)
theorem dL_law_269 : decode cL_law 269 = .ok (.iaload, 1) := dec_46 (gB dr_4 13 rfl rfl)
theorem dL_law_270 : decode cL_law 270 = .ok (.aload_n 0, 1) := dec_42 (gB dr_4 14 rfl rfl)
theorem dL_law_271 : decode cL_law 271 = .ok (.iload 4, 2) := e_21 (x := 4) dr_4 15 rfl rfl
theorem dL_law_273 : decode cL_law 273 = .ok (.iconst 2, 1) := dec_5 (gB dr_4 17 rfl rfl)
theorem dL_law_274 : decode cL_law 274 = .ok (.iadd, 1) := dec_96 (gB dr_4 18 rfl rfl)
theorem dL_law_275 : decode cL_law 275 = .ok (.iaload, 1) := dec_46 (gB dr_4 19 rfl rfl)
theorem dL_law_276 : decode cL_law 276 = .ok (.invokevirtual 177, 3) := e_182 (x := 0) (y := 177) dr_4 20 rfl rfl
theorem dL_law_279 : decode cL_law 279 = .ok (.istore 6, 2) := e_54 (x := 6) dr_4 23 rfl rfl
theorem dL_law_281 : decode cL_law 281 = .ok (.aload_n 2, 1) := dec_44 (gB dr_4 25 rfl rfl)
theorem dL_law_282 : decode cL_law 282 = .ok (.invokevirtual 178, 3) := e_182 (x := 0) (y := 178) dr_4 26 rfl rfl
theorem dL_law_285 : decode cL_law 285 = .ok (.iload 5, 2) := e_21 (x := 5) dr_4 29 rfl rfl
theorem dL_law_287 : decode cL_law 287 = .ok (.if_icmp .eq 5, 3) := e_159 (x := 0) (y := 5) dr_4 31 rfl rfl
theorem dL_law_290 : decode cL_law 290 = .ok (.iconst 0, 1) := dec_3 (gB dr_4 34 rfl rfl)
theorem dL_law_292 : decode cL_law 292 = .ok (.iload 5, 2) := e_21 (x := 5) dr_4 36 rfl rfl
theorem dL_law_294 : decode cL_law 294 = .ok (.ifCond .ne 16, 3) := e_154 (x := 0) (y := 16) dr_4 38 rfl rfl
theorem dL_law_297 : decode cL_law 297 = .ok (.aload_n 3, 1) := dec_45 (gB dr_4 41 rfl rfl)
theorem dL_law_298 : decode cL_law 298 = .ok (.getfield 13, 3) := e_180 (x := 0) (y := 13) dr_4 42 rfl rfl
theorem dL_law_301 : decode cL_law 301 = .ok (.iload 6, 2) := e_21 (x := 6) dr_4 45 rfl rfl
theorem dL_law_303 : decode cL_law 303 = .ok (.i2l, 1) := dec_133 (gB dr_4 47 rfl rfl)
theorem dL_law_304 : decode cL_law 304 = .ok (.lcmp, 1) := dec_148 (gB dr_4 48 rfl rfl)
theorem dL_law_305 : decode cL_law 305 = .ok (.ifCond .eq 5, 3) := e_153 (x := 0) (y := 5) dr_4 49 rfl rfl
theorem dL_law_308 : decode cL_law 308 = .ok (.iconst 0, 1) := dec_3 (gB dr_4 52 rfl rfl)
theorem dL_law_310 : decode cL_law 310 = .ok (.goto 3162, 3) := e_167 (x := 12) (y := 90) dr_4 54 rfl rfl
theorem dL_law_313 : decode cL_law 313 = .ok (.aload_n 1, 1) := dec_43 (gB dr_4 57 rfl rfl)
theorem dL_law_314 : decode cL_law 314 = .ok (.aload_n 0, 1) := dec_42 (gB dr_4 58 rfl rfl)
theorem dL_law_315 : decode cL_law 315 = .ok (.iload 4, 2) := e_21 (x := 4) dr_4 59 rfl rfl
theorem dL_law_317 : decode cL_law 317 = .ok (.iconst 1, 1) := dec_4 (gB dr_4 61 rfl rfl)
theorem dL_law_318 : decode cL_law 318 = .ok (.iadd, 1) := dec_96 (gB dr_4 62 rfl rfl)
theorem dL_law_319 : decode cL_law 319 = .ok (.iaload, 1) := dec_46 (gB dr_4 63 rfl rfl)
theorem dL_law_320 : decode cL_law 320 = .ok (.aload_n 0, 1) := dec_42 (gB dr_5 0 rfl rfl)
theorem dL_law_321 : decode cL_law 321 = .ok (.iload 4, 2) := e_21 (x := 4) dr_5 1 rfl rfl
theorem dL_law_323 : decode cL_law 323 = .ok (.iconst 2, 1) := dec_5 (gB dr_5 3 rfl rfl)
theorem dL_law_324 : decode cL_law 324 = .ok (.iadd, 1) := dec_96 (gB dr_5 4 rfl rfl)
theorem dL_law_325 : decode cL_law 325 = .ok (.iaload, 1) := dec_46 (gB dr_5 5 rfl rfl)
theorem dL_law_326 : decode cL_law 326 = .ok (.aload_n 3, 1) := dec_45 (gB dr_5 6 rfl rfl)
theorem dL_law_327 : decode cL_law 327 = .ok (.invokestatic 182, 3) := e_184 (x := 0) (y := 182) dr_5 7 rfl rfl
theorem dL_law_330 : decode cL_law 330 = .ok (.istore 5, 2) := e_54 (x := 5) dr_5 10 rfl rfl
theorem dL_law_332 : decode cL_law 332 = .ok (.aload_n 2, 1) := dec_44 (gB dr_5 12 rfl rfl)
theorem dL_law_333 : decode cL_law 333 = .ok (.aload_n 0, 1) := dec_42 (gB dr_5 13 rfl rfl)
theorem dL_law_334 : decode cL_law 334 = .ok (.iload 4, 2) := e_21 (x := 4) dr_5 14 rfl rfl
theorem dL_law_336 : decode cL_law 336 = .ok (.iconst 1, 1) := dec_4 (gB dr_5 16 rfl rfl)
theorem dL_law_337 : decode cL_law 337 = .ok (.iadd, 1) := dec_96 (gB dr_5 17 rfl rfl)
theorem dL_law_338 : decode cL_law 338 = .ok (.iaload, 1) := dec_46 (gB dr_5 18 rfl rfl)
theorem dL_law_339 : decode cL_law 339 = .ok (.aload_n 0, 1) := dec_42 (gB dr_5 19 rfl rfl)
theorem dL_law_340 : decode cL_law 340 = .ok (.iload 4, 2) := e_21 (x := 4) dr_5 20 rfl rfl
theorem dL_law_342 : decode cL_law 342 = .ok (.iconst 2, 1) := dec_5 (gB dr_5 22 rfl rfl)
theorem dL_law_343 : decode cL_law 343 = .ok (.iadd, 1) := dec_96 (gB dr_5 23 rfl rfl)
theorem dL_law_344 : decode cL_law 344 = .ok (.iaload, 1) := dec_46 (gB dr_5 24 rfl rfl)
theorem dL_law_345 : decode cL_law 345 = .ok (.invokevirtual 184, 3) := e_182 (x := 0) (y := 184) dr_5 25 rfl rfl
theorem dL_law_348 : decode cL_law 348 = .ok (.istore 6, 2) := e_54 (x := 6) dr_5 28 rfl rfl
theorem dL_law_350 : decode cL_law 350 = .ok (.aload_n 2, 1) := dec_44 (gB dr_5 30 rfl rfl)
theorem dL_law_351 : decode cL_law 351 = .ok (.invokevirtual 178, 3) := e_182 (x := 0) (y := 178) dr_5 31 rfl rfl
theorem dL_law_354 : decode cL_law 354 = .ok (.iload 5, 2) := e_21 (x := 5) dr_5 34 rfl rfl
theorem dL_law_356 : decode cL_law 356 = .ok (.if_icmp .eq 5, 3) := e_159 (x := 0) (y := 5) dr_5 36 rfl rfl
theorem dL_law_359 : decode cL_law 359 = .ok (.iconst 0, 1) := dec_3 (gB dr_5 39 rfl rfl)
theorem dL_law_361 : decode cL_law 361 = .ok (.iload 5, 2) := e_21 (x := 5) dr_5 41 rfl rfl
theorem dL_law_363 : decode cL_law 363 = .ok (.ifCond .ne 16, 3) := e_154 (x := 0) (y := 16) dr_5 43 rfl rfl
theorem dL_law_366 : decode cL_law 366 = .ok (.aload_n 3, 1) := dec_45 (gB dr_5 46 rfl rfl)
theorem dL_law_367 : decode cL_law 367 = .ok (.getfield 13, 3) := e_180 (x := 0) (y := 13) dr_5 47 rfl rfl
theorem dL_law_370 : decode cL_law 370 = .ok (.iload 6, 2) := e_21 (x := 6) dr_5 50 rfl rfl
theorem dL_law_372 : decode cL_law 372 = .ok (.i2l, 1) := dec_133 (gB dr_5 52 rfl rfl)
theorem dL_law_373 : decode cL_law 373 = .ok (.lcmp, 1) := dec_148 (gB dr_5 53 rfl rfl)
theorem dL_law_374 : decode cL_law 374 = .ok (.ifCond .eq 5, 3) := e_153 (x := 0) (y := 5) dr_5 54 rfl rfl
theorem dL_law_377 : decode cL_law 377 = .ok (.iconst 0, 1) := dec_3 (gB dr_5 57 rfl rfl)
theorem dL_law_379 : decode cL_law 379 = .ok (.goto 3093, 3) := e_167 (x := 12) (y := 21) dr_5 59 rfl rfl
theorem dL_law_382 : decode cL_law 382 = .ok (.aload_n 1, 1) := dec_43 (gB dr_5 62 rfl rfl)
theorem dL_law_383 : decode cL_law 383 = .ok (.aload_n 0, 1) := dec_42 (gB dr_5 63 rfl rfl)
theorem dL_law_384 : decode cL_law 384 = .ok (.iload 4, 2) := e_21 (x := 4) dr_6 0 rfl rfl
theorem dL_law_386 : decode cL_law 386 = .ok (.iconst 1, 1) := dec_4 (gB dr_6 2 rfl rfl)
theorem dL_law_387 : decode cL_law 387 = .ok (.iadd, 1) := dec_96 (gB dr_6 3 rfl rfl)
theorem dL_law_388 : decode cL_law 388 = .ok (.iaload, 1) := dec_46 (gB dr_6 4 rfl rfl)
theorem dL_law_389 : decode cL_law 389 = .ok (.aload_n 0, 1) := dec_42 (gB dr_6 5 rfl rfl)
theorem dL_law_390 : decode cL_law 390 = .ok (.iload 4, 2) := e_21 (x := 4) dr_6 6 rfl rfl
theorem dL_law_392 : decode cL_law 392 = .ok (.iconst 2, 1) := dec_5 (gB dr_6 8 rfl rfl)
theorem dL_law_393 : decode cL_law 393 = .ok (.iadd, 1) := dec_96 (gB dr_6 9 rfl rfl)
theorem dL_law_394 : decode cL_law 394 = .ok (.iaload, 1) := dec_46 (gB dr_6 10 rfl rfl)
theorem dL_law_395 : decode cL_law 395 = .ok (.aload_n 0, 1) := dec_42 (gB dr_6 11 rfl rfl)
theorem dL_law_396 : decode cL_law 396 = .ok (.iload 4, 2) := e_21 (x := 4) dr_6 12 rfl rfl
theorem dL_law_398 : decode cL_law 398 = .ok (.iconst 3, 1) := dec_6 (gB dr_6 14 rfl rfl)
theorem dL_law_399 : decode cL_law 399 = .ok (.iadd, 1) := dec_96 (gB dr_6 15 rfl rfl)
theorem dL_law_400 : decode cL_law 400 = .ok (.iaload, 1) := dec_46 (gB dr_6 16 rfl rfl)
theorem dL_law_401 : decode cL_law 401 = .ok (.ifCond .eq 7, 3) := e_153 (x := 0) (y := 7) dr_6 17 rfl rfl
theorem dL_law_404 : decode cL_law 404 = .ok (.iconst 1, 1) := dec_4 (gB dr_6 20 rfl rfl)
theorem dL_law_405 : decode cL_law 405 = .ok (.goto 4, 3) := e_167 (x := 0) (y := 4) dr_6 21 rfl rfl
theorem dL_law_408 : decode cL_law 408 = .ok (.iconst 0, 1) := dec_3 (gB dr_6 24 rfl rfl)
theorem dL_law_409 : decode cL_law 409 = .ok (.aload_n 3, 1) := dec_45 (gB dr_6 25 rfl rfl)
theorem dL_law_410 : decode cL_law 410 = .ok (.invokestatic 185, 3) := e_184 (x := 0) (y := 185) dr_6 26 rfl rfl
theorem dL_law_413 : decode cL_law 413 = .ok (.istore 5, 2) := e_54 (x := 5) dr_6 29 rfl rfl
theorem dL_law_415 : decode cL_law 415 = .ok (.aload_n 2, 1) := dec_44 (gB dr_6 31 rfl rfl)
theorem dL_law_416 : decode cL_law 416 = .ok (.aload_n 0, 1) := dec_42 (gB dr_6 32 rfl rfl)
theorem dL_law_417 : decode cL_law 417 = .ok (.iload 4, 2) := e_21 (x := 4) dr_6 33 rfl rfl
theorem dL_law_419 : decode cL_law 419 = .ok (.iconst 1, 1) := dec_4 (gB dr_6 35 rfl rfl)
theorem dL_law_420 : decode cL_law 420 = .ok (.iadd, 1) := dec_96 (gB dr_6 36 rfl rfl)
theorem dL_law_421 : decode cL_law 421 = .ok (.iaload, 1) := dec_46 (gB dr_6 37 rfl rfl)
theorem dL_law_422 : decode cL_law 422 = .ok (.aload_n 0, 1) := dec_42 (gB dr_6 38 rfl rfl)
theorem dL_law_423 : decode cL_law 423 = .ok (.iload 4, 2) := e_21 (x := 4) dr_6 39 rfl rfl
theorem dL_law_425 : decode cL_law 425 = .ok (.iconst 2, 1) := dec_5 (gB dr_6 41 rfl rfl)
theorem dL_law_426 : decode cL_law 426 = .ok (.iadd, 1) := dec_96 (gB dr_6 42 rfl rfl)
theorem dL_law_427 : decode cL_law 427 = .ok (.iaload, 1) := dec_46 (gB dr_6 43 rfl rfl)
theorem dL_law_428 : decode cL_law 428 = .ok (.aload_n 0, 1) := dec_42 (gB dr_6 44 rfl rfl)
theorem dL_law_429 : decode cL_law 429 = .ok (.iload 4, 2) := e_21 (x := 4) dr_6 45 rfl rfl
theorem dL_law_431 : decode cL_law 431 = .ok (.iconst 3, 1) := dec_6 (gB dr_6 47 rfl rfl)
theorem dL_law_432 : decode cL_law 432 = .ok (.iadd, 1) := dec_96 (gB dr_6 48 rfl rfl)
theorem dL_law_433 : decode cL_law 433 = .ok (.iaload, 1) := dec_46 (gB dr_6 49 rfl rfl)
theorem dL_law_434 : decode cL_law 434 = .ok (.ifCond .eq 7, 3) := e_153 (x := 0) (y := 7) dr_6 50 rfl rfl
theorem dL_law_437 : decode cL_law 437 = .ok (.iconst 1, 1) := dec_4 (gB dr_6 53 rfl rfl)
theorem dL_law_438 : decode cL_law 438 = .ok (.goto 4, 3) := e_167 (x := 0) (y := 4) dr_6 54 rfl rfl
theorem dL_law_441 : decode cL_law 441 = .ok (.iconst 0, 1) := dec_3 (gB dr_6 57 rfl rfl)
theorem dL_law_442 : decode cL_law 442 = .ok (.invokevirtual 188, 3) := e_182 (x := 0) (y := 188) dr_6 58 rfl rfl
theorem dL_law_445 : decode cL_law 445 = .ok (.istore 6, 2) := e_54 (x := 6) dr_6 61 rfl rfl
theorem dL_law_447 : decode cL_law 447 = .ok (.aload_n 2, 1) := dec_44 (gB dr_6 63 rfl rfl)
theorem dL_law_448 : decode cL_law 448 = .ok (.invokevirtual 178, 3) := e_182 (x := 0) (y := 178) dr_7 0 rfl rfl
theorem dL_law_451 : decode cL_law 451 = .ok (.iload 5, 2) := e_21 (x := 5) dr_7 3 rfl rfl
theorem dL_law_453 : decode cL_law 453 = .ok (.if_icmp .eq 5, 3) := e_159 (x := 0) (y := 5) dr_7 5 rfl rfl
theorem dL_law_456 : decode cL_law 456 = .ok (.iconst 0, 1) := dec_3 (gB dr_7 8 rfl rfl)
theorem dL_law_458 : decode cL_law 458 = .ok (.iload 5, 2) := e_21 (x := 5) dr_7 10 rfl rfl
theorem dL_law_460 : decode cL_law 460 = .ok (.ifCond .ne 16, 3) := e_154 (x := 0) (y := 16) dr_7 12 rfl rfl
theorem dL_law_463 : decode cL_law 463 = .ok (.aload_n 3, 1) := dec_45 (gB dr_7 15 rfl rfl)
theorem dL_law_464 : decode cL_law 464 = .ok (.getfield 13, 3) := e_180 (x := 0) (y := 13) dr_7 16 rfl rfl
theorem dL_law_467 : decode cL_law 467 = .ok (.iload 6, 2) := e_21 (x := 6) dr_7 19 rfl rfl
theorem dL_law_469 : decode cL_law 469 = .ok (.i2l, 1) := dec_133 (gB dr_7 21 rfl rfl)
theorem dL_law_470 : decode cL_law 470 = .ok (.lcmp, 1) := dec_148 (gB dr_7 22 rfl rfl)
theorem dL_law_471 : decode cL_law 471 = .ok (.ifCond .eq 5, 3) := e_153 (x := 0) (y := 5) dr_7 23 rfl rfl
theorem dL_law_474 : decode cL_law 474 = .ok (.iconst 0, 1) := dec_3 (gB dr_7 26 rfl rfl)
theorem dL_law_476 : decode cL_law 476 = .ok (.goto 2996, 3) := e_167 (x := 11) (y := 180) dr_7 28 rfl rfl
theorem dL_law_479 : decode cL_law 479 = .ok (.aload_n 1, 1) := dec_43 (gB dr_7 31 rfl rfl)
theorem dL_law_480 : decode cL_law 480 = .ok (.aload_n 0, 1) := dec_42 (gB dr_7 32 rfl rfl)
theorem dL_law_481 : decode cL_law 481 = .ok (.iload 4, 2) := e_21 (x := 4) dr_7 33 rfl rfl
theorem dL_law_483 : decode cL_law 483 = .ok (.iconst 1, 1) := dec_4 (gB dr_7 35 rfl rfl)
theorem dL_law_484 : decode cL_law 484 = .ok (.iadd, 1) := dec_96 (gB dr_7 36 rfl rfl)
theorem dL_law_485 : decode cL_law 485 = .ok (.iaload, 1) := dec_46 (gB dr_7 37 rfl rfl)
theorem dL_law_486 : decode cL_law 486 = .ok (.aload_n 0, 1) := dec_42 (gB dr_7 38 rfl rfl)
theorem dL_law_487 : decode cL_law 487 = .ok (.iload 4, 2) := e_21 (x := 4) dr_7 39 rfl rfl
theorem dL_law_489 : decode cL_law 489 = .ok (.iconst 2, 1) := dec_5 (gB dr_7 41 rfl rfl)
theorem dL_law_490 : decode cL_law 490 = .ok (.iadd, 1) := dec_96 (gB dr_7 42 rfl rfl)
theorem dL_law_491 : decode cL_law 491 = .ok (.iaload, 1) := dec_46 (gB dr_7 43 rfl rfl)
theorem dL_law_492 : decode cL_law 492 = .ok (.aload_n 0, 1) := dec_42 (gB dr_7 44 rfl rfl)
theorem dL_law_493 : decode cL_law 493 = .ok (.iload 4, 2) := e_21 (x := 4) dr_7 45 rfl rfl
theorem dL_law_495 : decode cL_law 495 = .ok (.iconst 3, 1) := dec_6 (gB dr_7 47 rfl rfl)
theorem dL_law_496 : decode cL_law 496 = .ok (.iadd, 1) := dec_96 (gB dr_7 48 rfl rfl)
theorem dL_law_497 : decode cL_law 497 = .ok (.iaload, 1) := dec_46 (gB dr_7 49 rfl rfl)
theorem dL_law_498 : decode cL_law 498 = .ok (.aload_n 3, 1) := dec_45 (gB dr_7 50 rfl rfl)
theorem dL_law_499 : decode cL_law 499 = .ok (.invokestatic 189, 3) := e_184 (x := 0) (y := 189) dr_7 51 rfl rfl
theorem dL_law_502 : decode cL_law 502 = .ok (.istore 5, 2) := e_54 (x := 5) dr_7 54 rfl rfl
theorem dL_law_504 : decode cL_law 504 = .ok (.aload_n 2, 1) := dec_44 (gB dr_7 56 rfl rfl)
theorem dL_law_505 : decode cL_law 505 = .ok (.aload_n 0, 1) := dec_42 (gB dr_7 57 rfl rfl)
theorem dL_law_506 : decode cL_law 506 = .ok (.iload 4, 2) := e_21 (x := 4) dr_7 58 rfl rfl
theorem dL_law_508 : decode cL_law 508 = .ok (.iconst 1, 1) := dec_4 (gB dr_7 60 rfl rfl)
theorem dL_law_509 : decode cL_law 509 = .ok (.iadd, 1) := dec_96 (gB dr_7 61 rfl rfl)
theorem dL_law_510 : decode cL_law 510 = .ok (.iaload, 1) := dec_46 (gB dr_7 62 rfl rfl)
theorem dL_law_511 : decode cL_law 511 = .ok (.aload_n 0, 1) := dec_42 (gB dr_7 63 rfl rfl)
theorem dL_law_512 : decode cL_law 512 = .ok (.iload 4, 2) := e_21 (x := 4) dr_8 0 rfl rfl
theorem dL_law_514 : decode cL_law 514 = .ok (.iconst 2, 1) := dec_5 (gB dr_8 2 rfl rfl)
theorem dL_law_515 : decode cL_law 515 = .ok (.iadd, 1) := dec_96 (gB dr_8 3 rfl rfl)
theorem dL_law_516 : decode cL_law 516 = .ok (.iaload, 1) := dec_46 (gB dr_8 4 rfl rfl)
theorem dL_law_517 : decode cL_law 517 = .ok (.aload_n 0, 1) := dec_42 (gB dr_8 5 rfl rfl)
theorem dL_law_518 : decode cL_law 518 = .ok (.iload 4, 2) := e_21 (x := 4) dr_8 6 rfl rfl
theorem dL_law_520 : decode cL_law 520 = .ok (.iconst 3, 1) := dec_6 (gB dr_8 8 rfl rfl)
theorem dL_law_521 : decode cL_law 521 = .ok (.iadd, 1) := dec_96 (gB dr_8 9 rfl rfl)
theorem dL_law_522 : decode cL_law 522 = .ok (.iaload, 1) := dec_46 (gB dr_8 10 rfl rfl)
theorem dL_law_523 : decode cL_law 523 = .ok (.invokevirtual 192, 3) := e_182 (x := 0) (y := 192) dr_8 11 rfl rfl
theorem dL_law_526 : decode cL_law 526 = .ok (.istore 6, 2) := e_54 (x := 6) dr_8 14 rfl rfl
theorem dL_law_528 : decode cL_law 528 = .ok (.aload_n 2, 1) := dec_44 (gB dr_8 16 rfl rfl)
theorem dL_law_529 : decode cL_law 529 = .ok (.invokevirtual 178, 3) := e_182 (x := 0) (y := 178) dr_8 17 rfl rfl
theorem dL_law_532 : decode cL_law 532 = .ok (.iload 5, 2) := e_21 (x := 5) dr_8 20 rfl rfl
theorem dL_law_534 : decode cL_law 534 = .ok (.if_icmp .eq 5, 3) := e_159 (x := 0) (y := 5) dr_8 22 rfl rfl
theorem dL_law_537 : decode cL_law 537 = .ok (.iconst 0, 1) := dec_3 (gB dr_8 25 rfl rfl)
theorem dL_law_539 : decode cL_law 539 = .ok (.iload 5, 2) := e_21 (x := 5) dr_8 27 rfl rfl
theorem dL_law_541 : decode cL_law 541 = .ok (.ifCond .ne 16, 3) := e_154 (x := 0) (y := 16) dr_8 29 rfl rfl
theorem dL_law_544 : decode cL_law 544 = .ok (.aload_n 3, 1) := dec_45 (gB dr_8 32 rfl rfl)
theorem dL_law_545 : decode cL_law 545 = .ok (.getfield 13, 3) := e_180 (x := 0) (y := 13) dr_8 33 rfl rfl
theorem dL_law_548 : decode cL_law 548 = .ok (.iload 6, 2) := e_21 (x := 6) dr_8 36 rfl rfl
theorem dL_law_550 : decode cL_law 550 = .ok (.i2l, 1) := dec_133 (gB dr_8 38 rfl rfl)
theorem dL_law_551 : decode cL_law 551 = .ok (.lcmp, 1) := dec_148 (gB dr_8 39 rfl rfl)
theorem dL_law_552 : decode cL_law 552 = .ok (.ifCond .eq 5, 3) := e_153 (x := 0) (y := 5) dr_8 40 rfl rfl
theorem dL_law_555 : decode cL_law 555 = .ok (.iconst 0, 1) := dec_3 (gB dr_8 43 rfl rfl)
theorem dL_law_557 : decode cL_law 557 = .ok (.goto 2915, 3) := e_167 (x := 11) (y := 99) dr_8 45 rfl rfl
theorem dL_law_560 : decode cL_law 560 = .ok (.aload_n 1, 1) := dec_43 (gB dr_8 48 rfl rfl)
theorem dL_law_561 : decode cL_law 561 = .ok (.aload_n 0, 1) := dec_42 (gB dr_8 49 rfl rfl)
theorem dL_law_562 : decode cL_law 562 = .ok (.iload 4, 2) := e_21 (x := 4) dr_8 50 rfl rfl
theorem dL_law_564 : decode cL_law 564 = .ok (.iconst 1, 1) := dec_4 (gB dr_8 52 rfl rfl)
theorem dL_law_565 : decode cL_law 565 = .ok (.iadd, 1) := dec_96 (gB dr_8 53 rfl rfl)
theorem dL_law_566 : decode cL_law 566 = .ok (.iaload, 1) := dec_46 (gB dr_8 54 rfl rfl)
theorem dL_law_567 : decode cL_law 567 = .ok (.aload_n 0, 1) := dec_42 (gB dr_8 55 rfl rfl)
theorem dL_law_568 : decode cL_law 568 = .ok (.iload 4, 2) := e_21 (x := 4) dr_8 56 rfl rfl
theorem dL_law_570 : decode cL_law 570 = .ok (.iconst 2, 1) := dec_5 (gB dr_8 58 rfl rfl)
theorem dL_law_571 : decode cL_law 571 = .ok (.iadd, 1) := dec_96 (gB dr_8 59 rfl rfl)
theorem dL_law_572 : decode cL_law 572 = .ok (.iaload, 1) := dec_46 (gB dr_8 60 rfl rfl)
theorem dL_law_573 : decode cL_law 573 = .ok (.aload_n 0, 1) := dec_42 (gB dr_8 61 rfl rfl)
theorem dL_law_574 : decode cL_law 574 = .ok (.iload 4, 2) := e_21 (x := 4) dr_8 62 rfl rfl
theorem dL_law_576 : decode cL_law 576 = .ok (.iconst 3, 1) := dec_6 (gB dr_9 0 rfl rfl)
theorem dL_law_577 : decode cL_law 577 = .ok (.iadd, 1) := dec_96 (gB dr_9 1 rfl rfl)
theorem dL_law_578 : decode cL_law 578 = .ok (.iaload, 1) := dec_46 (gB dr_9 2 rfl rfl)
theorem dL_law_579 : decode cL_law 579 = .ok (.ifCond .eq 7, 3) := e_153 (x := 0) (y := 7) dr_9 3 rfl rfl
theorem dL_law_582 : decode cL_law 582 = .ok (.iconst 1, 1) := dec_4 (gB dr_9 6 rfl rfl)
theorem dL_law_583 : decode cL_law 583 = .ok (.goto 4, 3) := e_167 (x := 0) (y := 4) dr_9 7 rfl rfl
theorem dL_law_586 : decode cL_law 586 = .ok (.iconst 0, 1) := dec_3 (gB dr_9 10 rfl rfl)
theorem dL_law_587 : decode cL_law 587 = .ok (.aload_n 3, 1) := dec_45 (gB dr_9 11 rfl rfl)
theorem dL_law_588 : decode cL_law 588 = .ok (.invokestatic 193, 3) := e_184 (x := 0) (y := 193) dr_9 12 rfl rfl
theorem dL_law_591 : decode cL_law 591 = .ok (.istore 5, 2) := e_54 (x := 5) dr_9 15 rfl rfl
theorem dL_law_593 : decode cL_law 593 = .ok (.aload_n 2, 1) := dec_44 (gB dr_9 17 rfl rfl)
theorem dL_law_594 : decode cL_law 594 = .ok (.aload_n 0, 1) := dec_42 (gB dr_9 18 rfl rfl)
theorem dL_law_595 : decode cL_law 595 = .ok (.iload 4, 2) := e_21 (x := 4) dr_9 19 rfl rfl
theorem dL_law_597 : decode cL_law 597 = .ok (.iconst 1, 1) := dec_4 (gB dr_9 21 rfl rfl)
theorem dL_law_598 : decode cL_law 598 = .ok (.iadd, 1) := dec_96 (gB dr_9 22 rfl rfl)
theorem dL_law_599 : decode cL_law 599 = .ok (.iaload, 1) := dec_46 (gB dr_9 23 rfl rfl)
theorem dL_law_600 : decode cL_law 600 = .ok (.aload_n 0, 1) := dec_42 (gB dr_9 24 rfl rfl)
theorem dL_law_601 : decode cL_law 601 = .ok (.iload 4, 2) := e_21 (x := 4) dr_9 25 rfl rfl
theorem dL_law_603 : decode cL_law 603 = .ok (.iconst 2, 1) := dec_5 (gB dr_9 27 rfl rfl)
theorem dL_law_604 : decode cL_law 604 = .ok (.iadd, 1) := dec_96 (gB dr_9 28 rfl rfl)
theorem dL_law_605 : decode cL_law 605 = .ok (.iaload, 1) := dec_46 (gB dr_9 29 rfl rfl)
theorem dL_law_606 : decode cL_law 606 = .ok (.aload_n 0, 1) := dec_42 (gB dr_9 30 rfl rfl)
theorem dL_law_607 : decode cL_law 607 = .ok (.iload 4, 2) := e_21 (x := 4) dr_9 31 rfl rfl
theorem dL_law_609 : decode cL_law 609 = .ok (.iconst 3, 1) := dec_6 (gB dr_9 33 rfl rfl)
theorem dL_law_610 : decode cL_law 610 = .ok (.iadd, 1) := dec_96 (gB dr_9 34 rfl rfl)
theorem dL_law_611 : decode cL_law 611 = .ok (.iaload, 1) := dec_46 (gB dr_9 35 rfl rfl)
theorem dL_law_612 : decode cL_law 612 = .ok (.ifCond .eq 7, 3) := e_153 (x := 0) (y := 7) dr_9 36 rfl rfl
theorem dL_law_615 : decode cL_law 615 = .ok (.iconst 1, 1) := dec_4 (gB dr_9 39 rfl rfl)
theorem dL_law_616 : decode cL_law 616 = .ok (.goto 4, 3) := e_167 (x := 0) (y := 4) dr_9 40 rfl rfl
theorem dL_law_619 : decode cL_law 619 = .ok (.iconst 0, 1) := dec_3 (gB dr_9 43 rfl rfl)
theorem dL_law_620 : decode cL_law 620 = .ok (.invokevirtual 195, 3) := e_182 (x := 0) (y := 195) dr_9 44 rfl rfl
theorem dL_law_623 : decode cL_law 623 = .ok (.istore 6, 2) := e_54 (x := 6) dr_9 47 rfl rfl
theorem dL_law_625 : decode cL_law 625 = .ok (.aload_n 2, 1) := dec_44 (gB dr_9 49 rfl rfl)
theorem dL_law_626 : decode cL_law 626 = .ok (.invokevirtual 178, 3) := e_182 (x := 0) (y := 178) dr_9 50 rfl rfl
theorem dL_law_629 : decode cL_law 629 = .ok (.iload 5, 2) := e_21 (x := 5) dr_9 53 rfl rfl
theorem dL_law_631 : decode cL_law 631 = .ok (.if_icmp .eq 5, 3) := e_159 (x := 0) (y := 5) dr_9 55 rfl rfl
theorem dL_law_634 : decode cL_law 634 = .ok (.iconst 0, 1) := dec_3 (gB dr_9 58 rfl rfl)
theorem dL_law_636 : decode cL_law 636 = .ok (.iload 5, 2) := e_21 (x := 5) dr_9 60 rfl rfl
theorem dL_law_638 : decode cL_law 638 = .ok (.ifCond .ne 16, 3) := dec_154 (a := 0) (b := 16) (gB dr_9 62 rfl rfl) (gB dr_9 63 rfl rfl) (gB dr_10 0 rfl rfl)
theorem dL_law_641 : decode cL_law 641 = .ok (.aload_n 3, 1) := dec_45 (gB dr_10 1 rfl rfl)
theorem dL_law_642 : decode cL_law 642 = .ok (.getfield 13, 3) := e_180 (x := 0) (y := 13) dr_10 2 rfl rfl
theorem dL_law_645 : decode cL_law 645 = .ok (.iload 6, 2) := e_21 (x := 6) dr_10 5 rfl rfl
theorem dL_law_647 : decode cL_law 647 = .ok (.i2l, 1) := dec_133 (gB dr_10 7 rfl rfl)
theorem dL_law_648 : decode cL_law 648 = .ok (.lcmp, 1) := dec_148 (gB dr_10 8 rfl rfl)
theorem dL_law_649 : decode cL_law 649 = .ok (.ifCond .eq 5, 3) := e_153 (x := 0) (y := 5) dr_10 9 rfl rfl
theorem dL_law_652 : decode cL_law 652 = .ok (.iconst 0, 1) := dec_3 (gB dr_10 12 rfl rfl)
theorem dL_law_654 : decode cL_law 654 = .ok (.goto 2818, 3) := e_167 (x := 11) (y := 2) dr_10 14 rfl rfl
theorem dL_law_657 : decode cL_law 657 = .ok (.aload_n 1, 1) := dec_43 (gB dr_10 17 rfl rfl)
theorem dL_law_658 : decode cL_law 658 = .ok (.aload_n 0, 1) := dec_42 (gB dr_10 18 rfl rfl)
theorem dL_law_659 : decode cL_law 659 = .ok (.iload 4, 2) := e_21 (x := 4) dr_10 19 rfl rfl
theorem dL_law_661 : decode cL_law 661 = .ok (.iconst 1, 1) := dec_4 (gB dr_10 21 rfl rfl)
theorem dL_law_662 : decode cL_law 662 = .ok (.iadd, 1) := dec_96 (gB dr_10 22 rfl rfl)
theorem dL_law_663 : decode cL_law 663 = .ok (.iaload, 1) := dec_46 (gB dr_10 23 rfl rfl)
theorem dL_law_664 : decode cL_law 664 = .ok (.aload_n 0, 1) := dec_42 (gB dr_10 24 rfl rfl)
theorem dL_law_665 : decode cL_law 665 = .ok (.iload 4, 2) := e_21 (x := 4) dr_10 25 rfl rfl
theorem dL_law_667 : decode cL_law 667 = .ok (.iconst 2, 1) := dec_5 (gB dr_10 27 rfl rfl)
theorem dL_law_668 : decode cL_law 668 = .ok (.iadd, 1) := dec_96 (gB dr_10 28 rfl rfl)
theorem dL_law_669 : decode cL_law 669 = .ok (.iaload, 1) := dec_46 (gB dr_10 29 rfl rfl)
theorem dL_law_670 : decode cL_law 670 = .ok (.aload_n 3, 1) := dec_45 (gB dr_10 30 rfl rfl)
theorem dL_law_671 : decode cL_law 671 = .ok (.invokestatic 196, 3) := e_184 (x := 0) (y := 196) dr_10 31 rfl rfl
theorem dL_law_674 : decode cL_law 674 = .ok (.istore 5, 2) := e_54 (x := 5) dr_10 34 rfl rfl
theorem dL_law_676 : decode cL_law 676 = .ok (.aload_n 2, 1) := dec_44 (gB dr_10 36 rfl rfl)
theorem dL_law_677 : decode cL_law 677 = .ok (.aload_n 0, 1) := dec_42 (gB dr_10 37 rfl rfl)
theorem dL_law_678 : decode cL_law 678 = .ok (.iload 4, 2) := e_21 (x := 4) dr_10 38 rfl rfl
theorem dL_law_680 : decode cL_law 680 = .ok (.iconst 1, 1) := dec_4 (gB dr_10 40 rfl rfl)
theorem dL_law_681 : decode cL_law 681 = .ok (.iadd, 1) := dec_96 (gB dr_10 41 rfl rfl)
theorem dL_law_682 : decode cL_law 682 = .ok (.iaload, 1) := dec_46 (gB dr_10 42 rfl rfl)
theorem dL_law_683 : decode cL_law 683 = .ok (.aload_n 0, 1) := dec_42 (gB dr_10 43 rfl rfl)
theorem dL_law_684 : decode cL_law 684 = .ok (.iload 4, 2) := e_21 (x := 4) dr_10 44 rfl rfl
theorem dL_law_686 : decode cL_law 686 = .ok (.iconst 2, 1) := dec_5 (gB dr_10 46 rfl rfl)
theorem dL_law_687 : decode cL_law 687 = .ok (.iadd, 1) := dec_96 (gB dr_10 47 rfl rfl)
theorem dL_law_688 : decode cL_law 688 = .ok (.iaload, 1) := dec_46 (gB dr_10 48 rfl rfl)
theorem dL_law_689 : decode cL_law 689 = .ok (.invokevirtual 198, 3) := e_182 (x := 0) (y := 198) dr_10 49 rfl rfl
theorem dL_law_692 : decode cL_law 692 = .ok (.istore 6, 2) := e_54 (x := 6) dr_10 52 rfl rfl
theorem dL_law_694 : decode cL_law 694 = .ok (.aload_n 2, 1) := dec_44 (gB dr_10 54 rfl rfl)
theorem dL_law_695 : decode cL_law 695 = .ok (.invokevirtual 178, 3) := e_182 (x := 0) (y := 178) dr_10 55 rfl rfl
theorem dL_law_698 : decode cL_law 698 = .ok (.iload 5, 2) := e_21 (x := 5) dr_10 58 rfl rfl
theorem dL_law_700 : decode cL_law 700 = .ok (.if_icmp .eq 5, 3) := e_159 (x := 0) (y := 5) dr_10 60 rfl rfl
theorem dL_law_703 : decode cL_law 703 = .ok (.iconst 0, 1) := dec_3 (gB dr_10 63 rfl rfl)
theorem dL_law_705 : decode cL_law 705 = .ok (.iload 5, 2) := e_21 (x := 5) dr_11 1 rfl rfl
theorem dL_law_707 : decode cL_law 707 = .ok (.ifCond .ne 16, 3) := e_154 (x := 0) (y := 16) dr_11 3 rfl rfl
theorem dL_law_710 : decode cL_law 710 = .ok (.aload_n 3, 1) := dec_45 (gB dr_11 6 rfl rfl)
theorem dL_law_711 : decode cL_law 711 = .ok (.getfield 13, 3) := e_180 (x := 0) (y := 13) dr_11 7 rfl rfl
theorem dL_law_714 : decode cL_law 714 = .ok (.iload 6, 2) := e_21 (x := 6) dr_11 10 rfl rfl
theorem dL_law_716 : decode cL_law 716 = .ok (.i2l, 1) := dec_133 (gB dr_11 12 rfl rfl)
theorem dL_law_717 : decode cL_law 717 = .ok (.lcmp, 1) := dec_148 (gB dr_11 13 rfl rfl)
theorem dL_law_718 : decode cL_law 718 = .ok (.ifCond .eq 5, 3) := e_153 (x := 0) (y := 5) dr_11 14 rfl rfl
theorem dL_law_721 : decode cL_law 721 = .ok (.iconst 0, 1) := dec_3 (gB dr_11 17 rfl rfl)
theorem dL_law_723 : decode cL_law 723 = .ok (.goto 2749, 3) := e_167 (x := 10) (y := 189) dr_11 19 rfl rfl
theorem dL_law_726 : decode cL_law 726 = .ok (.aload_n 1, 1) := dec_43 (gB dr_11 22 rfl rfl)
theorem dL_law_727 : decode cL_law 727 = .ok (.aload_n 0, 1) := dec_42 (gB dr_11 23 rfl rfl)
theorem dL_law_728 : decode cL_law 728 = .ok (.iload 4, 2) := e_21 (x := 4) dr_11 24 rfl rfl
theorem dL_law_730 : decode cL_law 730 = .ok (.iconst 1, 1) := dec_4 (gB dr_11 26 rfl rfl)
theorem dL_law_731 : decode cL_law 731 = .ok (.iadd, 1) := dec_96 (gB dr_11 27 rfl rfl)
theorem dL_law_732 : decode cL_law 732 = .ok (.iaload, 1) := dec_46 (gB dr_11 28 rfl rfl)
theorem dL_law_733 : decode cL_law 733 = .ok (.aload_n 0, 1) := dec_42 (gB dr_11 29 rfl rfl)
theorem dL_law_734 : decode cL_law 734 = .ok (.iload 4, 2) := e_21 (x := 4) dr_11 30 rfl rfl
theorem dL_law_736 : decode cL_law 736 = .ok (.iconst 2, 1) := dec_5 (gB dr_11 32 rfl rfl)
theorem dL_law_737 : decode cL_law 737 = .ok (.iadd, 1) := dec_96 (gB dr_11 33 rfl rfl)
theorem dL_law_738 : decode cL_law 738 = .ok (.iaload, 1) := dec_46 (gB dr_11 34 rfl rfl)
theorem dL_law_739 : decode cL_law 739 = .ok (.aload_n 0, 1) := dec_42 (gB dr_11 35 rfl rfl)
theorem dL_law_740 : decode cL_law 740 = .ok (.iload 4, 2) := e_21 (x := 4) dr_11 36 rfl rfl
theorem dL_law_742 : decode cL_law 742 = .ok (.iconst 3, 1) := dec_6 (gB dr_11 38 rfl rfl)
theorem dL_law_743 : decode cL_law 743 = .ok (.iadd, 1) := dec_96 (gB dr_11 39 rfl rfl)
theorem dL_law_744 : decode cL_law 744 = .ok (.iaload, 1) := dec_46 (gB dr_11 40 rfl rfl)
theorem dL_law_745 : decode cL_law 745 = .ok (.aload_n 3, 1) := dec_45 (gB dr_11 41 rfl rfl)
theorem dL_law_746 : decode cL_law 746 = .ok (.invokestatic 199, 3) := e_184 (x := 0) (y := 199) dr_11 42 rfl rfl
theorem dL_law_749 : decode cL_law 749 = .ok (.istore 5, 2) := e_54 (x := 5) dr_11 45 rfl rfl
theorem dL_law_751 : decode cL_law 751 = .ok (.aload_n 2, 1) := dec_44 (gB dr_11 47 rfl rfl)
theorem dL_law_752 : decode cL_law 752 = .ok (.aload_n 0, 1) := dec_42 (gB dr_11 48 rfl rfl)
theorem dL_law_753 : decode cL_law 753 = .ok (.iload 4, 2) := e_21 (x := 4) dr_11 49 rfl rfl
theorem dL_law_755 : decode cL_law 755 = .ok (.iconst 1, 1) := dec_4 (gB dr_11 51 rfl rfl)
theorem dL_law_756 : decode cL_law 756 = .ok (.iadd, 1) := dec_96 (gB dr_11 52 rfl rfl)
theorem dL_law_757 : decode cL_law 757 = .ok (.iaload, 1) := dec_46 (gB dr_11 53 rfl rfl)
theorem dL_law_758 : decode cL_law 758 = .ok (.aload_n 0, 1) := dec_42 (gB dr_11 54 rfl rfl)
theorem dL_law_759 : decode cL_law 759 = .ok (.iload 4, 2) := e_21 (x := 4) dr_11 55 rfl rfl
theorem dL_law_761 : decode cL_law 761 = .ok (.iconst 2, 1) := dec_5 (gB dr_11 57 rfl rfl)
theorem dL_law_762 : decode cL_law 762 = .ok (.iadd, 1) := dec_96 (gB dr_11 58 rfl rfl)
theorem dL_law_763 : decode cL_law 763 = .ok (.iaload, 1) := dec_46 (gB dr_11 59 rfl rfl)
theorem dL_law_764 : decode cL_law 764 = .ok (.aload_n 0, 1) := dec_42 (gB dr_11 60 rfl rfl)
theorem dL_law_765 : decode cL_law 765 = .ok (.iload 4, 2) := e_21 (x := 4) dr_11 61 rfl rfl
theorem dL_law_767 : decode cL_law 767 = .ok (.iconst 3, 1) := dec_6 (gB dr_11 63 rfl rfl)
theorem dL_law_768 : decode cL_law 768 = .ok (.iadd, 1) := dec_96 (gB dr_12 0 rfl rfl)
theorem dL_law_769 : decode cL_law 769 = .ok (.iaload, 1) := dec_46 (gB dr_12 1 rfl rfl)
theorem dL_law_770 : decode cL_law 770 = .ok (.invokevirtual 201, 3) := e_182 (x := 0) (y := 201) dr_12 2 rfl rfl
theorem dL_law_773 : decode cL_law 773 = .ok (.istore 6, 2) := e_54 (x := 6) dr_12 5 rfl rfl
theorem dL_law_775 : decode cL_law 775 = .ok (.aload_n 2, 1) := dec_44 (gB dr_12 7 rfl rfl)
theorem dL_law_776 : decode cL_law 776 = .ok (.invokevirtual 178, 3) := e_182 (x := 0) (y := 178) dr_12 8 rfl rfl
theorem dL_law_779 : decode cL_law 779 = .ok (.iload 5, 2) := e_21 (x := 5) dr_12 11 rfl rfl
theorem dL_law_781 : decode cL_law 781 = .ok (.if_icmp .eq 5, 3) := e_159 (x := 0) (y := 5) dr_12 13 rfl rfl
theorem dL_law_784 : decode cL_law 784 = .ok (.iconst 0, 1) := dec_3 (gB dr_12 16 rfl rfl)
theorem dL_law_786 : decode cL_law 786 = .ok (.iload 5, 2) := e_21 (x := 5) dr_12 18 rfl rfl
theorem dL_law_788 : decode cL_law 788 = .ok (.ifCond .ne 16, 3) := e_154 (x := 0) (y := 16) dr_12 20 rfl rfl
theorem dL_law_791 : decode cL_law 791 = .ok (.aload_n 3, 1) := dec_45 (gB dr_12 23 rfl rfl)
theorem dL_law_792 : decode cL_law 792 = .ok (.getfield 13, 3) := e_180 (x := 0) (y := 13) dr_12 24 rfl rfl
theorem dL_law_795 : decode cL_law 795 = .ok (.iload 6, 2) := e_21 (x := 6) dr_12 27 rfl rfl
theorem dL_law_797 : decode cL_law 797 = .ok (.i2l, 1) := dec_133 (gB dr_12 29 rfl rfl)
theorem dL_law_798 : decode cL_law 798 = .ok (.lcmp, 1) := dec_148 (gB dr_12 30 rfl rfl)
theorem dL_law_799 : decode cL_law 799 = .ok (.ifCond .eq 5, 3) := e_153 (x := 0) (y := 5) dr_12 31 rfl rfl
theorem dL_law_802 : decode cL_law 802 = .ok (.iconst 0, 1) := dec_3 (gB dr_12 34 rfl rfl)
theorem dL_law_804 : decode cL_law 804 = .ok (.goto 2668, 3) := e_167 (x := 10) (y := 108) dr_12 36 rfl rfl
theorem dL_law_807 : decode cL_law 807 = .ok (.aload_n 1, 1) := dec_43 (gB dr_12 39 rfl rfl)
theorem dL_law_808 : decode cL_law 808 = .ok (.aload_n 0, 1) := dec_42 (gB dr_12 40 rfl rfl)
theorem dL_law_809 : decode cL_law 809 = .ok (.iload 4, 2) := e_21 (x := 4) dr_12 41 rfl rfl
theorem dL_law_811 : decode cL_law 811 = .ok (.iconst 1, 1) := dec_4 (gB dr_12 43 rfl rfl)
theorem dL_law_812 : decode cL_law 812 = .ok (.iadd, 1) := dec_96 (gB dr_12 44 rfl rfl)
theorem dL_law_813 : decode cL_law 813 = .ok (.iaload, 1) := dec_46 (gB dr_12 45 rfl rfl)
theorem dL_law_814 : decode cL_law 814 = .ok (.aload_n 0, 1) := dec_42 (gB dr_12 46 rfl rfl)
theorem dL_law_815 : decode cL_law 815 = .ok (.iload 4, 2) := e_21 (x := 4) dr_12 47 rfl rfl
theorem dL_law_817 : decode cL_law 817 = .ok (.iconst 2, 1) := dec_5 (gB dr_12 49 rfl rfl)
theorem dL_law_818 : decode cL_law 818 = .ok (.iadd, 1) := dec_96 (gB dr_12 50 rfl rfl)
theorem dL_law_819 : decode cL_law 819 = .ok (.iaload, 1) := dec_46 (gB dr_12 51 rfl rfl)
theorem dL_law_820 : decode cL_law 820 = .ok (.aload_n 0, 1) := dec_42 (gB dr_12 52 rfl rfl)
theorem dL_law_821 : decode cL_law 821 = .ok (.iload 4, 2) := e_21 (x := 4) dr_12 53 rfl rfl
theorem dL_law_823 : decode cL_law 823 = .ok (.iconst 3, 1) := dec_6 (gB dr_12 55 rfl rfl)
theorem dL_law_824 : decode cL_law 824 = .ok (.iadd, 1) := dec_96 (gB dr_12 56 rfl rfl)
theorem dL_law_825 : decode cL_law 825 = .ok (.iaload, 1) := dec_46 (gB dr_12 57 rfl rfl)
theorem dL_law_826 : decode cL_law 826 = .ok (.aload_n 0, 1) := dec_42 (gB dr_12 58 rfl rfl)
theorem dL_law_827 : decode cL_law 827 = .ok (.iload 4, 2) := e_21 (x := 4) dr_12 59 rfl rfl
theorem dL_law_829 : decode cL_law 829 = .ok (.iconst 4, 1) := dec_7 (gB dr_12 61 rfl rfl)
theorem dL_law_830 : decode cL_law 830 = .ok (.iadd, 1) := dec_96 (gB dr_12 62 rfl rfl)
theorem dL_law_831 : decode cL_law 831 = .ok (.iaload, 1) := dec_46 (gB dr_12 63 rfl rfl)
theorem dL_law_832 : decode cL_law 832 = .ok (.aload_n 3, 1) := dec_45 (gB dr_13 0 rfl rfl)
theorem dL_law_833 : decode cL_law 833 = .ok (.invokestatic 202, 3) := e_184 (x := 0) (y := 202) dr_13 1 rfl rfl
theorem dL_law_836 : decode cL_law 836 = .ok (.istore 5, 2) := e_54 (x := 5) dr_13 4 rfl rfl
theorem dL_law_838 : decode cL_law 838 = .ok (.aload_n 2, 1) := dec_44 (gB dr_13 6 rfl rfl)
theorem dL_law_839 : decode cL_law 839 = .ok (.aload_n 0, 1) := dec_42 (gB dr_13 7 rfl rfl)
theorem dL_law_840 : decode cL_law 840 = .ok (.iload 4, 2) := e_21 (x := 4) dr_13 8 rfl rfl
theorem dL_law_842 : decode cL_law 842 = .ok (.iconst 1, 1) := dec_4 (gB dr_13 10 rfl rfl)
theorem dL_law_843 : decode cL_law 843 = .ok (.iadd, 1) := dec_96 (gB dr_13 11 rfl rfl)
theorem dL_law_844 : decode cL_law 844 = .ok (.iaload, 1) := dec_46 (gB dr_13 12 rfl rfl)
theorem dL_law_845 : decode cL_law 845 = .ok (.aload_n 0, 1) := dec_42 (gB dr_13 13 rfl rfl)
theorem dL_law_846 : decode cL_law 846 = .ok (.iload 4, 2) := e_21 (x := 4) dr_13 14 rfl rfl
theorem dL_law_848 : decode cL_law 848 = .ok (.iconst 2, 1) := dec_5 (gB dr_13 16 rfl rfl)
theorem dL_law_849 : decode cL_law 849 = .ok (.iadd, 1) := dec_96 (gB dr_13 17 rfl rfl)
theorem dL_law_850 : decode cL_law 850 = .ok (.iaload, 1) := dec_46 (gB dr_13 18 rfl rfl)
theorem dL_law_851 : decode cL_law 851 = .ok (.aload_n 0, 1) := dec_42 (gB dr_13 19 rfl rfl)
theorem dL_law_852 : decode cL_law 852 = .ok (.iload 4, 2) := e_21 (x := 4) dr_13 20 rfl rfl
theorem dL_law_854 : decode cL_law 854 = .ok (.iconst 3, 1) := dec_6 (gB dr_13 22 rfl rfl)
theorem dL_law_855 : decode cL_law 855 = .ok (.iadd, 1) := dec_96 (gB dr_13 23 rfl rfl)
theorem dL_law_856 : decode cL_law 856 = .ok (.iaload, 1) := dec_46 (gB dr_13 24 rfl rfl)
theorem dL_law_857 : decode cL_law 857 = .ok (.aload_n 0, 1) := dec_42 (gB dr_13 25 rfl rfl)
theorem dL_law_858 : decode cL_law 858 = .ok (.iload 4, 2) := e_21 (x := 4) dr_13 26 rfl rfl
theorem dL_law_860 : decode cL_law 860 = .ok (.iconst 4, 1) := dec_7 (gB dr_13 28 rfl rfl)
theorem dL_law_861 : decode cL_law 861 = .ok (.iadd, 1) := dec_96 (gB dr_13 29 rfl rfl)
theorem dL_law_862 : decode cL_law 862 = .ok (.iaload, 1) := dec_46 (gB dr_13 30 rfl rfl)
theorem dL_law_863 : decode cL_law 863 = .ok (.invokevirtual 205, 3) := e_182 (x := 0) (y := 205) dr_13 31 rfl rfl
theorem dL_law_866 : decode cL_law 866 = .ok (.istore 6, 2) := e_54 (x := 6) dr_13 34 rfl rfl
theorem dL_law_868 : decode cL_law 868 = .ok (.aload_n 2, 1) := dec_44 (gB dr_13 36 rfl rfl)
theorem dL_law_869 : decode cL_law 869 = .ok (.invokevirtual 178, 3) := e_182 (x := 0) (y := 178) dr_13 37 rfl rfl
theorem dL_law_872 : decode cL_law 872 = .ok (.iload 5, 2) := e_21 (x := 5) dr_13 40 rfl rfl
theorem dL_law_874 : decode cL_law 874 = .ok (.if_icmp .eq 5, 3) := e_159 (x := 0) (y := 5) dr_13 42 rfl rfl
theorem dL_law_877 : decode cL_law 877 = .ok (.iconst 0, 1) := dec_3 (gB dr_13 45 rfl rfl)
theorem dL_law_879 : decode cL_law 879 = .ok (.iload 5, 2) := e_21 (x := 5) dr_13 47 rfl rfl
theorem dL_law_881 : decode cL_law 881 = .ok (.ifCond .ne 16, 3) := e_154 (x := 0) (y := 16) dr_13 49 rfl rfl
theorem dL_law_884 : decode cL_law 884 = .ok (.aload_n 3, 1) := dec_45 (gB dr_13 52 rfl rfl)
theorem dL_law_885 : decode cL_law 885 = .ok (.getfield 13, 3) := e_180 (x := 0) (y := 13) dr_13 53 rfl rfl
theorem dL_law_888 : decode cL_law 888 = .ok (.iload 6, 2) := e_21 (x := 6) dr_13 56 rfl rfl
theorem dL_law_890 : decode cL_law 890 = .ok (.i2l, 1) := dec_133 (gB dr_13 58 rfl rfl)
theorem dL_law_891 : decode cL_law 891 = .ok (.lcmp, 1) := dec_148 (gB dr_13 59 rfl rfl)
theorem dL_law_892 : decode cL_law 892 = .ok (.ifCond .eq 5, 3) := e_153 (x := 0) (y := 5) dr_13 60 rfl rfl
theorem dL_law_895 : decode cL_law 895 = .ok (.iconst 0, 1) := dec_3 (gB dr_13 63 rfl rfl)
theorem dL_law_897 : decode cL_law 897 = .ok (.goto 2575, 3) := e_167 (x := 10) (y := 15) dr_14 1 rfl rfl
theorem dL_law_900 : decode cL_law 900 = .ok (.aload_n 1, 1) := dec_43 (gB dr_14 4 rfl rfl)
theorem dL_law_901 : decode cL_law 901 = .ok (.aload_n 0, 1) := dec_42 (gB dr_14 5 rfl rfl)
theorem dL_law_902 : decode cL_law 902 = .ok (.iload 4, 2) := e_21 (x := 4) dr_14 6 rfl rfl
theorem dL_law_904 : decode cL_law 904 = .ok (.iconst 1, 1) := dec_4 (gB dr_14 8 rfl rfl)
theorem dL_law_905 : decode cL_law 905 = .ok (.iadd, 1) := dec_96 (gB dr_14 9 rfl rfl)
theorem dL_law_906 : decode cL_law 906 = .ok (.iaload, 1) := dec_46 (gB dr_14 10 rfl rfl)
theorem dL_law_907 : decode cL_law 907 = .ok (.aload_n 0, 1) := dec_42 (gB dr_14 11 rfl rfl)
theorem dL_law_908 : decode cL_law 908 = .ok (.iload 4, 2) := e_21 (x := 4) dr_14 12 rfl rfl
theorem dL_law_910 : decode cL_law 910 = .ok (.iconst 2, 1) := dec_5 (gB dr_14 14 rfl rfl)
theorem dL_law_911 : decode cL_law 911 = .ok (.iadd, 1) := dec_96 (gB dr_14 15 rfl rfl)
theorem dL_law_912 : decode cL_law 912 = .ok (.iaload, 1) := dec_46 (gB dr_14 16 rfl rfl)
theorem dL_law_913 : decode cL_law 913 = .ok (.aload_n 3, 1) := dec_45 (gB dr_14 17 rfl rfl)
theorem dL_law_914 : decode cL_law 914 = .ok (.invokestatic 206, 3) := e_184 (x := 0) (y := 206) dr_14 18 rfl rfl
theorem dL_law_917 : decode cL_law 917 = .ok (.istore 5, 2) := e_54 (x := 5) dr_14 21 rfl rfl
theorem dL_law_919 : decode cL_law 919 = .ok (.aload_n 2, 1) := dec_44 (gB dr_14 23 rfl rfl)
theorem dL_law_920 : decode cL_law 920 = .ok (.aload_n 0, 1) := dec_42 (gB dr_14 24 rfl rfl)
theorem dL_law_921 : decode cL_law 921 = .ok (.iload 4, 2) := e_21 (x := 4) dr_14 25 rfl rfl
theorem dL_law_923 : decode cL_law 923 = .ok (.iconst 1, 1) := dec_4 (gB dr_14 27 rfl rfl)
theorem dL_law_924 : decode cL_law 924 = .ok (.iadd, 1) := dec_96 (gB dr_14 28 rfl rfl)
theorem dL_law_925 : decode cL_law 925 = .ok (.iaload, 1) := dec_46 (gB dr_14 29 rfl rfl)
theorem dL_law_926 : decode cL_law 926 = .ok (.aload_n 0, 1) := dec_42 (gB dr_14 30 rfl rfl)
theorem dL_law_927 : decode cL_law 927 = .ok (.iload 4, 2) := e_21 (x := 4) dr_14 31 rfl rfl
theorem dL_law_929 : decode cL_law 929 = .ok (.iconst 2, 1) := dec_5 (gB dr_14 33 rfl rfl)
theorem dL_law_930 : decode cL_law 930 = .ok (.iadd, 1) := dec_96 (gB dr_14 34 rfl rfl)
theorem dL_law_931 : decode cL_law 931 = .ok (.iaload, 1) := dec_46 (gB dr_14 35 rfl rfl)
theorem dL_law_932 : decode cL_law 932 = .ok (.invokevirtual 208, 3) := e_182 (x := 0) (y := 208) dr_14 36 rfl rfl
theorem dL_law_935 : decode cL_law 935 = .ok (.istore 6, 2) := e_54 (x := 6) dr_14 39 rfl rfl
theorem dL_law_937 : decode cL_law 937 = .ok (.aload_n 2, 1) := dec_44 (gB dr_14 41 rfl rfl)
theorem dL_law_938 : decode cL_law 938 = .ok (.invokevirtual 178, 3) := e_182 (x := 0) (y := 178) dr_14 42 rfl rfl
theorem dL_law_941 : decode cL_law 941 = .ok (.iload 5, 2) := e_21 (x := 5) dr_14 45 rfl rfl
theorem dL_law_943 : decode cL_law 943 = .ok (.if_icmp .eq 5, 3) := e_159 (x := 0) (y := 5) dr_14 47 rfl rfl
theorem dL_law_946 : decode cL_law 946 = .ok (.iconst 0, 1) := dec_3 (gB dr_14 50 rfl rfl)
theorem dL_law_948 : decode cL_law 948 = .ok (.iload 5, 2) := e_21 (x := 5) dr_14 52 rfl rfl
theorem dL_law_950 : decode cL_law 950 = .ok (.ifCond .ne 16, 3) := e_154 (x := 0) (y := 16) dr_14 54 rfl rfl
theorem dL_law_953 : decode cL_law 953 = .ok (.aload_n 3, 1) := dec_45 (gB dr_14 57 rfl rfl)
theorem dL_law_954 : decode cL_law 954 = .ok (.getfield 13, 3) := e_180 (x := 0) (y := 13) dr_14 58 rfl rfl
theorem dL_law_957 : decode cL_law 957 = .ok (.iload 6, 2) := e_21 (x := 6) dr_14 61 rfl rfl
theorem dL_law_959 : decode cL_law 959 = .ok (.i2l, 1) := dec_133 (gB dr_14 63 rfl rfl)
theorem dL_law_960 : decode cL_law 960 = .ok (.lcmp, 1) := dec_148 (gB dr_15 0 rfl rfl)
theorem dL_law_961 : decode cL_law 961 = .ok (.ifCond .eq 5, 3) := e_153 (x := 0) (y := 5) dr_15 1 rfl rfl
theorem dL_law_964 : decode cL_law 964 = .ok (.iconst 0, 1) := dec_3 (gB dr_15 4 rfl rfl)
theorem dL_law_966 : decode cL_law 966 = .ok (.goto 2506, 3) := e_167 (x := 9) (y := 202) dr_15 6 rfl rfl
theorem dL_law_969 : decode cL_law 969 = .ok (.aload_n 1, 1) := dec_43 (gB dr_15 9 rfl rfl)
theorem dL_law_970 : decode cL_law 970 = .ok (.aload_n 0, 1) := dec_42 (gB dr_15 10 rfl rfl)
theorem dL_law_971 : decode cL_law 971 = .ok (.iload 4, 2) := e_21 (x := 4) dr_15 11 rfl rfl
theorem dL_law_973 : decode cL_law 973 = .ok (.iconst 1, 1) := dec_4 (gB dr_15 13 rfl rfl)
theorem dL_law_974 : decode cL_law 974 = .ok (.iadd, 1) := dec_96 (gB dr_15 14 rfl rfl)
theorem dL_law_975 : decode cL_law 975 = .ok (.iaload, 1) := dec_46 (gB dr_15 15 rfl rfl)
theorem dL_law_976 : decode cL_law 976 = .ok (.aload_n 3, 1) := dec_45 (gB dr_15 16 rfl rfl)
theorem dL_law_977 : decode cL_law 977 = .ok (.invokestatic 209, 3) := e_184 (x := 0) (y := 209) dr_15 17 rfl rfl
theorem dL_law_980 : decode cL_law 980 = .ok (.istore 5, 2) := e_54 (x := 5) dr_15 20 rfl rfl
theorem dL_law_982 : decode cL_law 982 = .ok (.aload_n 2, 1) := dec_44 (gB dr_15 22 rfl rfl)
theorem dL_law_983 : decode cL_law 983 = .ok (.aload_n 0, 1) := dec_42 (gB dr_15 23 rfl rfl)
theorem dL_law_984 : decode cL_law 984 = .ok (.iload 4, 2) := e_21 (x := 4) dr_15 24 rfl rfl
theorem dL_law_986 : decode cL_law 986 = .ok (.iconst 1, 1) := dec_4 (gB dr_15 26 rfl rfl)
theorem dL_law_987 : decode cL_law 987 = .ok (.iadd, 1) := dec_96 (gB dr_15 27 rfl rfl)
theorem dL_law_988 : decode cL_law 988 = .ok (.iaload, 1) := dec_46 (gB dr_15 28 rfl rfl)
theorem dL_law_989 : decode cL_law 989 = .ok (.invokevirtual 212, 3) := e_182 (x := 0) (y := 212) dr_15 29 rfl rfl
theorem dL_law_992 : decode cL_law 992 = .ok (.istore 6, 2) := e_54 (x := 6) dr_15 32 rfl rfl
theorem dL_law_994 : decode cL_law 994 = .ok (.aload_n 2, 1) := dec_44 (gB dr_15 34 rfl rfl)
theorem dL_law_995 : decode cL_law 995 = .ok (.invokevirtual 178, 3) := e_182 (x := 0) (y := 178) dr_15 35 rfl rfl
theorem dL_law_998 : decode cL_law 998 = .ok (.iload 5, 2) := e_21 (x := 5) dr_15 38 rfl rfl
theorem dL_law_1000 : decode cL_law 1000 = .ok (.if_icmp .eq 5, 3) := e_159 (x := 0) (y := 5) dr_15 40 rfl rfl
theorem dL_law_1003 : decode cL_law 1003 = .ok (.iconst 0, 1) := dec_3 (gB dr_15 43 rfl rfl)
theorem dL_law_1005 : decode cL_law 1005 = .ok (.iload 5, 2) := e_21 (x := 5) dr_15 45 rfl rfl
theorem dL_law_1007 : decode cL_law 1007 = .ok (.ifCond .ne 16, 3) := e_154 (x := 0) (y := 16) dr_15 47 rfl rfl
theorem dL_law_1010 : decode cL_law 1010 = .ok (.aload_n 3, 1) := dec_45 (gB dr_15 50 rfl rfl)
theorem dL_law_1011 : decode cL_law 1011 = .ok (.getfield 13, 3) := e_180 (x := 0) (y := 13) dr_15 51 rfl rfl
theorem dL_law_1014 : decode cL_law 1014 = .ok (.iload 6, 2) := e_21 (x := 6) dr_15 54 rfl rfl
theorem dL_law_1016 : decode cL_law 1016 = .ok (.i2l, 1) := dec_133 (gB dr_15 56 rfl rfl)
theorem dL_law_1017 : decode cL_law 1017 = .ok (.lcmp, 1) := dec_148 (gB dr_15 57 rfl rfl)
theorem dL_law_1018 : decode cL_law 1018 = .ok (.ifCond .eq 5, 3) := e_153 (x := 0) (y := 5) dr_15 58 rfl rfl
theorem dL_law_1021 : decode cL_law 1021 = .ok (.iconst 0, 1) := dec_3 (gB dr_15 61 rfl rfl)
theorem dL_law_1023 : decode cL_law 1023 = .ok (.goto 2449, 3) := dec_167 (a := 9) (b := 145) (gB dr_15 63 rfl rfl) (gB dr_16 0 rfl rfl) (gB dr_16 1 rfl rfl)
theorem dL_law_1026 : decode cL_law 1026 = .ok (.aload_n 1, 1) := dec_43 (gB dr_16 2 rfl rfl)
theorem dL_law_1027 : decode cL_law 1027 = .ok (.aload_n 0, 1) := dec_42 (gB dr_16 3 rfl rfl)
theorem dL_law_1028 : decode cL_law 1028 = .ok (.iload 4, 2) := e_21 (x := 4) dr_16 4 rfl rfl
theorem dL_law_1030 : decode cL_law 1030 = .ok (.iconst 1, 1) := dec_4 (gB dr_16 6 rfl rfl)
theorem dL_law_1031 : decode cL_law 1031 = .ok (.iadd, 1) := dec_96 (gB dr_16 7 rfl rfl)
theorem dL_law_1032 : decode cL_law 1032 = .ok (.iaload, 1) := dec_46 (gB dr_16 8 rfl rfl)
theorem dL_law_1033 : decode cL_law 1033 = .ok (.aload_n 3, 1) := dec_45 (gB dr_16 9 rfl rfl)
theorem dL_law_1034 : decode cL_law 1034 = .ok (.invokestatic 213, 3) := e_184 (x := 0) (y := 213) dr_16 10 rfl rfl
theorem dL_law_1037 : decode cL_law 1037 = .ok (.istore 5, 2) := e_54 (x := 5) dr_16 13 rfl rfl
theorem dL_law_1039 : decode cL_law 1039 = .ok (.aload_n 2, 1) := dec_44 (gB dr_16 15 rfl rfl)
theorem dL_law_1040 : decode cL_law 1040 = .ok (.aload_n 0, 1) := dec_42 (gB dr_16 16 rfl rfl)
theorem dL_law_1041 : decode cL_law 1041 = .ok (.iload 4, 2) := e_21 (x := 4) dr_16 17 rfl rfl
theorem dL_law_1043 : decode cL_law 1043 = .ok (.iconst 1, 1) := dec_4 (gB dr_16 19 rfl rfl)
theorem dL_law_1044 : decode cL_law 1044 = .ok (.iadd, 1) := dec_96 (gB dr_16 20 rfl rfl)
theorem dL_law_1045 : decode cL_law 1045 = .ok (.iaload, 1) := dec_46 (gB dr_16 21 rfl rfl)
theorem dL_law_1046 : decode cL_law 1046 = .ok (.invokevirtual 215, 3) := e_182 (x := 0) (y := 215) dr_16 22 rfl rfl
theorem dL_law_1049 : decode cL_law 1049 = .ok (.istore 6, 2) := e_54 (x := 6) dr_16 25 rfl rfl
theorem dL_law_1051 : decode cL_law 1051 = .ok (.aload_n 2, 1) := dec_44 (gB dr_16 27 rfl rfl)
theorem dL_law_1052 : decode cL_law 1052 = .ok (.invokevirtual 178, 3) := e_182 (x := 0) (y := 178) dr_16 28 rfl rfl
theorem dL_law_1055 : decode cL_law 1055 = .ok (.iload 5, 2) := e_21 (x := 5) dr_16 31 rfl rfl
theorem dL_law_1057 : decode cL_law 1057 = .ok (.if_icmp .eq 5, 3) := e_159 (x := 0) (y := 5) dr_16 33 rfl rfl
theorem dL_law_1060 : decode cL_law 1060 = .ok (.iconst 0, 1) := dec_3 (gB dr_16 36 rfl rfl)
theorem dL_law_1062 : decode cL_law 1062 = .ok (.iload 5, 2) := e_21 (x := 5) dr_16 38 rfl rfl
theorem dL_law_1064 : decode cL_law 1064 = .ok (.ifCond .ne 16, 3) := e_154 (x := 0) (y := 16) dr_16 40 rfl rfl
theorem dL_law_1067 : decode cL_law 1067 = .ok (.aload_n 3, 1) := dec_45 (gB dr_16 43 rfl rfl)
theorem dL_law_1068 : decode cL_law 1068 = .ok (.getfield 13, 3) := e_180 (x := 0) (y := 13) dr_16 44 rfl rfl
theorem dL_law_1071 : decode cL_law 1071 = .ok (.iload 6, 2) := e_21 (x := 6) dr_16 47 rfl rfl
theorem dL_law_1073 : decode cL_law 1073 = .ok (.i2l, 1) := dec_133 (gB dr_16 49 rfl rfl)
theorem dL_law_1074 : decode cL_law 1074 = .ok (.lcmp, 1) := dec_148 (gB dr_16 50 rfl rfl)
theorem dL_law_1075 : decode cL_law 1075 = .ok (.ifCond .eq 5, 3) := e_153 (x := 0) (y := 5) dr_16 51 rfl rfl
theorem dL_law_1078 : decode cL_law 1078 = .ok (.iconst 0, 1) := dec_3 (gB dr_16 54 rfl rfl)
theorem dL_law_1080 : decode cL_law 1080 = .ok (.goto 2392, 3) := e_167 (x := 9) (y := 88) dr_16 56 rfl rfl
theorem dL_law_1083 : decode cL_law 1083 = .ok (.aload_n 1, 1) := dec_43 (gB dr_16 59 rfl rfl)
theorem dL_law_1084 : decode cL_law 1084 = .ok (.aload_n 0, 1) := dec_42 (gB dr_16 60 rfl rfl)
theorem dL_law_1085 : decode cL_law 1085 = .ok (.iload 4, 2) := e_21 (x := 4) dr_16 61 rfl rfl
theorem dL_law_1087 : decode cL_law 1087 = .ok (.iconst 1, 1) := dec_4 (gB dr_16 63 rfl rfl)
theorem dL_law_1088 : decode cL_law 1088 = .ok (.iadd, 1) := dec_96 (gB dr_17 0 rfl rfl)
theorem dL_law_1089 : decode cL_law 1089 = .ok (.iaload, 1) := dec_46 (gB dr_17 1 rfl rfl)
theorem dL_law_1090 : decode cL_law 1090 = .ok (.aload_n 0, 1) := dec_42 (gB dr_17 2 rfl rfl)
theorem dL_law_1091 : decode cL_law 1091 = .ok (.iload 4, 2) := e_21 (x := 4) dr_17 3 rfl rfl
theorem dL_law_1093 : decode cL_law 1093 = .ok (.iconst 2, 1) := dec_5 (gB dr_17 5 rfl rfl)
theorem dL_law_1094 : decode cL_law 1094 = .ok (.iadd, 1) := dec_96 (gB dr_17 6 rfl rfl)
theorem dL_law_1095 : decode cL_law 1095 = .ok (.iaload, 1) := dec_46 (gB dr_17 7 rfl rfl)
theorem dL_law_1096 : decode cL_law 1096 = .ok (.aload_n 3, 1) := dec_45 (gB dr_17 8 rfl rfl)
theorem dL_law_1097 : decode cL_law 1097 = .ok (.invokestatic 216, 3) := e_184 (x := 0) (y := 216) dr_17 9 rfl rfl
theorem dL_law_1100 : decode cL_law 1100 = .ok (.istore 5, 2) := e_54 (x := 5) dr_17 12 rfl rfl
theorem dL_law_1102 : decode cL_law 1102 = .ok (.aload_n 2, 1) := dec_44 (gB dr_17 14 rfl rfl)
theorem dL_law_1103 : decode cL_law 1103 = .ok (.aload_n 0, 1) := dec_42 (gB dr_17 15 rfl rfl)
theorem dL_law_1104 : decode cL_law 1104 = .ok (.iload 4, 2) := e_21 (x := 4) dr_17 16 rfl rfl
theorem dL_law_1106 : decode cL_law 1106 = .ok (.iconst 1, 1) := dec_4 (gB dr_17 18 rfl rfl)
theorem dL_law_1107 : decode cL_law 1107 = .ok (.iadd, 1) := dec_96 (gB dr_17 19 rfl rfl)
theorem dL_law_1108 : decode cL_law 1108 = .ok (.iaload, 1) := dec_46 (gB dr_17 20 rfl rfl)
theorem dL_law_1109 : decode cL_law 1109 = .ok (.aload_n 0, 1) := dec_42 (gB dr_17 21 rfl rfl)
theorem dL_law_1110 : decode cL_law 1110 = .ok (.iload 4, 2) := e_21 (x := 4) dr_17 22 rfl rfl
theorem dL_law_1112 : decode cL_law 1112 = .ok (.iconst 2, 1) := dec_5 (gB dr_17 24 rfl rfl)
theorem dL_law_1113 : decode cL_law 1113 = .ok (.iadd, 1) := dec_96 (gB dr_17 25 rfl rfl)
theorem dL_law_1114 : decode cL_law 1114 = .ok (.iaload, 1) := dec_46 (gB dr_17 26 rfl rfl)
theorem dL_law_1115 : decode cL_law 1115 = .ok (.invokevirtual 218, 3) := e_182 (x := 0) (y := 218) dr_17 27 rfl rfl
theorem dL_law_1118 : decode cL_law 1118 = .ok (.istore 6, 2) := e_54 (x := 6) dr_17 30 rfl rfl
theorem dL_law_1120 : decode cL_law 1120 = .ok (.aload_n 2, 1) := dec_44 (gB dr_17 32 rfl rfl)
theorem dL_law_1121 : decode cL_law 1121 = .ok (.invokevirtual 178, 3) := e_182 (x := 0) (y := 178) dr_17 33 rfl rfl
theorem dL_law_1124 : decode cL_law 1124 = .ok (.iload 5, 2) := e_21 (x := 5) dr_17 36 rfl rfl
theorem dL_law_1126 : decode cL_law 1126 = .ok (.if_icmp .eq 5, 3) := e_159 (x := 0) (y := 5) dr_17 38 rfl rfl
theorem dL_law_1129 : decode cL_law 1129 = .ok (.iconst 0, 1) := dec_3 (gB dr_17 41 rfl rfl)
theorem dL_law_1131 : decode cL_law 1131 = .ok (.iload 5, 2) := e_21 (x := 5) dr_17 43 rfl rfl
theorem dL_law_1133 : decode cL_law 1133 = .ok (.ifCond .ne 16, 3) := e_154 (x := 0) (y := 16) dr_17 45 rfl rfl
theorem dL_law_1136 : decode cL_law 1136 = .ok (.aload_n 3, 1) := dec_45 (gB dr_17 48 rfl rfl)
theorem dL_law_1137 : decode cL_law 1137 = .ok (.getfield 13, 3) := e_180 (x := 0) (y := 13) dr_17 49 rfl rfl
theorem dL_law_1140 : decode cL_law 1140 = .ok (.iload 6, 2) := e_21 (x := 6) dr_17 52 rfl rfl
theorem dL_law_1142 : decode cL_law 1142 = .ok (.i2l, 1) := dec_133 (gB dr_17 54 rfl rfl)
theorem dL_law_1143 : decode cL_law 1143 = .ok (.lcmp, 1) := dec_148 (gB dr_17 55 rfl rfl)
theorem dL_law_1144 : decode cL_law 1144 = .ok (.ifCond .eq 5, 3) := e_153 (x := 0) (y := 5) dr_17 56 rfl rfl
theorem dL_law_1147 : decode cL_law 1147 = .ok (.iconst 0, 1) := dec_3 (gB dr_17 59 rfl rfl)
theorem dL_law_1149 : decode cL_law 1149 = .ok (.goto 2323, 3) := e_167 (x := 9) (y := 19) dr_17 61 rfl rfl
theorem dL_law_1152 : decode cL_law 1152 = .ok (.aload_n 1, 1) := dec_43 (gB dr_18 0 rfl rfl)
theorem dL_law_1153 : decode cL_law 1153 = .ok (.aload_n 0, 1) := dec_42 (gB dr_18 1 rfl rfl)
theorem dL_law_1154 : decode cL_law 1154 = .ok (.iload 4, 2) := e_21 (x := 4) dr_18 2 rfl rfl
theorem dL_law_1156 : decode cL_law 1156 = .ok (.iconst 1, 1) := dec_4 (gB dr_18 4 rfl rfl)
theorem dL_law_1157 : decode cL_law 1157 = .ok (.iadd, 1) := dec_96 (gB dr_18 5 rfl rfl)
theorem dL_law_1158 : decode cL_law 1158 = .ok (.iaload, 1) := dec_46 (gB dr_18 6 rfl rfl)
theorem dL_law_1159 : decode cL_law 1159 = .ok (.aload_n 0, 1) := dec_42 (gB dr_18 7 rfl rfl)
theorem dL_law_1160 : decode cL_law 1160 = .ok (.iload 4, 2) := e_21 (x := 4) dr_18 8 rfl rfl
theorem dL_law_1162 : decode cL_law 1162 = .ok (.iconst 2, 1) := dec_5 (gB dr_18 10 rfl rfl)
theorem dL_law_1163 : decode cL_law 1163 = .ok (.iadd, 1) := dec_96 (gB dr_18 11 rfl rfl)
theorem dL_law_1164 : decode cL_law 1164 = .ok (.iaload, 1) := dec_46 (gB dr_18 12 rfl rfl)
theorem dL_law_1165 : decode cL_law 1165 = .ok (.aload_n 3, 1) := dec_45 (gB dr_18 13 rfl rfl)
theorem dL_law_1166 : decode cL_law 1166 = .ok (.invokestatic 219, 3) := e_184 (x := 0) (y := 219) dr_18 14 rfl rfl
theorem dL_law_1169 : decode cL_law 1169 = .ok (.istore 5, 2) := e_54 (x := 5) dr_18 17 rfl rfl
theorem dL_law_1171 : decode cL_law 1171 = .ok (.aload_n 2, 1) := dec_44 (gB dr_18 19 rfl rfl)
theorem dL_law_1172 : decode cL_law 1172 = .ok (.aload_n 0, 1) := dec_42 (gB dr_18 20 rfl rfl)
theorem dL_law_1173 : decode cL_law 1173 = .ok (.iload 4, 2) := e_21 (x := 4) dr_18 21 rfl rfl
theorem dL_law_1175 : decode cL_law 1175 = .ok (.iconst 1, 1) := dec_4 (gB dr_18 23 rfl rfl)
theorem dL_law_1176 : decode cL_law 1176 = .ok (.iadd, 1) := dec_96 (gB dr_18 24 rfl rfl)
theorem dL_law_1177 : decode cL_law 1177 = .ok (.iaload, 1) := dec_46 (gB dr_18 25 rfl rfl)
theorem dL_law_1178 : decode cL_law 1178 = .ok (.aload_n 0, 1) := dec_42 (gB dr_18 26 rfl rfl)
theorem dL_law_1179 : decode cL_law 1179 = .ok (.iload 4, 2) := e_21 (x := 4) dr_18 27 rfl rfl
theorem dL_law_1181 : decode cL_law 1181 = .ok (.iconst 2, 1) := dec_5 (gB dr_18 29 rfl rfl)
theorem dL_law_1182 : decode cL_law 1182 = .ok (.iadd, 1) := dec_96 (gB dr_18 30 rfl rfl)
theorem dL_law_1183 : decode cL_law 1183 = .ok (.iaload, 1) := dec_46 (gB dr_18 31 rfl rfl)
theorem dL_law_1184 : decode cL_law 1184 = .ok (.invokevirtual 221, 3) := e_182 (x := 0) (y := 221) dr_18 32 rfl rfl
theorem dL_law_1187 : decode cL_law 1187 = .ok (.istore 6, 2) := e_54 (x := 6) dr_18 35 rfl rfl
theorem dL_law_1189 : decode cL_law 1189 = .ok (.aload_n 2, 1) := dec_44 (gB dr_18 37 rfl rfl)
theorem dL_law_1190 : decode cL_law 1190 = .ok (.invokevirtual 178, 3) := e_182 (x := 0) (y := 178) dr_18 38 rfl rfl
theorem dL_law_1193 : decode cL_law 1193 = .ok (.iload 5, 2) := e_21 (x := 5) dr_18 41 rfl rfl
theorem dL_law_1195 : decode cL_law 1195 = .ok (.if_icmp .eq 5, 3) := e_159 (x := 0) (y := 5) dr_18 43 rfl rfl
theorem dL_law_1198 : decode cL_law 1198 = .ok (.iconst 0, 1) := dec_3 (gB dr_18 46 rfl rfl)
theorem dL_law_1200 : decode cL_law 1200 = .ok (.iload 5, 2) := e_21 (x := 5) dr_18 48 rfl rfl
theorem dL_law_1202 : decode cL_law 1202 = .ok (.ifCond .ne 16, 3) := e_154 (x := 0) (y := 16) dr_18 50 rfl rfl
theorem dL_law_1205 : decode cL_law 1205 = .ok (.aload_n 3, 1) := dec_45 (gB dr_18 53 rfl rfl)
theorem dL_law_1206 : decode cL_law 1206 = .ok (.getfield 13, 3) := e_180 (x := 0) (y := 13) dr_18 54 rfl rfl
theorem dL_law_1209 : decode cL_law 1209 = .ok (.iload 6, 2) := e_21 (x := 6) dr_18 57 rfl rfl
theorem dL_law_1211 : decode cL_law 1211 = .ok (.i2l, 1) := dec_133 (gB dr_18 59 rfl rfl)
theorem dL_law_1212 : decode cL_law 1212 = .ok (.lcmp, 1) := dec_148 (gB dr_18 60 rfl rfl)
theorem dL_law_1213 : decode cL_law 1213 = .ok (.ifCond .eq 5, 3) := e_153 (x := 0) (y := 5) dr_18 61 rfl rfl
theorem dL_law_1216 : decode cL_law 1216 = .ok (.iconst 0, 1) := dec_3 (gB dr_19 0 rfl rfl)
theorem dL_law_1218 : decode cL_law 1218 = .ok (.goto 2254, 3) := e_167 (x := 8) (y := 206) dr_19 2 rfl rfl
theorem dL_law_1221 : decode cL_law 1221 = .ok (.aload_n 1, 1) := dec_43 (gB dr_19 5 rfl rfl)
theorem dL_law_1222 : decode cL_law 1222 = .ok (.aload_n 0, 1) := dec_42 (gB dr_19 6 rfl rfl)
theorem dL_law_1223 : decode cL_law 1223 = .ok (.iload 4, 2) := e_21 (x := 4) dr_19 7 rfl rfl
theorem dL_law_1225 : decode cL_law 1225 = .ok (.iconst 1, 1) := dec_4 (gB dr_19 9 rfl rfl)
theorem dL_law_1226 : decode cL_law 1226 = .ok (.iadd, 1) := dec_96 (gB dr_19 10 rfl rfl)
theorem dL_law_1227 : decode cL_law 1227 = .ok (.iaload, 1) := dec_46 (gB dr_19 11 rfl rfl)
theorem dL_law_1228 : decode cL_law 1228 = .ok (.aload_n 0, 1) := dec_42 (gB dr_19 12 rfl rfl)
theorem dL_law_1229 : decode cL_law 1229 = .ok (.iload 4, 2) := e_21 (x := 4) dr_19 13 rfl rfl
theorem dL_law_1231 : decode cL_law 1231 = .ok (.iconst 2, 1) := dec_5 (gB dr_19 15 rfl rfl)
theorem dL_law_1232 : decode cL_law 1232 = .ok (.iadd, 1) := dec_96 (gB dr_19 16 rfl rfl)
theorem dL_law_1233 : decode cL_law 1233 = .ok (.iaload, 1) := dec_46 (gB dr_19 17 rfl rfl)
theorem dL_law_1234 : decode cL_law 1234 = .ok (.aload_n 0, 1) := dec_42 (gB dr_19 18 rfl rfl)
theorem dL_law_1235 : decode cL_law 1235 = .ok (.iload 4, 2) := e_21 (x := 4) dr_19 19 rfl rfl
theorem dL_law_1237 : decode cL_law 1237 = .ok (.iconst 3, 1) := dec_6 (gB dr_19 21 rfl rfl)
theorem dL_law_1238 : decode cL_law 1238 = .ok (.iadd, 1) := dec_96 (gB dr_19 22 rfl rfl)
theorem dL_law_1239 : decode cL_law 1239 = .ok (.iaload, 1) := dec_46 (gB dr_19 23 rfl rfl)
theorem dL_law_1240 : decode cL_law 1240 = .ok (.aload_n 3, 1) := dec_45 (gB dr_19 24 rfl rfl)
theorem dL_law_1241 : decode cL_law 1241 = .ok (.invokestatic 222, 3) := e_184 (x := 0) (y := 222) dr_19 25 rfl rfl
theorem dL_law_1244 : decode cL_law 1244 = .ok (.istore 5, 2) := e_54 (x := 5) dr_19 28 rfl rfl
theorem dL_law_1246 : decode cL_law 1246 = .ok (.aload_n 2, 1) := dec_44 (gB dr_19 30 rfl rfl)
theorem dL_law_1247 : decode cL_law 1247 = .ok (.aload_n 0, 1) := dec_42 (gB dr_19 31 rfl rfl)
theorem dL_law_1248 : decode cL_law 1248 = .ok (.iload 4, 2) := e_21 (x := 4) dr_19 32 rfl rfl
theorem dL_law_1250 : decode cL_law 1250 = .ok (.iconst 1, 1) := dec_4 (gB dr_19 34 rfl rfl)
theorem dL_law_1251 : decode cL_law 1251 = .ok (.iadd, 1) := dec_96 (gB dr_19 35 rfl rfl)
theorem dL_law_1252 : decode cL_law 1252 = .ok (.iaload, 1) := dec_46 (gB dr_19 36 rfl rfl)
theorem dL_law_1253 : decode cL_law 1253 = .ok (.aload_n 0, 1) := dec_42 (gB dr_19 37 rfl rfl)
theorem dL_law_1254 : decode cL_law 1254 = .ok (.iload 4, 2) := e_21 (x := 4) dr_19 38 rfl rfl
theorem dL_law_1256 : decode cL_law 1256 = .ok (.iconst 2, 1) := dec_5 (gB dr_19 40 rfl rfl)
theorem dL_law_1257 : decode cL_law 1257 = .ok (.iadd, 1) := dec_96 (gB dr_19 41 rfl rfl)
theorem dL_law_1258 : decode cL_law 1258 = .ok (.iaload, 1) := dec_46 (gB dr_19 42 rfl rfl)
theorem dL_law_1259 : decode cL_law 1259 = .ok (.aload_n 0, 1) := dec_42 (gB dr_19 43 rfl rfl)
theorem dL_law_1260 : decode cL_law 1260 = .ok (.iload 4, 2) := e_21 (x := 4) dr_19 44 rfl rfl
theorem dL_law_1262 : decode cL_law 1262 = .ok (.iconst 3, 1) := dec_6 (gB dr_19 46 rfl rfl)
theorem dL_law_1263 : decode cL_law 1263 = .ok (.iadd, 1) := dec_96 (gB dr_19 47 rfl rfl)
theorem dL_law_1264 : decode cL_law 1264 = .ok (.iaload, 1) := dec_46 (gB dr_19 48 rfl rfl)
theorem dL_law_1265 : decode cL_law 1265 = .ok (.invokevirtual 224, 3) := e_182 (x := 0) (y := 224) dr_19 49 rfl rfl
theorem dL_law_1268 : decode cL_law 1268 = .ok (.istore 6, 2) := e_54 (x := 6) dr_19 52 rfl rfl
theorem dL_law_1270 : decode cL_law 1270 = .ok (.aload_n 2, 1) := dec_44 (gB dr_19 54 rfl rfl)
theorem dL_law_1271 : decode cL_law 1271 = .ok (.invokevirtual 178, 3) := e_182 (x := 0) (y := 178) dr_19 55 rfl rfl
theorem dL_law_1274 : decode cL_law 1274 = .ok (.iload 5, 2) := e_21 (x := 5) dr_19 58 rfl rfl
theorem dL_law_1276 : decode cL_law 1276 = .ok (.if_icmp .eq 5, 3) := e_159 (x := 0) (y := 5) dr_19 60 rfl rfl
theorem dL_law_1279 : decode cL_law 1279 = .ok (.iconst 0, 1) := dec_3 (gB dr_19 63 rfl rfl)
theorem dL_law_1281 : decode cL_law 1281 = .ok (.iload 5, 2) := e_21 (x := 5) dr_20 1 rfl rfl
theorem dL_law_1283 : decode cL_law 1283 = .ok (.ifCond .ne 16, 3) := e_154 (x := 0) (y := 16) dr_20 3 rfl rfl
theorem dL_law_1286 : decode cL_law 1286 = .ok (.aload_n 3, 1) := dec_45 (gB dr_20 6 rfl rfl)
theorem dL_law_1287 : decode cL_law 1287 = .ok (.getfield 13, 3) := e_180 (x := 0) (y := 13) dr_20 7 rfl rfl
theorem dL_law_1290 : decode cL_law 1290 = .ok (.iload 6, 2) := e_21 (x := 6) dr_20 10 rfl rfl
theorem dL_law_1292 : decode cL_law 1292 = .ok (.i2l, 1) := dec_133 (gB dr_20 12 rfl rfl)
theorem dL_law_1293 : decode cL_law 1293 = .ok (.lcmp, 1) := dec_148 (gB dr_20 13 rfl rfl)
theorem dL_law_1294 : decode cL_law 1294 = .ok (.ifCond .eq 5, 3) := e_153 (x := 0) (y := 5) dr_20 14 rfl rfl
theorem dL_law_1297 : decode cL_law 1297 = .ok (.iconst 0, 1) := dec_3 (gB dr_20 17 rfl rfl)
theorem dL_law_1299 : decode cL_law 1299 = .ok (.goto 2173, 3) := e_167 (x := 8) (y := 125) dr_20 19 rfl rfl
theorem dL_law_1302 : decode cL_law 1302 = .ok (.aload_n 1, 1) := dec_43 (gB dr_20 22 rfl rfl)
theorem dL_law_1303 : decode cL_law 1303 = .ok (.aload_n 0, 1) := dec_42 (gB dr_20 23 rfl rfl)
theorem dL_law_1304 : decode cL_law 1304 = .ok (.iload 4, 2) := e_21 (x := 4) dr_20 24 rfl rfl
theorem dL_law_1306 : decode cL_law 1306 = .ok (.iconst 1, 1) := dec_4 (gB dr_20 26 rfl rfl)
theorem dL_law_1307 : decode cL_law 1307 = .ok (.iadd, 1) := dec_96 (gB dr_20 27 rfl rfl)
theorem dL_law_1308 : decode cL_law 1308 = .ok (.iaload, 1) := dec_46 (gB dr_20 28 rfl rfl)
theorem dL_law_1309 : decode cL_law 1309 = .ok (.aload_n 0, 1) := dec_42 (gB dr_20 29 rfl rfl)
theorem dL_law_1310 : decode cL_law 1310 = .ok (.iload 4, 2) := e_21 (x := 4) dr_20 30 rfl rfl
theorem dL_law_1312 : decode cL_law 1312 = .ok (.iconst 2, 1) := dec_5 (gB dr_20 32 rfl rfl)
theorem dL_law_1313 : decode cL_law 1313 = .ok (.iadd, 1) := dec_96 (gB dr_20 33 rfl rfl)
theorem dL_law_1314 : decode cL_law 1314 = .ok (.iaload, 1) := dec_46 (gB dr_20 34 rfl rfl)
theorem dL_law_1315 : decode cL_law 1315 = .ok (.aload_n 0, 1) := dec_42 (gB dr_20 35 rfl rfl)
theorem dL_law_1316 : decode cL_law 1316 = .ok (.iload 4, 2) := e_21 (x := 4) dr_20 36 rfl rfl
theorem dL_law_1318 : decode cL_law 1318 = .ok (.iconst 3, 1) := dec_6 (gB dr_20 38 rfl rfl)
theorem dL_law_1319 : decode cL_law 1319 = .ok (.iadd, 1) := dec_96 (gB dr_20 39 rfl rfl)
theorem dL_law_1320 : decode cL_law 1320 = .ok (.iaload, 1) := dec_46 (gB dr_20 40 rfl rfl)
theorem dL_law_1321 : decode cL_law 1321 = .ok (.aload_n 3, 1) := dec_45 (gB dr_20 41 rfl rfl)
theorem dL_law_1322 : decode cL_law 1322 = .ok (.invokestatic 225, 3) := e_184 (x := 0) (y := 225) dr_20 42 rfl rfl
theorem dL_law_1325 : decode cL_law 1325 = .ok (.istore 5, 2) := e_54 (x := 5) dr_20 45 rfl rfl
theorem dL_law_1327 : decode cL_law 1327 = .ok (.aload_n 2, 1) := dec_44 (gB dr_20 47 rfl rfl)
theorem dL_law_1328 : decode cL_law 1328 = .ok (.aload_n 0, 1) := dec_42 (gB dr_20 48 rfl rfl)
theorem dL_law_1329 : decode cL_law 1329 = .ok (.iload 4, 2) := e_21 (x := 4) dr_20 49 rfl rfl
theorem dL_law_1331 : decode cL_law 1331 = .ok (.iconst 1, 1) := dec_4 (gB dr_20 51 rfl rfl)
theorem dL_law_1332 : decode cL_law 1332 = .ok (.iadd, 1) := dec_96 (gB dr_20 52 rfl rfl)
theorem dL_law_1333 : decode cL_law 1333 = .ok (.iaload, 1) := dec_46 (gB dr_20 53 rfl rfl)
theorem dL_law_1334 : decode cL_law 1334 = .ok (.aload_n 0, 1) := dec_42 (gB dr_20 54 rfl rfl)
theorem dL_law_1335 : decode cL_law 1335 = .ok (.iload 4, 2) := e_21 (x := 4) dr_20 55 rfl rfl
theorem dL_law_1337 : decode cL_law 1337 = .ok (.iconst 2, 1) := dec_5 (gB dr_20 57 rfl rfl)
theorem dL_law_1338 : decode cL_law 1338 = .ok (.iadd, 1) := dec_96 (gB dr_20 58 rfl rfl)
theorem dL_law_1339 : decode cL_law 1339 = .ok (.iaload, 1) := dec_46 (gB dr_20 59 rfl rfl)
theorem dL_law_1340 : decode cL_law 1340 = .ok (.aload_n 0, 1) := dec_42 (gB dr_20 60 rfl rfl)
theorem dL_law_1341 : decode cL_law 1341 = .ok (.iload 4, 2) := e_21 (x := 4) dr_20 61 rfl rfl
theorem dL_law_1343 : decode cL_law 1343 = .ok (.iconst 3, 1) := dec_6 (gB dr_20 63 rfl rfl)
theorem dL_law_1344 : decode cL_law 1344 = .ok (.iadd, 1) := dec_96 (gB dr_21 0 rfl rfl)
theorem dL_law_1345 : decode cL_law 1345 = .ok (.iaload, 1) := dec_46 (gB dr_21 1 rfl rfl)
theorem dL_law_1346 : decode cL_law 1346 = .ok (.invokevirtual 227, 3) := e_182 (x := 0) (y := 227) dr_21 2 rfl rfl
theorem dL_law_1349 : decode cL_law 1349 = .ok (.istore 6, 2) := e_54 (x := 6) dr_21 5 rfl rfl
theorem dL_law_1351 : decode cL_law 1351 = .ok (.aload_n 2, 1) := dec_44 (gB dr_21 7 rfl rfl)
theorem dL_law_1352 : decode cL_law 1352 = .ok (.invokevirtual 178, 3) := e_182 (x := 0) (y := 178) dr_21 8 rfl rfl
theorem dL_law_1355 : decode cL_law 1355 = .ok (.iload 5, 2) := e_21 (x := 5) dr_21 11 rfl rfl
theorem dL_law_1357 : decode cL_law 1357 = .ok (.if_icmp .eq 5, 3) := e_159 (x := 0) (y := 5) dr_21 13 rfl rfl
theorem dL_law_1360 : decode cL_law 1360 = .ok (.iconst 0, 1) := dec_3 (gB dr_21 16 rfl rfl)
theorem dL_law_1362 : decode cL_law 1362 = .ok (.iload 5, 2) := e_21 (x := 5) dr_21 18 rfl rfl
theorem dL_law_1364 : decode cL_law 1364 = .ok (.ifCond .ne 16, 3) := e_154 (x := 0) (y := 16) dr_21 20 rfl rfl
theorem dL_law_1367 : decode cL_law 1367 = .ok (.aload_n 3, 1) := dec_45 (gB dr_21 23 rfl rfl)
theorem dL_law_1368 : decode cL_law 1368 = .ok (.getfield 13, 3) := e_180 (x := 0) (y := 13) dr_21 24 rfl rfl
theorem dL_law_1371 : decode cL_law 1371 = .ok (.iload 6, 2) := e_21 (x := 6) dr_21 27 rfl rfl
theorem dL_law_1373 : decode cL_law 1373 = .ok (.i2l, 1) := dec_133 (gB dr_21 29 rfl rfl)
theorem dL_law_1374 : decode cL_law 1374 = .ok (.lcmp, 1) := dec_148 (gB dr_21 30 rfl rfl)
theorem dL_law_1375 : decode cL_law 1375 = .ok (.ifCond .eq 5, 3) := e_153 (x := 0) (y := 5) dr_21 31 rfl rfl
theorem dL_law_1378 : decode cL_law 1378 = .ok (.iconst 0, 1) := dec_3 (gB dr_21 34 rfl rfl)
theorem dL_law_1380 : decode cL_law 1380 = .ok (.goto 2092, 3) := e_167 (x := 8) (y := 44) dr_21 36 rfl rfl
theorem dL_law_1383 : decode cL_law 1383 = .ok (.aload_n 1, 1) := dec_43 (gB dr_21 39 rfl rfl)
theorem dL_law_1384 : decode cL_law 1384 = .ok (.aload_n 0, 1) := dec_42 (gB dr_21 40 rfl rfl)
theorem dL_law_1385 : decode cL_law 1385 = .ok (.iload 4, 2) := e_21 (x := 4) dr_21 41 rfl rfl
theorem dL_law_1387 : decode cL_law 1387 = .ok (.iconst 1, 1) := dec_4 (gB dr_21 43 rfl rfl)
theorem dL_law_1388 : decode cL_law 1388 = .ok (.iadd, 1) := dec_96 (gB dr_21 44 rfl rfl)
theorem dL_law_1389 : decode cL_law 1389 = .ok (.iaload, 1) := dec_46 (gB dr_21 45 rfl rfl)
theorem dL_law_1390 : decode cL_law 1390 = .ok (.aload_n 0, 1) := dec_42 (gB dr_21 46 rfl rfl)
theorem dL_law_1391 : decode cL_law 1391 = .ok (.iload 4, 2) := e_21 (x := 4) dr_21 47 rfl rfl
theorem dL_law_1393 : decode cL_law 1393 = .ok (.iconst 2, 1) := dec_5 (gB dr_21 49 rfl rfl)
theorem dL_law_1394 : decode cL_law 1394 = .ok (.iadd, 1) := dec_96 (gB dr_21 50 rfl rfl)
theorem dL_law_1395 : decode cL_law 1395 = .ok (.iaload, 1) := dec_46 (gB dr_21 51 rfl rfl)
theorem dL_law_1396 : decode cL_law 1396 = .ok (.aload_n 0, 1) := dec_42 (gB dr_21 52 rfl rfl)
theorem dL_law_1397 : decode cL_law 1397 = .ok (.iload 4, 2) := e_21 (x := 4) dr_21 53 rfl rfl
theorem dL_law_1399 : decode cL_law 1399 = .ok (.iconst 3, 1) := dec_6 (gB dr_21 55 rfl rfl)
theorem dL_law_1400 : decode cL_law 1400 = .ok (.iadd, 1) := dec_96 (gB dr_21 56 rfl rfl)
theorem dL_law_1401 : decode cL_law 1401 = .ok (.iaload, 1) := dec_46 (gB dr_21 57 rfl rfl)
theorem dL_law_1402 : decode cL_law 1402 = .ok (.aload_n 3, 1) := dec_45 (gB dr_21 58 rfl rfl)
theorem dL_law_1403 : decode cL_law 1403 = .ok (.invokestatic 228, 3) := e_184 (x := 0) (y := 228) dr_21 59 rfl rfl
theorem dL_law_1406 : decode cL_law 1406 = .ok (.istore 5, 2) := e_54 (x := 5) dr_21 62 rfl rfl
theorem dL_law_1408 : decode cL_law 1408 = .ok (.aload_n 2, 1) := dec_44 (gB dr_22 0 rfl rfl)
theorem dL_law_1409 : decode cL_law 1409 = .ok (.aload_n 0, 1) := dec_42 (gB dr_22 1 rfl rfl)
theorem dL_law_1410 : decode cL_law 1410 = .ok (.iload 4, 2) := e_21 (x := 4) dr_22 2 rfl rfl
theorem dL_law_1412 : decode cL_law 1412 = .ok (.iconst 1, 1) := dec_4 (gB dr_22 4 rfl rfl)
theorem dL_law_1413 : decode cL_law 1413 = .ok (.iadd, 1) := dec_96 (gB dr_22 5 rfl rfl)
theorem dL_law_1414 : decode cL_law 1414 = .ok (.iaload, 1) := dec_46 (gB dr_22 6 rfl rfl)
theorem dL_law_1415 : decode cL_law 1415 = .ok (.aload_n 0, 1) := dec_42 (gB dr_22 7 rfl rfl)
theorem dL_law_1416 : decode cL_law 1416 = .ok (.iload 4, 2) := e_21 (x := 4) dr_22 8 rfl rfl
theorem dL_law_1418 : decode cL_law 1418 = .ok (.iconst 2, 1) := dec_5 (gB dr_22 10 rfl rfl)
theorem dL_law_1419 : decode cL_law 1419 = .ok (.iadd, 1) := dec_96 (gB dr_22 11 rfl rfl)
theorem dL_law_1420 : decode cL_law 1420 = .ok (.iaload, 1) := dec_46 (gB dr_22 12 rfl rfl)
theorem dL_law_1421 : decode cL_law 1421 = .ok (.aload_n 0, 1) := dec_42 (gB dr_22 13 rfl rfl)
theorem dL_law_1422 : decode cL_law 1422 = .ok (.iload 4, 2) := e_21 (x := 4) dr_22 14 rfl rfl
theorem dL_law_1424 : decode cL_law 1424 = .ok (.iconst 3, 1) := dec_6 (gB dr_22 16 rfl rfl)
theorem dL_law_1425 : decode cL_law 1425 = .ok (.iadd, 1) := dec_96 (gB dr_22 17 rfl rfl)
theorem dL_law_1426 : decode cL_law 1426 = .ok (.iaload, 1) := dec_46 (gB dr_22 18 rfl rfl)
theorem dL_law_1427 : decode cL_law 1427 = .ok (.invokevirtual 230, 3) := e_182 (x := 0) (y := 230) dr_22 19 rfl rfl
theorem dL_law_1430 : decode cL_law 1430 = .ok (.istore 6, 2) := e_54 (x := 6) dr_22 22 rfl rfl
theorem dL_law_1432 : decode cL_law 1432 = .ok (.aload_n 2, 1) := dec_44 (gB dr_22 24 rfl rfl)
theorem dL_law_1433 : decode cL_law 1433 = .ok (.invokevirtual 178, 3) := e_182 (x := 0) (y := 178) dr_22 25 rfl rfl
theorem dL_law_1436 : decode cL_law 1436 = .ok (.iload 5, 2) := e_21 (x := 5) dr_22 28 rfl rfl
theorem dL_law_1438 : decode cL_law 1438 = .ok (.if_icmp .eq 5, 3) := e_159 (x := 0) (y := 5) dr_22 30 rfl rfl
theorem dL_law_1441 : decode cL_law 1441 = .ok (.iconst 0, 1) := dec_3 (gB dr_22 33 rfl rfl)
theorem dL_law_1443 : decode cL_law 1443 = .ok (.iload 5, 2) := e_21 (x := 5) dr_22 35 rfl rfl
theorem dL_law_1445 : decode cL_law 1445 = .ok (.ifCond .ne 16, 3) := e_154 (x := 0) (y := 16) dr_22 37 rfl rfl
theorem dL_law_1448 : decode cL_law 1448 = .ok (.aload_n 3, 1) := dec_45 (gB dr_22 40 rfl rfl)
theorem dL_law_1449 : decode cL_law 1449 = .ok (.getfield 13, 3) := e_180 (x := 0) (y := 13) dr_22 41 rfl rfl
theorem dL_law_1452 : decode cL_law 1452 = .ok (.iload 6, 2) := e_21 (x := 6) dr_22 44 rfl rfl
theorem dL_law_1454 : decode cL_law 1454 = .ok (.i2l, 1) := dec_133 (gB dr_22 46 rfl rfl)
theorem dL_law_1455 : decode cL_law 1455 = .ok (.lcmp, 1) := dec_148 (gB dr_22 47 rfl rfl)
theorem dL_law_1456 : decode cL_law 1456 = .ok (.ifCond .eq 5, 3) := e_153 (x := 0) (y := 5) dr_22 48 rfl rfl
theorem dL_law_1459 : decode cL_law 1459 = .ok (.iconst 0, 1) := dec_3 (gB dr_22 51 rfl rfl)
theorem dL_law_1461 : decode cL_law 1461 = .ok (.goto 2011, 3) := e_167 (x := 7) (y := 219) dr_22 53 rfl rfl
theorem dL_law_1464 : decode cL_law 1464 = .ok (.aload_n 1, 1) := dec_43 (gB dr_22 56 rfl rfl)
theorem dL_law_1465 : decode cL_law 1465 = .ok (.aload_n 0, 1) := dec_42 (gB dr_22 57 rfl rfl)
theorem dL_law_1466 : decode cL_law 1466 = .ok (.iload 4, 2) := e_21 (x := 4) dr_22 58 rfl rfl
theorem dL_law_1468 : decode cL_law 1468 = .ok (.iconst 1, 1) := dec_4 (gB dr_22 60 rfl rfl)
theorem dL_law_1469 : decode cL_law 1469 = .ok (.iadd, 1) := dec_96 (gB dr_22 61 rfl rfl)
theorem dL_law_1470 : decode cL_law 1470 = .ok (.iaload, 1) := dec_46 (gB dr_22 62 rfl rfl)
theorem dL_law_1471 : decode cL_law 1471 = .ok (.aload_n 0, 1) := dec_42 (gB dr_22 63 rfl rfl)
theorem dL_law_1472 : decode cL_law 1472 = .ok (.iload 4, 2) := e_21 (x := 4) dr_23 0 rfl rfl
theorem dL_law_1474 : decode cL_law 1474 = .ok (.iconst 2, 1) := dec_5 (gB dr_23 2 rfl rfl)
theorem dL_law_1475 : decode cL_law 1475 = .ok (.iadd, 1) := dec_96 (gB dr_23 3 rfl rfl)
theorem dL_law_1476 : decode cL_law 1476 = .ok (.iaload, 1) := dec_46 (gB dr_23 4 rfl rfl)
theorem dL_law_1477 : decode cL_law 1477 = .ok (.aload_n 0, 1) := dec_42 (gB dr_23 5 rfl rfl)
theorem dL_law_1478 : decode cL_law 1478 = .ok (.iload 4, 2) := e_21 (x := 4) dr_23 6 rfl rfl
theorem dL_law_1480 : decode cL_law 1480 = .ok (.iconst 3, 1) := dec_6 (gB dr_23 8 rfl rfl)
theorem dL_law_1481 : decode cL_law 1481 = .ok (.iadd, 1) := dec_96 (gB dr_23 9 rfl rfl)
theorem dL_law_1482 : decode cL_law 1482 = .ok (.iaload, 1) := dec_46 (gB dr_23 10 rfl rfl)
theorem dL_law_1483 : decode cL_law 1483 = .ok (.aload_n 3, 1) := dec_45 (gB dr_23 11 rfl rfl)
theorem dL_law_1484 : decode cL_law 1484 = .ok (.invokestatic 231, 3) := e_184 (x := 0) (y := 231) dr_23 12 rfl rfl
theorem dL_law_1487 : decode cL_law 1487 = .ok (.istore 5, 2) := e_54 (x := 5) dr_23 15 rfl rfl
theorem dL_law_1489 : decode cL_law 1489 = .ok (.aload_n 2, 1) := dec_44 (gB dr_23 17 rfl rfl)
theorem dL_law_1490 : decode cL_law 1490 = .ok (.aload_n 0, 1) := dec_42 (gB dr_23 18 rfl rfl)
theorem dL_law_1491 : decode cL_law 1491 = .ok (.iload 4, 2) := e_21 (x := 4) dr_23 19 rfl rfl
theorem dL_law_1493 : decode cL_law 1493 = .ok (.iconst 1, 1) := dec_4 (gB dr_23 21 rfl rfl)
theorem dL_law_1494 : decode cL_law 1494 = .ok (.iadd, 1) := dec_96 (gB dr_23 22 rfl rfl)
theorem dL_law_1495 : decode cL_law 1495 = .ok (.iaload, 1) := dec_46 (gB dr_23 23 rfl rfl)
theorem dL_law_1496 : decode cL_law 1496 = .ok (.aload_n 0, 1) := dec_42 (gB dr_23 24 rfl rfl)
theorem dL_law_1497 : decode cL_law 1497 = .ok (.iload 4, 2) := e_21 (x := 4) dr_23 25 rfl rfl
theorem dL_law_1499 : decode cL_law 1499 = .ok (.iconst 2, 1) := dec_5 (gB dr_23 27 rfl rfl)
theorem dL_law_1500 : decode cL_law 1500 = .ok (.iadd, 1) := dec_96 (gB dr_23 28 rfl rfl)
theorem dL_law_1501 : decode cL_law 1501 = .ok (.iaload, 1) := dec_46 (gB dr_23 29 rfl rfl)
theorem dL_law_1502 : decode cL_law 1502 = .ok (.aload_n 0, 1) := dec_42 (gB dr_23 30 rfl rfl)
theorem dL_law_1503 : decode cL_law 1503 = .ok (.iload 4, 2) := e_21 (x := 4) dr_23 31 rfl rfl
theorem dL_law_1505 : decode cL_law 1505 = .ok (.iconst 3, 1) := dec_6 (gB dr_23 33 rfl rfl)
theorem dL_law_1506 : decode cL_law 1506 = .ok (.iadd, 1) := dec_96 (gB dr_23 34 rfl rfl)
theorem dL_law_1507 : decode cL_law 1507 = .ok (.iaload, 1) := dec_46 (gB dr_23 35 rfl rfl)
theorem dL_law_1508 : decode cL_law 1508 = .ok (.invokevirtual 233, 3) := e_182 (x := 0) (y := 233) dr_23 36 rfl rfl
theorem dL_law_1511 : decode cL_law 1511 = .ok (.istore 6, 2) := e_54 (x := 6) dr_23 39 rfl rfl
theorem dL_law_1513 : decode cL_law 1513 = .ok (.aload_n 2, 1) := dec_44 (gB dr_23 41 rfl rfl)
theorem dL_law_1514 : decode cL_law 1514 = .ok (.invokevirtual 178, 3) := e_182 (x := 0) (y := 178) dr_23 42 rfl rfl
theorem dL_law_1517 : decode cL_law 1517 = .ok (.iload 5, 2) := e_21 (x := 5) dr_23 45 rfl rfl
theorem dL_law_1519 : decode cL_law 1519 = .ok (.if_icmp .eq 5, 3) := e_159 (x := 0) (y := 5) dr_23 47 rfl rfl
theorem dL_law_1522 : decode cL_law 1522 = .ok (.iconst 0, 1) := dec_3 (gB dr_23 50 rfl rfl)
theorem dL_law_1524 : decode cL_law 1524 = .ok (.iload 5, 2) := e_21 (x := 5) dr_23 52 rfl rfl
theorem dL_law_1526 : decode cL_law 1526 = .ok (.ifCond .ne 16, 3) := e_154 (x := 0) (y := 16) dr_23 54 rfl rfl
theorem dL_law_1529 : decode cL_law 1529 = .ok (.aload_n 3, 1) := dec_45 (gB dr_23 57 rfl rfl)
theorem dL_law_1530 : decode cL_law 1530 = .ok (.getfield 13, 3) := e_180 (x := 0) (y := 13) dr_23 58 rfl rfl
theorem dL_law_1533 : decode cL_law 1533 = .ok (.iload 6, 2) := e_21 (x := 6) dr_23 61 rfl rfl
theorem dL_law_1535 : decode cL_law 1535 = .ok (.i2l, 1) := dec_133 (gB dr_23 63 rfl rfl)
theorem dL_law_1536 : decode cL_law 1536 = .ok (.lcmp, 1) := dec_148 (gB dr_24 0 rfl rfl)
theorem dL_law_1537 : decode cL_law 1537 = .ok (.ifCond .eq 5, 3) := e_153 (x := 0) (y := 5) dr_24 1 rfl rfl
theorem dL_law_1540 : decode cL_law 1540 = .ok (.iconst 0, 1) := dec_3 (gB dr_24 4 rfl rfl)
theorem dL_law_1542 : decode cL_law 1542 = .ok (.goto 1930, 3) := e_167 (x := 7) (y := 138) dr_24 6 rfl rfl
theorem dL_law_1545 : decode cL_law 1545 = .ok (.aload_n 1, 1) := dec_43 (gB dr_24 9 rfl rfl)
theorem dL_law_1546 : decode cL_law 1546 = .ok (.aload_n 0, 1) := dec_42 (gB dr_24 10 rfl rfl)
theorem dL_law_1547 : decode cL_law 1547 = .ok (.iload 4, 2) := e_21 (x := 4) dr_24 11 rfl rfl
theorem dL_law_1549 : decode cL_law 1549 = .ok (.iconst 1, 1) := dec_4 (gB dr_24 13 rfl rfl)
theorem dL_law_1550 : decode cL_law 1550 = .ok (.iadd, 1) := dec_96 (gB dr_24 14 rfl rfl)
theorem dL_law_1551 : decode cL_law 1551 = .ok (.iaload, 1) := dec_46 (gB dr_24 15 rfl rfl)
theorem dL_law_1552 : decode cL_law 1552 = .ok (.aload_n 0, 1) := dec_42 (gB dr_24 16 rfl rfl)
theorem dL_law_1553 : decode cL_law 1553 = .ok (.iload 4, 2) := e_21 (x := 4) dr_24 17 rfl rfl
theorem dL_law_1555 : decode cL_law 1555 = .ok (.iconst 2, 1) := dec_5 (gB dr_24 19 rfl rfl)
theorem dL_law_1556 : decode cL_law 1556 = .ok (.iadd, 1) := dec_96 (gB dr_24 20 rfl rfl)
theorem dL_law_1557 : decode cL_law 1557 = .ok (.iaload, 1) := dec_46 (gB dr_24 21 rfl rfl)
theorem dL_law_1558 : decode cL_law 1558 = .ok (.aload_n 0, 1) := dec_42 (gB dr_24 22 rfl rfl)
theorem dL_law_1559 : decode cL_law 1559 = .ok (.iload 4, 2) := e_21 (x := 4) dr_24 23 rfl rfl
theorem dL_law_1561 : decode cL_law 1561 = .ok (.iconst 3, 1) := dec_6 (gB dr_24 25 rfl rfl)
theorem dL_law_1562 : decode cL_law 1562 = .ok (.iadd, 1) := dec_96 (gB dr_24 26 rfl rfl)
theorem dL_law_1563 : decode cL_law 1563 = .ok (.iaload, 1) := dec_46 (gB dr_24 27 rfl rfl)
theorem dL_law_1564 : decode cL_law 1564 = .ok (.aload_n 0, 1) := dec_42 (gB dr_24 28 rfl rfl)
theorem dL_law_1565 : decode cL_law 1565 = .ok (.iload 4, 2) := e_21 (x := 4) dr_24 29 rfl rfl
theorem dL_law_1567 : decode cL_law 1567 = .ok (.iconst 4, 1) := dec_7 (gB dr_24 31 rfl rfl)
theorem dL_law_1568 : decode cL_law 1568 = .ok (.iadd, 1) := dec_96 (gB dr_24 32 rfl rfl)
theorem dL_law_1569 : decode cL_law 1569 = .ok (.iaload, 1) := dec_46 (gB dr_24 33 rfl rfl)
theorem dL_law_1570 : decode cL_law 1570 = .ok (.aload_n 3, 1) := dec_45 (gB dr_24 34 rfl rfl)
theorem dL_law_1571 : decode cL_law 1571 = .ok (.invokestatic 234, 3) := e_184 (x := 0) (y := 234) dr_24 35 rfl rfl
theorem dL_law_1574 : decode cL_law 1574 = .ok (.istore 5, 2) := e_54 (x := 5) dr_24 38 rfl rfl
theorem dL_law_1576 : decode cL_law 1576 = .ok (.aload_n 2, 1) := dec_44 (gB dr_24 40 rfl rfl)
theorem dL_law_1577 : decode cL_law 1577 = .ok (.aload_n 0, 1) := dec_42 (gB dr_24 41 rfl rfl)
theorem dL_law_1578 : decode cL_law 1578 = .ok (.iload 4, 2) := e_21 (x := 4) dr_24 42 rfl rfl
theorem dL_law_1580 : decode cL_law 1580 = .ok (.iconst 1, 1) := dec_4 (gB dr_24 44 rfl rfl)
theorem dL_law_1581 : decode cL_law 1581 = .ok (.iadd, 1) := dec_96 (gB dr_24 45 rfl rfl)
theorem dL_law_1582 : decode cL_law 1582 = .ok (.iaload, 1) := dec_46 (gB dr_24 46 rfl rfl)
theorem dL_law_1583 : decode cL_law 1583 = .ok (.aload_n 0, 1) := dec_42 (gB dr_24 47 rfl rfl)
theorem dL_law_1584 : decode cL_law 1584 = .ok (.iload 4, 2) := e_21 (x := 4) dr_24 48 rfl rfl
theorem dL_law_1586 : decode cL_law 1586 = .ok (.iconst 2, 1) := dec_5 (gB dr_24 50 rfl rfl)
theorem dL_law_1587 : decode cL_law 1587 = .ok (.iadd, 1) := dec_96 (gB dr_24 51 rfl rfl)
theorem dL_law_1588 : decode cL_law 1588 = .ok (.iaload, 1) := dec_46 (gB dr_24 52 rfl rfl)
theorem dL_law_1589 : decode cL_law 1589 = .ok (.aload_n 0, 1) := dec_42 (gB dr_24 53 rfl rfl)
theorem dL_law_1590 : decode cL_law 1590 = .ok (.iload 4, 2) := e_21 (x := 4) dr_24 54 rfl rfl
theorem dL_law_1592 : decode cL_law 1592 = .ok (.iconst 3, 1) := dec_6 (gB dr_24 56 rfl rfl)
theorem dL_law_1593 : decode cL_law 1593 = .ok (.iadd, 1) := dec_96 (gB dr_24 57 rfl rfl)
theorem dL_law_1594 : decode cL_law 1594 = .ok (.iaload, 1) := dec_46 (gB dr_24 58 rfl rfl)
theorem dL_law_1595 : decode cL_law 1595 = .ok (.aload_n 0, 1) := dec_42 (gB dr_24 59 rfl rfl)
theorem dL_law_1596 : decode cL_law 1596 = .ok (.iload 4, 2) := e_21 (x := 4) dr_24 60 rfl rfl
theorem dL_law_1598 : decode cL_law 1598 = .ok (.iconst 4, 1) := dec_7 (gB dr_24 62 rfl rfl)
theorem dL_law_1599 : decode cL_law 1599 = .ok (.iadd, 1) := dec_96 (gB dr_24 63 rfl rfl)
theorem dL_law_1600 : decode cL_law 1600 = .ok (.iaload, 1) := dec_46 (gB dr_25 0 rfl rfl)
theorem dL_law_1601 : decode cL_law 1601 = .ok (.invokevirtual 236, 3) := e_182 (x := 0) (y := 236) dr_25 1 rfl rfl
theorem dL_law_1604 : decode cL_law 1604 = .ok (.istore 6, 2) := e_54 (x := 6) dr_25 4 rfl rfl
theorem dL_law_1606 : decode cL_law 1606 = .ok (.aload_n 2, 1) := dec_44 (gB dr_25 6 rfl rfl)
theorem dL_law_1607 : decode cL_law 1607 = .ok (.invokevirtual 178, 3) := e_182 (x := 0) (y := 178) dr_25 7 rfl rfl
theorem dL_law_1610 : decode cL_law 1610 = .ok (.iload 5, 2) := e_21 (x := 5) dr_25 10 rfl rfl
theorem dL_law_1612 : decode cL_law 1612 = .ok (.if_icmp .eq 5, 3) := e_159 (x := 0) (y := 5) dr_25 12 rfl rfl
theorem dL_law_1615 : decode cL_law 1615 = .ok (.iconst 0, 1) := dec_3 (gB dr_25 15 rfl rfl)
theorem dL_law_1617 : decode cL_law 1617 = .ok (.iload 5, 2) := e_21 (x := 5) dr_25 17 rfl rfl
theorem dL_law_1619 : decode cL_law 1619 = .ok (.ifCond .ne 16, 3) := e_154 (x := 0) (y := 16) dr_25 19 rfl rfl
theorem dL_law_1622 : decode cL_law 1622 = .ok (.aload_n 3, 1) := dec_45 (gB dr_25 22 rfl rfl)
theorem dL_law_1623 : decode cL_law 1623 = .ok (.getfield 13, 3) := e_180 (x := 0) (y := 13) dr_25 23 rfl rfl
theorem dL_law_1626 : decode cL_law 1626 = .ok (.iload 6, 2) := e_21 (x := 6) dr_25 26 rfl rfl
theorem dL_law_1628 : decode cL_law 1628 = .ok (.i2l, 1) := dec_133 (gB dr_25 28 rfl rfl)
theorem dL_law_1629 : decode cL_law 1629 = .ok (.lcmp, 1) := dec_148 (gB dr_25 29 rfl rfl)
theorem dL_law_1630 : decode cL_law 1630 = .ok (.ifCond .eq 5, 3) := e_153 (x := 0) (y := 5) dr_25 30 rfl rfl
theorem dL_law_1633 : decode cL_law 1633 = .ok (.iconst 0, 1) := dec_3 (gB dr_25 33 rfl rfl)
theorem dL_law_1635 : decode cL_law 1635 = .ok (.goto 1837, 3) := e_167 (x := 7) (y := 45) dr_25 35 rfl rfl
theorem dL_law_1638 : decode cL_law 1638 = .ok (.aload_n 1, 1) := dec_43 (gB dr_25 38 rfl rfl)
theorem dL_law_1639 : decode cL_law 1639 = .ok (.aload_n 0, 1) := dec_42 (gB dr_25 39 rfl rfl)
theorem dL_law_1640 : decode cL_law 1640 = .ok (.iload 4, 2) := e_21 (x := 4) dr_25 40 rfl rfl
theorem dL_law_1642 : decode cL_law 1642 = .ok (.iconst 1, 1) := dec_4 (gB dr_25 42 rfl rfl)
theorem dL_law_1643 : decode cL_law 1643 = .ok (.iadd, 1) := dec_96 (gB dr_25 43 rfl rfl)
theorem dL_law_1644 : decode cL_law 1644 = .ok (.iaload, 1) := dec_46 (gB dr_25 44 rfl rfl)
theorem dL_law_1645 : decode cL_law 1645 = .ok (.aload_n 0, 1) := dec_42 (gB dr_25 45 rfl rfl)
theorem dL_law_1646 : decode cL_law 1646 = .ok (.iload 4, 2) := e_21 (x := 4) dr_25 46 rfl rfl
theorem dL_law_1648 : decode cL_law 1648 = .ok (.iconst 2, 1) := dec_5 (gB dr_25 48 rfl rfl)
theorem dL_law_1649 : decode cL_law 1649 = .ok (.iadd, 1) := dec_96 (gB dr_25 49 rfl rfl)
theorem dL_law_1650 : decode cL_law 1650 = .ok (.iaload, 1) := dec_46 (gB dr_25 50 rfl rfl)
theorem dL_law_1651 : decode cL_law 1651 = .ok (.aload_n 3, 1) := dec_45 (gB dr_25 51 rfl rfl)
theorem dL_law_1652 : decode cL_law 1652 = .ok (.invokestatic 237, 3) := e_184 (x := 0) (y := 237) dr_25 52 rfl rfl
theorem dL_law_1655 : decode cL_law 1655 = .ok (.istore 5, 2) := e_54 (x := 5) dr_25 55 rfl rfl
theorem dL_law_1657 : decode cL_law 1657 = .ok (.aload_n 2, 1) := dec_44 (gB dr_25 57 rfl rfl)
theorem dL_law_1658 : decode cL_law 1658 = .ok (.aload_n 0, 1) := dec_42 (gB dr_25 58 rfl rfl)
theorem dL_law_1659 : decode cL_law 1659 = .ok (.iload 4, 2) := e_21 (x := 4) dr_25 59 rfl rfl
theorem dL_law_1661 : decode cL_law 1661 = .ok (.iconst 1, 1) := dec_4 (gB dr_25 61 rfl rfl)
theorem dL_law_1662 : decode cL_law 1662 = .ok (.iadd, 1) := dec_96 (gB dr_25 62 rfl rfl)
theorem dL_law_1663 : decode cL_law 1663 = .ok (.iaload, 1) := dec_46 (gB dr_25 63 rfl rfl)
theorem dL_law_1664 : decode cL_law 1664 = .ok (.aload_n 0, 1) := dec_42 (gB dr_26 0 rfl rfl)
theorem dL_law_1665 : decode cL_law 1665 = .ok (.iload 4, 2) := e_21 (x := 4) dr_26 1 rfl rfl
theorem dL_law_1667 : decode cL_law 1667 = .ok (.iconst 2, 1) := dec_5 (gB dr_26 3 rfl rfl)
theorem dL_law_1668 : decode cL_law 1668 = .ok (.iadd, 1) := dec_96 (gB dr_26 4 rfl rfl)
theorem dL_law_1669 : decode cL_law 1669 = .ok (.iaload, 1) := dec_46 (gB dr_26 5 rfl rfl)
theorem dL_law_1670 : decode cL_law 1670 = .ok (.invokevirtual 239, 3) := e_182 (x := 0) (y := 239) dr_26 6 rfl rfl
theorem dL_law_1673 : decode cL_law 1673 = .ok (.istore 6, 2) := e_54 (x := 6) dr_26 9 rfl rfl
theorem dL_law_1675 : decode cL_law 1675 = .ok (.aload_n 2, 1) := dec_44 (gB dr_26 11 rfl rfl)
theorem dL_law_1676 : decode cL_law 1676 = .ok (.invokevirtual 178, 3) := e_182 (x := 0) (y := 178) dr_26 12 rfl rfl
theorem dL_law_1679 : decode cL_law 1679 = .ok (.iload 5, 2) := e_21 (x := 5) dr_26 15 rfl rfl
theorem dL_law_1681 : decode cL_law 1681 = .ok (.if_icmp .eq 5, 3) := e_159 (x := 0) (y := 5) dr_26 17 rfl rfl
theorem dL_law_1684 : decode cL_law 1684 = .ok (.iconst 0, 1) := dec_3 (gB dr_26 20 rfl rfl)
theorem dL_law_1686 : decode cL_law 1686 = .ok (.iload 5, 2) := e_21 (x := 5) dr_26 22 rfl rfl
theorem dL_law_1688 : decode cL_law 1688 = .ok (.ifCond .ne 16, 3) := e_154 (x := 0) (y := 16) dr_26 24 rfl rfl
theorem dL_law_1691 : decode cL_law 1691 = .ok (.aload_n 3, 1) := dec_45 (gB dr_26 27 rfl rfl)
theorem dL_law_1692 : decode cL_law 1692 = .ok (.getfield 13, 3) := e_180 (x := 0) (y := 13) dr_26 28 rfl rfl
theorem dL_law_1695 : decode cL_law 1695 = .ok (.iload 6, 2) := e_21 (x := 6) dr_26 31 rfl rfl
theorem dL_law_1697 : decode cL_law 1697 = .ok (.i2l, 1) := dec_133 (gB dr_26 33 rfl rfl)
theorem dL_law_1698 : decode cL_law 1698 = .ok (.lcmp, 1) := dec_148 (gB dr_26 34 rfl rfl)
theorem dL_law_1699 : decode cL_law 1699 = .ok (.ifCond .eq 5, 3) := e_153 (x := 0) (y := 5) dr_26 35 rfl rfl
theorem dL_law_1702 : decode cL_law 1702 = .ok (.iconst 0, 1) := dec_3 (gB dr_26 38 rfl rfl)
theorem dL_law_1704 : decode cL_law 1704 = .ok (.goto 1768, 3) := e_167 (x := 6) (y := 232) dr_26 40 rfl rfl
theorem dL_law_1707 : decode cL_law 1707 = .ok (.aload_n 1, 1) := dec_43 (gB dr_26 43 rfl rfl)
theorem dL_law_1708 : decode cL_law 1708 = .ok (.aload_n 0, 1) := dec_42 (gB dr_26 44 rfl rfl)
theorem dL_law_1709 : decode cL_law 1709 = .ok (.iload 4, 2) := e_21 (x := 4) dr_26 45 rfl rfl
theorem dL_law_1711 : decode cL_law 1711 = .ok (.iconst 1, 1) := dec_4 (gB dr_26 47 rfl rfl)
theorem dL_law_1712 : decode cL_law 1712 = .ok (.iadd, 1) := dec_96 (gB dr_26 48 rfl rfl)
theorem dL_law_1713 : decode cL_law 1713 = .ok (.iaload, 1) := dec_46 (gB dr_26 49 rfl rfl)
theorem dL_law_1714 : decode cL_law 1714 = .ok (.aload_n 3, 1) := dec_45 (gB dr_26 50 rfl rfl)
theorem dL_law_1715 : decode cL_law 1715 = .ok (.invokestatic 240, 3) := e_184 (x := 0) (y := 240) dr_26 51 rfl rfl
theorem dL_law_1718 : decode cL_law 1718 = .ok (.istore 5, 2) := e_54 (x := 5) dr_26 54 rfl rfl
theorem dL_law_1720 : decode cL_law 1720 = .ok (.aload_n 2, 1) := dec_44 (gB dr_26 56 rfl rfl)
theorem dL_law_1721 : decode cL_law 1721 = .ok (.aload_n 0, 1) := dec_42 (gB dr_26 57 rfl rfl)
theorem dL_law_1722 : decode cL_law 1722 = .ok (.iload 4, 2) := e_21 (x := 4) dr_26 58 rfl rfl
theorem dL_law_1724 : decode cL_law 1724 = .ok (.iconst 1, 1) := dec_4 (gB dr_26 60 rfl rfl)
theorem dL_law_1725 : decode cL_law 1725 = .ok (.iadd, 1) := dec_96 (gB dr_26 61 rfl rfl)
theorem dL_law_1726 : decode cL_law 1726 = .ok (.iaload, 1) := dec_46 (gB dr_26 62 rfl rfl)
theorem dL_law_1727 : decode cL_law 1727 = .ok (.invokevirtual 242, 3) := dec_182 (a := 0) (b := 242) (gB dr_26 63 rfl rfl) (gB dr_27 0 rfl rfl) (gB dr_27 1 rfl rfl)
theorem dL_law_1730 : decode cL_law 1730 = .ok (.istore 6, 2) := e_54 (x := 6) dr_27 2 rfl rfl
theorem dL_law_1732 : decode cL_law 1732 = .ok (.aload_n 2, 1) := dec_44 (gB dr_27 4 rfl rfl)
theorem dL_law_1733 : decode cL_law 1733 = .ok (.invokevirtual 178, 3) := e_182 (x := 0) (y := 178) dr_27 5 rfl rfl
theorem dL_law_1736 : decode cL_law 1736 = .ok (.iload 5, 2) := e_21 (x := 5) dr_27 8 rfl rfl
theorem dL_law_1738 : decode cL_law 1738 = .ok (.if_icmp .eq 5, 3) := e_159 (x := 0) (y := 5) dr_27 10 rfl rfl
theorem dL_law_1741 : decode cL_law 1741 = .ok (.iconst 0, 1) := dec_3 (gB dr_27 13 rfl rfl)
theorem dL_law_1743 : decode cL_law 1743 = .ok (.iload 5, 2) := e_21 (x := 5) dr_27 15 rfl rfl
theorem dL_law_1745 : decode cL_law 1745 = .ok (.ifCond .ne 16, 3) := e_154 (x := 0) (y := 16) dr_27 17 rfl rfl
theorem dL_law_1748 : decode cL_law 1748 = .ok (.aload_n 3, 1) := dec_45 (gB dr_27 20 rfl rfl)
theorem dL_law_1749 : decode cL_law 1749 = .ok (.getfield 13, 3) := e_180 (x := 0) (y := 13) dr_27 21 rfl rfl
theorem dL_law_1752 : decode cL_law 1752 = .ok (.iload 6, 2) := e_21 (x := 6) dr_27 24 rfl rfl
theorem dL_law_1754 : decode cL_law 1754 = .ok (.i2l, 1) := dec_133 (gB dr_27 26 rfl rfl)
theorem dL_law_1755 : decode cL_law 1755 = .ok (.lcmp, 1) := dec_148 (gB dr_27 27 rfl rfl)
theorem dL_law_1756 : decode cL_law 1756 = .ok (.ifCond .eq 5, 3) := e_153 (x := 0) (y := 5) dr_27 28 rfl rfl
theorem dL_law_1759 : decode cL_law 1759 = .ok (.iconst 0, 1) := dec_3 (gB dr_27 31 rfl rfl)
theorem dL_law_1761 : decode cL_law 1761 = .ok (.goto 1711, 3) := e_167 (x := 6) (y := 175) dr_27 33 rfl rfl
theorem dL_law_1764 : decode cL_law 1764 = .ok (.aload_n 1, 1) := dec_43 (gB dr_27 36 rfl rfl)
theorem dL_law_1765 : decode cL_law 1765 = .ok (.aload_n 0, 1) := dec_42 (gB dr_27 37 rfl rfl)
theorem dL_law_1766 : decode cL_law 1766 = .ok (.iload 4, 2) := e_21 (x := 4) dr_27 38 rfl rfl
theorem dL_law_1768 : decode cL_law 1768 = .ok (.iconst 1, 1) := dec_4 (gB dr_27 40 rfl rfl)
theorem dL_law_1769 : decode cL_law 1769 = .ok (.iadd, 1) := dec_96 (gB dr_27 41 rfl rfl)
theorem dL_law_1770 : decode cL_law 1770 = .ok (.iaload, 1) := dec_46 (gB dr_27 42 rfl rfl)
theorem dL_law_1771 : decode cL_law 1771 = .ok (.aload_n 3, 1) := dec_45 (gB dr_27 43 rfl rfl)
theorem dL_law_1772 : decode cL_law 1772 = .ok (.invokestatic 243, 3) := e_184 (x := 0) (y := 243) dr_27 44 rfl rfl
theorem dL_law_1775 : decode cL_law 1775 = .ok (.istore 5, 2) := e_54 (x := 5) dr_27 47 rfl rfl
theorem dL_law_1777 : decode cL_law 1777 = .ok (.aload_n 2, 1) := dec_44 (gB dr_27 49 rfl rfl)
theorem dL_law_1778 : decode cL_law 1778 = .ok (.aload_n 0, 1) := dec_42 (gB dr_27 50 rfl rfl)
theorem dL_law_1779 : decode cL_law 1779 = .ok (.iload 4, 2) := e_21 (x := 4) dr_27 51 rfl rfl
theorem dL_law_1781 : decode cL_law 1781 = .ok (.iconst 1, 1) := dec_4 (gB dr_27 53 rfl rfl)
theorem dL_law_1782 : decode cL_law 1782 = .ok (.iadd, 1) := dec_96 (gB dr_27 54 rfl rfl)
theorem dL_law_1783 : decode cL_law 1783 = .ok (.iaload, 1) := dec_46 (gB dr_27 55 rfl rfl)
theorem dL_law_1784 : decode cL_law 1784 = .ok (.invokevirtual 245, 3) := e_182 (x := 0) (y := 245) dr_27 56 rfl rfl
theorem dL_law_1787 : decode cL_law 1787 = .ok (.istore 6, 2) := e_54 (x := 6) dr_27 59 rfl rfl
theorem dL_law_1789 : decode cL_law 1789 = .ok (.aload_n 2, 1) := dec_44 (gB dr_27 61 rfl rfl)
theorem dL_law_1790 : decode cL_law 1790 = .ok (.invokevirtual 178, 3) := dec_182 (a := 0) (b := 178) (gB dr_27 62 rfl rfl) (gB dr_27 63 rfl rfl) (gB dr_28 0 rfl rfl)
theorem dL_law_1793 : decode cL_law 1793 = .ok (.iload 5, 2) := e_21 (x := 5) dr_28 1 rfl rfl
theorem dL_law_1795 : decode cL_law 1795 = .ok (.if_icmp .eq 5, 3) := e_159 (x := 0) (y := 5) dr_28 3 rfl rfl
theorem dL_law_1798 : decode cL_law 1798 = .ok (.iconst 0, 1) := dec_3 (gB dr_28 6 rfl rfl)
theorem dL_law_1800 : decode cL_law 1800 = .ok (.iload 5, 2) := e_21 (x := 5) dr_28 8 rfl rfl
theorem dL_law_1802 : decode cL_law 1802 = .ok (.ifCond .ne 16, 3) := e_154 (x := 0) (y := 16) dr_28 10 rfl rfl
theorem dL_law_1805 : decode cL_law 1805 = .ok (.aload_n 3, 1) := dec_45 (gB dr_28 13 rfl rfl)
theorem dL_law_1806 : decode cL_law 1806 = .ok (.getfield 13, 3) := e_180 (x := 0) (y := 13) dr_28 14 rfl rfl
theorem dL_law_1809 : decode cL_law 1809 = .ok (.iload 6, 2) := e_21 (x := 6) dr_28 17 rfl rfl
theorem dL_law_1811 : decode cL_law 1811 = .ok (.i2l, 1) := dec_133 (gB dr_28 19 rfl rfl)
theorem dL_law_1812 : decode cL_law 1812 = .ok (.lcmp, 1) := dec_148 (gB dr_28 20 rfl rfl)
theorem dL_law_1813 : decode cL_law 1813 = .ok (.ifCond .eq 5, 3) := e_153 (x := 0) (y := 5) dr_28 21 rfl rfl
theorem dL_law_1816 : decode cL_law 1816 = .ok (.iconst 0, 1) := dec_3 (gB dr_28 24 rfl rfl)
theorem dL_law_1818 : decode cL_law 1818 = .ok (.goto 1654, 3) := e_167 (x := 6) (y := 118) dr_28 26 rfl rfl
theorem dL_law_1821 : decode cL_law 1821 = .ok (.aload_n 1, 1) := dec_43 (gB dr_28 29 rfl rfl)
theorem dL_law_1822 : decode cL_law 1822 = .ok (.aload_n 0, 1) := dec_42 (gB dr_28 30 rfl rfl)
theorem dL_law_1823 : decode cL_law 1823 = .ok (.iload 4, 2) := e_21 (x := 4) dr_28 31 rfl rfl
theorem dL_law_1825 : decode cL_law 1825 = .ok (.iconst 1, 1) := dec_4 (gB dr_28 33 rfl rfl)
theorem dL_law_1826 : decode cL_law 1826 = .ok (.iadd, 1) := dec_96 (gB dr_28 34 rfl rfl)
theorem dL_law_1827 : decode cL_law 1827 = .ok (.iaload, 1) := dec_46 (gB dr_28 35 rfl rfl)
theorem dL_law_1828 : decode cL_law 1828 = .ok (.aload_n 3, 1) := dec_45 (gB dr_28 36 rfl rfl)
theorem dL_law_1829 : decode cL_law 1829 = .ok (.invokestatic 246, 3) := e_184 (x := 0) (y := 246) dr_28 37 rfl rfl
theorem dL_law_1832 : decode cL_law 1832 = .ok (.istore 5, 2) := e_54 (x := 5) dr_28 40 rfl rfl
theorem dL_law_1834 : decode cL_law 1834 = .ok (.aload_n 2, 1) := dec_44 (gB dr_28 42 rfl rfl)
theorem dL_law_1835 : decode cL_law 1835 = .ok (.aload_n 0, 1) := dec_42 (gB dr_28 43 rfl rfl)
theorem dL_law_1836 : decode cL_law 1836 = .ok (.iload 4, 2) := e_21 (x := 4) dr_28 44 rfl rfl
theorem dL_law_1838 : decode cL_law 1838 = .ok (.iconst 1, 1) := dec_4 (gB dr_28 46 rfl rfl)
theorem dL_law_1839 : decode cL_law 1839 = .ok (.iadd, 1) := dec_96 (gB dr_28 47 rfl rfl)
theorem dL_law_1840 : decode cL_law 1840 = .ok (.iaload, 1) := dec_46 (gB dr_28 48 rfl rfl)
theorem dL_law_1841 : decode cL_law 1841 = .ok (.invokevirtual 248, 3) := e_182 (x := 0) (y := 248) dr_28 49 rfl rfl
theorem dL_law_1844 : decode cL_law 1844 = .ok (.istore 6, 2) := e_54 (x := 6) dr_28 52 rfl rfl
theorem dL_law_1846 : decode cL_law 1846 = .ok (.aload_n 2, 1) := dec_44 (gB dr_28 54 rfl rfl)
theorem dL_law_1847 : decode cL_law 1847 = .ok (.invokevirtual 178, 3) := e_182 (x := 0) (y := 178) dr_28 55 rfl rfl
theorem dL_law_1850 : decode cL_law 1850 = .ok (.iload 5, 2) := e_21 (x := 5) dr_28 58 rfl rfl
theorem dL_law_1852 : decode cL_law 1852 = .ok (.if_icmp .eq 5, 3) := e_159 (x := 0) (y := 5) dr_28 60 rfl rfl
theorem dL_law_1855 : decode cL_law 1855 = .ok (.iconst 0, 1) := dec_3 (gB dr_28 63 rfl rfl)
theorem dL_law_1857 : decode cL_law 1857 = .ok (.iload 5, 2) := e_21 (x := 5) dr_29 1 rfl rfl
theorem dL_law_1859 : decode cL_law 1859 = .ok (.ifCond .ne 16, 3) := e_154 (x := 0) (y := 16) dr_29 3 rfl rfl
theorem dL_law_1862 : decode cL_law 1862 = .ok (.aload_n 3, 1) := dec_45 (gB dr_29 6 rfl rfl)
theorem dL_law_1863 : decode cL_law 1863 = .ok (.getfield 13, 3) := e_180 (x := 0) (y := 13) dr_29 7 rfl rfl
theorem dL_law_1866 : decode cL_law 1866 = .ok (.iload 6, 2) := e_21 (x := 6) dr_29 10 rfl rfl
theorem dL_law_1868 : decode cL_law 1868 = .ok (.i2l, 1) := dec_133 (gB dr_29 12 rfl rfl)
theorem dL_law_1869 : decode cL_law 1869 = .ok (.lcmp, 1) := dec_148 (gB dr_29 13 rfl rfl)
theorem dL_law_1870 : decode cL_law 1870 = .ok (.ifCond .eq 5, 3) := e_153 (x := 0) (y := 5) dr_29 14 rfl rfl
theorem dL_law_1873 : decode cL_law 1873 = .ok (.iconst 0, 1) := dec_3 (gB dr_29 17 rfl rfl)
theorem dL_law_1875 : decode cL_law 1875 = .ok (.goto 1597, 3) := e_167 (x := 6) (y := 61) dr_29 19 rfl rfl
theorem dL_law_1878 : decode cL_law 1878 = .ok (.aload_n 1, 1) := dec_43 (gB dr_29 22 rfl rfl)
theorem dL_law_1879 : decode cL_law 1879 = .ok (.aload_n 0, 1) := dec_42 (gB dr_29 23 rfl rfl)
theorem dL_law_1880 : decode cL_law 1880 = .ok (.iload 4, 2) := e_21 (x := 4) dr_29 24 rfl rfl
theorem dL_law_1882 : decode cL_law 1882 = .ok (.iconst 1, 1) := dec_4 (gB dr_29 26 rfl rfl)
theorem dL_law_1883 : decode cL_law 1883 = .ok (.iadd, 1) := dec_96 (gB dr_29 27 rfl rfl)
theorem dL_law_1884 : decode cL_law 1884 = .ok (.iaload, 1) := dec_46 (gB dr_29 28 rfl rfl)
theorem dL_law_1885 : decode cL_law 1885 = .ok (.aload_n 0, 1) := dec_42 (gB dr_29 29 rfl rfl)
theorem dL_law_1886 : decode cL_law 1886 = .ok (.iload 4, 2) := e_21 (x := 4) dr_29 30 rfl rfl
theorem dL_law_1888 : decode cL_law 1888 = .ok (.iconst 2, 1) := dec_5 (gB dr_29 32 rfl rfl)
theorem dL_law_1889 : decode cL_law 1889 = .ok (.iadd, 1) := dec_96 (gB dr_29 33 rfl rfl)
theorem dL_law_1890 : decode cL_law 1890 = .ok (.iaload, 1) := dec_46 (gB dr_29 34 rfl rfl)
theorem dL_law_1891 : decode cL_law 1891 = .ok (.aload_n 3, 1) := dec_45 (gB dr_29 35 rfl rfl)
theorem dL_law_1892 : decode cL_law 1892 = .ok (.invokestatic 249, 3) := e_184 (x := 0) (y := 249) dr_29 36 rfl rfl
theorem dL_law_1895 : decode cL_law 1895 = .ok (.istore 5, 2) := e_54 (x := 5) dr_29 39 rfl rfl
theorem dL_law_1897 : decode cL_law 1897 = .ok (.aload_n 2, 1) := dec_44 (gB dr_29 41 rfl rfl)
theorem dL_law_1898 : decode cL_law 1898 = .ok (.aload_n 0, 1) := dec_42 (gB dr_29 42 rfl rfl)
theorem dL_law_1899 : decode cL_law 1899 = .ok (.iload 4, 2) := e_21 (x := 4) dr_29 43 rfl rfl
theorem dL_law_1901 : decode cL_law 1901 = .ok (.iconst 1, 1) := dec_4 (gB dr_29 45 rfl rfl)
theorem dL_law_1902 : decode cL_law 1902 = .ok (.iadd, 1) := dec_96 (gB dr_29 46 rfl rfl)
theorem dL_law_1903 : decode cL_law 1903 = .ok (.iaload, 1) := dec_46 (gB dr_29 47 rfl rfl)
theorem dL_law_1904 : decode cL_law 1904 = .ok (.aload_n 0, 1) := dec_42 (gB dr_29 48 rfl rfl)
theorem dL_law_1905 : decode cL_law 1905 = .ok (.iload 4, 2) := e_21 (x := 4) dr_29 49 rfl rfl
theorem dL_law_1907 : decode cL_law 1907 = .ok (.iconst 2, 1) := dec_5 (gB dr_29 51 rfl rfl)
theorem dL_law_1908 : decode cL_law 1908 = .ok (.iadd, 1) := dec_96 (gB dr_29 52 rfl rfl)
theorem dL_law_1909 : decode cL_law 1909 = .ok (.iaload, 1) := dec_46 (gB dr_29 53 rfl rfl)
theorem dL_law_1910 : decode cL_law 1910 = .ok (.invokevirtual 251, 3) := e_182 (x := 0) (y := 251) dr_29 54 rfl rfl
theorem dL_law_1913 : decode cL_law 1913 = .ok (.istore 6, 2) := e_54 (x := 6) dr_29 57 rfl rfl
theorem dL_law_1915 : decode cL_law 1915 = .ok (.aload_n 2, 1) := dec_44 (gB dr_29 59 rfl rfl)
theorem dL_law_1916 : decode cL_law 1916 = .ok (.invokevirtual 178, 3) := e_182 (x := 0) (y := 178) dr_29 60 rfl rfl
theorem dL_law_1919 : decode cL_law 1919 = .ok (.iload 5, 2) := dec_21 (a := 5) (gB dr_29 63 rfl rfl) (gB dr_30 0 rfl rfl)
theorem dL_law_1921 : decode cL_law 1921 = .ok (.if_icmp .eq 5, 3) := e_159 (x := 0) (y := 5) dr_30 1 rfl rfl
theorem dL_law_1924 : decode cL_law 1924 = .ok (.iconst 0, 1) := dec_3 (gB dr_30 4 rfl rfl)
theorem dL_law_1926 : decode cL_law 1926 = .ok (.iload 5, 2) := e_21 (x := 5) dr_30 6 rfl rfl
theorem dL_law_1928 : decode cL_law 1928 = .ok (.ifCond .ne 23, 3) := e_154 (x := 0) (y := 23) dr_30 8 rfl rfl
theorem dL_law_1931 : decode cL_law 1931 = .ok (.aload_n 3, 1) := dec_45 (gB dr_30 11 rfl rfl)
theorem dL_law_1932 : decode cL_law 1932 = .ok (.getfield 13, 3) := e_180 (x := 0) (y := 13) dr_30 12 rfl rfl
theorem dL_law_1935 : decode cL_law 1935 = .ok (.iload 6, 2) := e_21 (x := 6) dr_30 15 rfl rfl
theorem dL_law_1937 : decode cL_law 1937 = .ok (.ifCond .eq 7, 3) := e_153 (x := 0) (y := 7) dr_30 17 rfl rfl
theorem dL_law_1940 : decode cL_law 1940 = .ok (.lconst 1, 1) := dec_10 (gB dr_30 20 rfl rfl)
theorem dL_law_1941 : decode cL_law 1941 = .ok (.goto 4, 3) := e_167 (x := 0) (y := 4) dr_30 21 rfl rfl
theorem dL_law_1944 : decode cL_law 1944 = .ok (.lconst 0, 1) := dec_9 (gB dr_30 24 rfl rfl)
theorem dL_law_1945 : decode cL_law 1945 = .ok (.lcmp, 1) := dec_148 (gB dr_30 25 rfl rfl)
theorem dL_law_1946 : decode cL_law 1946 = .ok (.ifCond .eq 5, 3) := e_153 (x := 0) (y := 5) dr_30 26 rfl rfl
theorem dL_law_1949 : decode cL_law 1949 = .ok (.iconst 0, 1) := dec_3 (gB dr_30 29 rfl rfl)
theorem dL_law_1951 : decode cL_law 1951 = .ok (.goto 1521, 3) := e_167 (x := 5) (y := 241) dr_30 31 rfl rfl
theorem dL_law_1954 : decode cL_law 1954 = .ok (.aload_n 1, 1) := dec_43 (gB dr_30 34 rfl rfl)
theorem dL_law_1955 : decode cL_law 1955 = .ok (.aload_n 0, 1) := dec_42 (gB dr_30 35 rfl rfl)
theorem dL_law_1956 : decode cL_law 1956 = .ok (.iload 4, 2) := e_21 (x := 4) dr_30 36 rfl rfl
theorem dL_law_1958 : decode cL_law 1958 = .ok (.iconst 1, 1) := dec_4 (gB dr_30 38 rfl rfl)
theorem dL_law_1959 : decode cL_law 1959 = .ok (.iadd, 1) := dec_96 (gB dr_30 39 rfl rfl)
theorem dL_law_1960 : decode cL_law 1960 = .ok (.iaload, 1) := dec_46 (gB dr_30 40 rfl rfl)
theorem dL_law_1961 : decode cL_law 1961 = .ok (.aload_n 3, 1) := dec_45 (gB dr_30 41 rfl rfl)
theorem dL_law_1962 : decode cL_law 1962 = .ok (.invokestatic 252, 3) := e_184 (x := 0) (y := 252) dr_30 42 rfl rfl
theorem dL_law_1965 : decode cL_law 1965 = .ok (.istore 5, 2) := e_54 (x := 5) dr_30 45 rfl rfl
theorem dL_law_1967 : decode cL_law 1967 = .ok (.aload_n 2, 1) := dec_44 (gB dr_30 47 rfl rfl)
theorem dL_law_1968 : decode cL_law 1968 = .ok (.aload_n 0, 1) := dec_42 (gB dr_30 48 rfl rfl)
theorem dL_law_1969 : decode cL_law 1969 = .ok (.iload 4, 2) := e_21 (x := 4) dr_30 49 rfl rfl
theorem dL_law_1971 : decode cL_law 1971 = .ok (.iconst 1, 1) := dec_4 (gB dr_30 51 rfl rfl)
theorem dL_law_1972 : decode cL_law 1972 = .ok (.iadd, 1) := dec_96 (gB dr_30 52 rfl rfl)
theorem dL_law_1973 : decode cL_law 1973 = .ok (.iaload, 1) := dec_46 (gB dr_30 53 rfl rfl)
theorem dL_law_1974 : decode cL_law 1974 = .ok (.invokevirtual 254, 3) := e_182 (x := 0) (y := 254) dr_30 54 rfl rfl
theorem dL_law_1977 : decode cL_law 1977 = .ok (.astore 6, 2) := e_58 (x := 6) dr_30 57 rfl rfl
theorem dL_law_1979 : decode cL_law 1979 = .ok (.aload_n 2, 1) := dec_44 (gB dr_30 59 rfl rfl)
theorem dL_law_1980 : decode cL_law 1980 = .ok (.invokevirtual 178, 3) := e_182 (x := 0) (y := 178) dr_30 60 rfl rfl
theorem dL_law_1983 : decode cL_law 1983 = .ok (.iload 5, 2) := dec_21 (a := 5) (gB dr_30 63 rfl rfl) (gB dr_31 0 rfl rfl)
theorem dL_law_1985 : decode cL_law 1985 = .ok (.if_icmp .eq 5, 3) := e_159 (x := 0) (y := 5) dr_31 1 rfl rfl
theorem dL_law_1988 : decode cL_law 1988 = .ok (.iconst 0, 1) := dec_3 (gB dr_31 4 rfl rfl)
theorem dL_law_1990 : decode cL_law 1990 = .ok (.iload 5, 2) := e_21 (x := 5) dr_31 6 rfl rfl
theorem dL_law_1992 : decode cL_law 1992 = .ok (.ifCond .ne 17, 3) := e_154 (x := 0) (y := 17) dr_31 8 rfl rfl
theorem dL_law_1995 : decode cL_law 1995 = .ok (.aload_n 3, 1) := dec_45 (gB dr_31 11 rfl rfl)
theorem dL_law_1996 : decode cL_law 1996 = .ok (.getfield 100, 3) := e_180 (x := 0) (y := 100) dr_31 12 rfl rfl
theorem dL_law_1999 : decode cL_law 1999 = .ok (.aload 6, 2) := e_25 (x := 6) dr_31 15 rfl rfl
theorem dL_law_2001 : decode cL_law 2001 = .ok (.invokevirtual 255, 3) := e_182 (x := 0) (y := 255) dr_31 17 rfl rfl
theorem dL_law_2004 : decode cL_law 2004 = .ok (.ifCond .ne 5, 3) := e_154 (x := 0) (y := 5) dr_31 20 rfl rfl
theorem dL_law_2007 : decode cL_law 2007 = .ok (.iconst 0, 1) := dec_3 (gB dr_31 23 rfl rfl)
theorem dL_law_2009 : decode cL_law 2009 = .ok (.goto 1463, 3) := e_167 (x := 5) (y := 183) dr_31 25 rfl rfl
theorem dL_law_2012 : decode cL_law 2012 = .ok (.aload_n 1, 1) := dec_43 (gB dr_31 28 rfl rfl)
theorem dL_law_2013 : decode cL_law 2013 = .ok (.aload_n 0, 1) := dec_42 (gB dr_31 29 rfl rfl)
theorem dL_law_2014 : decode cL_law 2014 = .ok (.iload 4, 2) := e_21 (x := 4) dr_31 30 rfl rfl
theorem dL_law_2016 : decode cL_law 2016 = .ok (.iconst 1, 1) := dec_4 (gB dr_31 32 rfl rfl)
theorem dL_law_2017 : decode cL_law 2017 = .ok (.iadd, 1) := dec_96 (gB dr_31 33 rfl rfl)
theorem dL_law_2018 : decode cL_law 2018 = .ok (.iaload, 1) := dec_46 (gB dr_31 34 rfl rfl)
theorem dL_law_2019 : decode cL_law 2019 = .ok (.aload_n 0, 1) := dec_42 (gB dr_31 35 rfl rfl)
theorem dL_law_2020 : decode cL_law 2020 = .ok (.iload 4, 2) := e_21 (x := 4) dr_31 36 rfl rfl
theorem dL_law_2022 : decode cL_law 2022 = .ok (.iconst 2, 1) := dec_5 (gB dr_31 38 rfl rfl)
theorem dL_law_2023 : decode cL_law 2023 = .ok (.iadd, 1) := dec_96 (gB dr_31 39 rfl rfl)
theorem dL_law_2024 : decode cL_law 2024 = .ok (.iaload, 1) := dec_46 (gB dr_31 40 rfl rfl)
theorem dL_law_2025 : decode cL_law 2025 = .ok (.ifCond .eq 7, 3) := e_153 (x := 0) (y := 7) dr_31 41 rfl rfl
theorem dL_law_2028 : decode cL_law 2028 = .ok (.iconst 1, 1) := dec_4 (gB dr_31 44 rfl rfl)
theorem dL_law_2029 : decode cL_law 2029 = .ok (.goto 4, 3) := e_167 (x := 0) (y := 4) dr_31 45 rfl rfl
theorem dL_law_2032 : decode cL_law 2032 = .ok (.iconst 0, 1) := dec_3 (gB dr_31 48 rfl rfl)
theorem dL_law_2033 : decode cL_law 2033 = .ok (.aload_n 3, 1) := dec_45 (gB dr_31 49 rfl rfl)
theorem dL_law_2034 : decode cL_law 2034 = .ok (.invokestatic 261, 3) := e_184 (x := 1) (y := 5) dr_31 50 rfl rfl
theorem dL_law_2037 : decode cL_law 2037 = .ok (.istore 5, 2) := e_54 (x := 5) dr_31 53 rfl rfl
theorem dL_law_2039 : decode cL_law 2039 = .ok (.aload_n 2, 1) := dec_44 (gB dr_31 55 rfl rfl)
theorem dL_law_2040 : decode cL_law 2040 = .ok (.aload_n 0, 1) := dec_42 (gB dr_31 56 rfl rfl)
theorem dL_law_2041 : decode cL_law 2041 = .ok (.iload 4, 2) := e_21 (x := 4) dr_31 57 rfl rfl
theorem dL_law_2043 : decode cL_law 2043 = .ok (.iconst 1, 1) := dec_4 (gB dr_31 59 rfl rfl)
theorem dL_law_2044 : decode cL_law 2044 = .ok (.iadd, 1) := dec_96 (gB dr_31 60 rfl rfl)
theorem dL_law_2045 : decode cL_law 2045 = .ok (.iaload, 1) := dec_46 (gB dr_31 61 rfl rfl)
theorem dL_law_2046 : decode cL_law 2046 = .ok (.aload_n 0, 1) := dec_42 (gB dr_31 62 rfl rfl)
theorem dL_law_2047 : decode cL_law 2047 = .ok (.iload 4, 2) := dec_21 (a := 4) (gB dr_31 63 rfl rfl) (gB dr_32 0 rfl rfl)
theorem dL_law_2049 : decode cL_law 2049 = .ok (.iconst 2, 1) := dec_5 (gB dr_32 1 rfl rfl)
theorem dL_law_2050 : decode cL_law 2050 = .ok (.iadd, 1) := dec_96 (gB dr_32 2 rfl rfl)
theorem dL_law_2051 : decode cL_law 2051 = .ok (.iaload, 1) := dec_46 (gB dr_32 3 rfl rfl)
theorem dL_law_2052 : decode cL_law 2052 = .ok (.ifCond .eq 7, 3) := e_153 (x := 0) (y := 7) dr_32 4 rfl rfl
theorem dL_law_2055 : decode cL_law 2055 = .ok (.iconst 1, 1) := dec_4 (gB dr_32 7 rfl rfl)
theorem dL_law_2056 : decode cL_law 2056 = .ok (.goto 4, 3) := e_167 (x := 0) (y := 4) dr_32 8 rfl rfl
theorem dL_law_2059 : decode cL_law 2059 = .ok (.iconst 0, 1) := dec_3 (gB dr_32 11 rfl rfl)
theorem dL_law_2060 : decode cL_law 2060 = .ok (.invokevirtual 264, 3) := e_182 (x := 1) (y := 8) dr_32 12 rfl rfl
theorem dL_law_2063 : decode cL_law 2063 = .ok (.istore 6, 2) := e_54 (x := 6) dr_32 15 rfl rfl
theorem dL_law_2065 : decode cL_law 2065 = .ok (.aload_n 2, 1) := dec_44 (gB dr_32 17 rfl rfl)
theorem dL_law_2066 : decode cL_law 2066 = .ok (.invokevirtual 178, 3) := e_182 (x := 0) (y := 178) dr_32 18 rfl rfl
theorem dL_law_2069 : decode cL_law 2069 = .ok (.iload 5, 2) := e_21 (x := 5) dr_32 21 rfl rfl
theorem dL_law_2071 : decode cL_law 2071 = .ok (.if_icmp .eq 5, 3) := e_159 (x := 0) (y := 5) dr_32 23 rfl rfl
theorem dL_law_2074 : decode cL_law 2074 = .ok (.iconst 0, 1) := dec_3 (gB dr_32 26 rfl rfl)
theorem dL_law_2076 : decode cL_law 2076 = .ok (.iload 5, 2) := e_21 (x := 5) dr_32 28 rfl rfl
theorem dL_law_2078 : decode cL_law 2078 = .ok (.ifCond .ne 16, 3) := e_154 (x := 0) (y := 16) dr_32 30 rfl rfl
theorem dL_law_2081 : decode cL_law 2081 = .ok (.aload_n 3, 1) := dec_45 (gB dr_32 33 rfl rfl)
theorem dL_law_2082 : decode cL_law 2082 = .ok (.getfield 13, 3) := e_180 (x := 0) (y := 13) dr_32 34 rfl rfl
theorem dL_law_2085 : decode cL_law 2085 = .ok (.iload 6, 2) := e_21 (x := 6) dr_32 37 rfl rfl
theorem dL_law_2087 : decode cL_law 2087 = .ok (.i2l, 1) := dec_133 (gB dr_32 39 rfl rfl)
theorem dL_law_2088 : decode cL_law 2088 = .ok (.lcmp, 1) := dec_148 (gB dr_32 40 rfl rfl)
theorem dL_law_2089 : decode cL_law 2089 = .ok (.ifCond .eq 5, 3) := e_153 (x := 0) (y := 5) dr_32 41 rfl rfl
theorem dL_law_2092 : decode cL_law 2092 = .ok (.iconst 0, 1) := dec_3 (gB dr_32 44 rfl rfl)
theorem dL_law_2094 : decode cL_law 2094 = .ok (.goto 1378, 3) := e_167 (x := 5) (y := 98) dr_32 46 rfl rfl
theorem dL_law_2097 : decode cL_law 2097 = .ok (.aload_n 1, 1) := dec_43 (gB dr_32 49 rfl rfl)
theorem dL_law_2098 : decode cL_law 2098 = .ok (.aload_n 0, 1) := dec_42 (gB dr_32 50 rfl rfl)
theorem dL_law_2099 : decode cL_law 2099 = .ok (.iload 4, 2) := e_21 (x := 4) dr_32 51 rfl rfl
theorem dL_law_2101 : decode cL_law 2101 = .ok (.iconst 1, 1) := dec_4 (gB dr_32 53 rfl rfl)
theorem dL_law_2102 : decode cL_law 2102 = .ok (.iadd, 1) := dec_96 (gB dr_32 54 rfl rfl)
theorem dL_law_2103 : decode cL_law 2103 = .ok (.iaload, 1) := dec_46 (gB dr_32 55 rfl rfl)
theorem dL_law_2104 : decode cL_law 2104 = .ok (.aload_n 0, 1) := dec_42 (gB dr_32 56 rfl rfl)
theorem dL_law_2105 : decode cL_law 2105 = .ok (.iload 4, 2) := e_21 (x := 4) dr_32 57 rfl rfl
theorem dL_law_2107 : decode cL_law 2107 = .ok (.iconst 2, 1) := dec_5 (gB dr_32 59 rfl rfl)
theorem dL_law_2108 : decode cL_law 2108 = .ok (.iadd, 1) := dec_96 (gB dr_32 60 rfl rfl)
theorem dL_law_2109 : decode cL_law 2109 = .ok (.iaload, 1) := dec_46 (gB dr_32 61 rfl rfl)
theorem dL_law_2110 : decode cL_law 2110 = .ok (.aload_n 0, 1) := dec_42 (gB dr_32 62 rfl rfl)
theorem dL_law_2111 : decode cL_law 2111 = .ok (.iload 4, 2) := dec_21 (a := 4) (gB dr_32 63 rfl rfl) (gB dr_33 0 rfl rfl)
theorem dL_law_2113 : decode cL_law 2113 = .ok (.iconst 3, 1) := dec_6 (gB dr_33 1 rfl rfl)
theorem dL_law_2114 : decode cL_law 2114 = .ok (.iadd, 1) := dec_96 (gB dr_33 2 rfl rfl)
theorem dL_law_2115 : decode cL_law 2115 = .ok (.iaload, 1) := dec_46 (gB dr_33 3 rfl rfl)
theorem dL_law_2116 : decode cL_law 2116 = .ok (.aload_n 3, 1) := dec_45 (gB dr_33 4 rfl rfl)
theorem dL_law_2117 : decode cL_law 2117 = .ok (.invokestatic 265, 3) := e_184 (x := 1) (y := 9) dr_33 5 rfl rfl
theorem dL_law_2120 : decode cL_law 2120 = .ok (.istore 5, 2) := e_54 (x := 5) dr_33 8 rfl rfl
theorem dL_law_2122 : decode cL_law 2122 = .ok (.aload_n 2, 1) := dec_44 (gB dr_33 10 rfl rfl)
theorem dL_law_2123 : decode cL_law 2123 = .ok (.aload_n 0, 1) := dec_42 (gB dr_33 11 rfl rfl)
theorem dL_law_2124 : decode cL_law 2124 = .ok (.iload 4, 2) := e_21 (x := 4) dr_33 12 rfl rfl
theorem dL_law_2126 : decode cL_law 2126 = .ok (.iconst 1, 1) := dec_4 (gB dr_33 14 rfl rfl)
theorem dL_law_2127 : decode cL_law 2127 = .ok (.iadd, 1) := dec_96 (gB dr_33 15 rfl rfl)
theorem dL_law_2128 : decode cL_law 2128 = .ok (.iaload, 1) := dec_46 (gB dr_33 16 rfl rfl)
theorem dL_law_2129 : decode cL_law 2129 = .ok (.aload_n 0, 1) := dec_42 (gB dr_33 17 rfl rfl)
theorem dL_law_2130 : decode cL_law 2130 = .ok (.iload 4, 2) := e_21 (x := 4) dr_33 18 rfl rfl
theorem dL_law_2132 : decode cL_law 2132 = .ok (.iconst 2, 1) := dec_5 (gB dr_33 20 rfl rfl)
theorem dL_law_2133 : decode cL_law 2133 = .ok (.iadd, 1) := dec_96 (gB dr_33 21 rfl rfl)
theorem dL_law_2134 : decode cL_law 2134 = .ok (.iaload, 1) := dec_46 (gB dr_33 22 rfl rfl)
theorem dL_law_2135 : decode cL_law 2135 = .ok (.aload_n 0, 1) := dec_42 (gB dr_33 23 rfl rfl)
theorem dL_law_2136 : decode cL_law 2136 = .ok (.iload 4, 2) := e_21 (x := 4) dr_33 24 rfl rfl
theorem dL_law_2138 : decode cL_law 2138 = .ok (.iconst 3, 1) := dec_6 (gB dr_33 26 rfl rfl)
theorem dL_law_2139 : decode cL_law 2139 = .ok (.iadd, 1) := dec_96 (gB dr_33 27 rfl rfl)
theorem dL_law_2140 : decode cL_law 2140 = .ok (.iaload, 1) := dec_46 (gB dr_33 28 rfl rfl)
theorem dL_law_2141 : decode cL_law 2141 = .ok (.invokevirtual 267, 3) := e_182 (x := 1) (y := 11) dr_33 29 rfl rfl
theorem dL_law_2144 : decode cL_law 2144 = .ok (.istore 6, 2) := e_54 (x := 6) dr_33 32 rfl rfl
theorem dL_law_2146 : decode cL_law 2146 = .ok (.aload_n 2, 1) := dec_44 (gB dr_33 34 rfl rfl)
theorem dL_law_2147 : decode cL_law 2147 = .ok (.invokevirtual 178, 3) := e_182 (x := 0) (y := 178) dr_33 35 rfl rfl
theorem dL_law_2150 : decode cL_law 2150 = .ok (.iload 5, 2) := e_21 (x := 5) dr_33 38 rfl rfl
theorem dL_law_2152 : decode cL_law 2152 = .ok (.if_icmp .eq 5, 3) := e_159 (x := 0) (y := 5) dr_33 40 rfl rfl
theorem dL_law_2155 : decode cL_law 2155 = .ok (.iconst 0, 1) := dec_3 (gB dr_33 43 rfl rfl)
theorem dL_law_2157 : decode cL_law 2157 = .ok (.iload 5, 2) := e_21 (x := 5) dr_33 45 rfl rfl
theorem dL_law_2159 : decode cL_law 2159 = .ok (.ifCond .ne 16, 3) := e_154 (x := 0) (y := 16) dr_33 47 rfl rfl
theorem dL_law_2162 : decode cL_law 2162 = .ok (.aload_n 3, 1) := dec_45 (gB dr_33 50 rfl rfl)
theorem dL_law_2163 : decode cL_law 2163 = .ok (.getfield 13, 3) := e_180 (x := 0) (y := 13) dr_33 51 rfl rfl
theorem dL_law_2166 : decode cL_law 2166 = .ok (.iload 6, 2) := e_21 (x := 6) dr_33 54 rfl rfl
theorem dL_law_2168 : decode cL_law 2168 = .ok (.i2l, 1) := dec_133 (gB dr_33 56 rfl rfl)
theorem dL_law_2169 : decode cL_law 2169 = .ok (.lcmp, 1) := dec_148 (gB dr_33 57 rfl rfl)
theorem dL_law_2170 : decode cL_law 2170 = .ok (.ifCond .eq 5, 3) := e_153 (x := 0) (y := 5) dr_33 58 rfl rfl
theorem dL_law_2173 : decode cL_law 2173 = .ok (.iconst 0, 1) := dec_3 (gB dr_33 61 rfl rfl)
theorem dL_law_2175 : decode cL_law 2175 = .ok (.goto 1297, 3) := dec_167 (a := 5) (b := 17) (gB dr_33 63 rfl rfl) (gB dr_34 0 rfl rfl) (gB dr_34 1 rfl rfl)
theorem dL_law_2178 : decode cL_law 2178 = .ok (.aload_n 1, 1) := dec_43 (gB dr_34 2 rfl rfl)
theorem dL_law_2179 : decode cL_law 2179 = .ok (.aload_n 0, 1) := dec_42 (gB dr_34 3 rfl rfl)
theorem dL_law_2180 : decode cL_law 2180 = .ok (.iload 4, 2) := e_21 (x := 4) dr_34 4 rfl rfl
theorem dL_law_2182 : decode cL_law 2182 = .ok (.iconst 1, 1) := dec_4 (gB dr_34 6 rfl rfl)
theorem dL_law_2183 : decode cL_law 2183 = .ok (.iadd, 1) := dec_96 (gB dr_34 7 rfl rfl)
theorem dL_law_2184 : decode cL_law 2184 = .ok (.iaload, 1) := dec_46 (gB dr_34 8 rfl rfl)
theorem dL_law_2185 : decode cL_law 2185 = .ok (.aload_n 0, 1) := dec_42 (gB dr_34 9 rfl rfl)
theorem dL_law_2186 : decode cL_law 2186 = .ok (.iload 4, 2) := e_21 (x := 4) dr_34 10 rfl rfl
theorem dL_law_2188 : decode cL_law 2188 = .ok (.iconst 2, 1) := dec_5 (gB dr_34 12 rfl rfl)
theorem dL_law_2189 : decode cL_law 2189 = .ok (.iadd, 1) := dec_96 (gB dr_34 13 rfl rfl)
theorem dL_law_2190 : decode cL_law 2190 = .ok (.iaload, 1) := dec_46 (gB dr_34 14 rfl rfl)
theorem dL_law_2191 : decode cL_law 2191 = .ok (.aload_n 0, 1) := dec_42 (gB dr_34 15 rfl rfl)
theorem dL_law_2192 : decode cL_law 2192 = .ok (.iload 4, 2) := e_21 (x := 4) dr_34 16 rfl rfl
theorem dL_law_2194 : decode cL_law 2194 = .ok (.iconst 3, 1) := dec_6 (gB dr_34 18 rfl rfl)
theorem dL_law_2195 : decode cL_law 2195 = .ok (.iadd, 1) := dec_96 (gB dr_34 19 rfl rfl)
theorem dL_law_2196 : decode cL_law 2196 = .ok (.iaload, 1) := dec_46 (gB dr_34 20 rfl rfl)
theorem dL_law_2197 : decode cL_law 2197 = .ok (.aload_n 3, 1) := dec_45 (gB dr_34 21 rfl rfl)
theorem dL_law_2198 : decode cL_law 2198 = .ok (.invokestatic 268, 3) := e_184 (x := 1) (y := 12) dr_34 22 rfl rfl
theorem dL_law_2201 : decode cL_law 2201 = .ok (.istore 5, 2) := e_54 (x := 5) dr_34 25 rfl rfl
theorem dL_law_2203 : decode cL_law 2203 = .ok (.aload_n 2, 1) := dec_44 (gB dr_34 27 rfl rfl)
theorem dL_law_2204 : decode cL_law 2204 = .ok (.aload_n 0, 1) := dec_42 (gB dr_34 28 rfl rfl)
theorem dL_law_2205 : decode cL_law 2205 = .ok (.iload 4, 2) := e_21 (x := 4) dr_34 29 rfl rfl
theorem dL_law_2207 : decode cL_law 2207 = .ok (.iconst 1, 1) := dec_4 (gB dr_34 31 rfl rfl)
theorem dL_law_2208 : decode cL_law 2208 = .ok (.iadd, 1) := dec_96 (gB dr_34 32 rfl rfl)
theorem dL_law_2209 : decode cL_law 2209 = .ok (.iaload, 1) := dec_46 (gB dr_34 33 rfl rfl)
theorem dL_law_2210 : decode cL_law 2210 = .ok (.aload_n 0, 1) := dec_42 (gB dr_34 34 rfl rfl)
theorem dL_law_2211 : decode cL_law 2211 = .ok (.iload 4, 2) := e_21 (x := 4) dr_34 35 rfl rfl
theorem dL_law_2213 : decode cL_law 2213 = .ok (.iconst 2, 1) := dec_5 (gB dr_34 37 rfl rfl)
theorem dL_law_2214 : decode cL_law 2214 = .ok (.iadd, 1) := dec_96 (gB dr_34 38 rfl rfl)
theorem dL_law_2215 : decode cL_law 2215 = .ok (.iaload, 1) := dec_46 (gB dr_34 39 rfl rfl)
theorem dL_law_2216 : decode cL_law 2216 = .ok (.aload_n 0, 1) := dec_42 (gB dr_34 40 rfl rfl)
theorem dL_law_2217 : decode cL_law 2217 = .ok (.iload 4, 2) := e_21 (x := 4) dr_34 41 rfl rfl
theorem dL_law_2219 : decode cL_law 2219 = .ok (.iconst 3, 1) := dec_6 (gB dr_34 43 rfl rfl)
theorem dL_law_2220 : decode cL_law 2220 = .ok (.iadd, 1) := dec_96 (gB dr_34 44 rfl rfl)
theorem dL_law_2221 : decode cL_law 2221 = .ok (.iaload, 1) := dec_46 (gB dr_34 45 rfl rfl)
theorem dL_law_2222 : decode cL_law 2222 = .ok (.invokevirtual 270, 3) := e_182 (x := 1) (y := 14) dr_34 46 rfl rfl
theorem dL_law_2225 : decode cL_law 2225 = .ok (.istore 6, 2) := e_54 (x := 6) dr_34 49 rfl rfl
theorem dL_law_2227 : decode cL_law 2227 = .ok (.aload_n 2, 1) := dec_44 (gB dr_34 51 rfl rfl)
theorem dL_law_2228 : decode cL_law 2228 = .ok (.invokevirtual 178, 3) := e_182 (x := 0) (y := 178) dr_34 52 rfl rfl
theorem dL_law_2231 : decode cL_law 2231 = .ok (.iload 5, 2) := e_21 (x := 5) dr_34 55 rfl rfl
theorem dL_law_2233 : decode cL_law 2233 = .ok (.if_icmp .eq 5, 3) := e_159 (x := 0) (y := 5) dr_34 57 rfl rfl
theorem dL_law_2236 : decode cL_law 2236 = .ok (.iconst 0, 1) := dec_3 (gB dr_34 60 rfl rfl)
theorem dL_law_2238 : decode cL_law 2238 = .ok (.iload 5, 2) := e_21 (x := 5) dr_34 62 rfl rfl
theorem dL_law_2240 : decode cL_law 2240 = .ok (.ifCond .ne 16, 3) := e_154 (x := 0) (y := 16) dr_35 0 rfl rfl
theorem dL_law_2243 : decode cL_law 2243 = .ok (.aload_n 3, 1) := dec_45 (gB dr_35 3 rfl rfl)
theorem dL_law_2244 : decode cL_law 2244 = .ok (.getfield 13, 3) := e_180 (x := 0) (y := 13) dr_35 4 rfl rfl
theorem dL_law_2247 : decode cL_law 2247 = .ok (.iload 6, 2) := e_21 (x := 6) dr_35 7 rfl rfl
theorem dL_law_2249 : decode cL_law 2249 = .ok (.i2l, 1) := dec_133 (gB dr_35 9 rfl rfl)
theorem dL_law_2250 : decode cL_law 2250 = .ok (.lcmp, 1) := dec_148 (gB dr_35 10 rfl rfl)
theorem dL_law_2251 : decode cL_law 2251 = .ok (.ifCond .eq 5, 3) := e_153 (x := 0) (y := 5) dr_35 11 rfl rfl
theorem dL_law_2254 : decode cL_law 2254 = .ok (.iconst 0, 1) := dec_3 (gB dr_35 14 rfl rfl)
theorem dL_law_2256 : decode cL_law 2256 = .ok (.goto 1216, 3) := e_167 (x := 4) (y := 192) dr_35 16 rfl rfl
theorem dL_law_2259 : decode cL_law 2259 = .ok (.aload_n 1, 1) := dec_43 (gB dr_35 19 rfl rfl)
theorem dL_law_2260 : decode cL_law 2260 = .ok (.aload_n 0, 1) := dec_42 (gB dr_35 20 rfl rfl)
theorem dL_law_2261 : decode cL_law 2261 = .ok (.iload 4, 2) := e_21 (x := 4) dr_35 21 rfl rfl
theorem dL_law_2263 : decode cL_law 2263 = .ok (.iconst 1, 1) := dec_4 (gB dr_35 23 rfl rfl)
theorem dL_law_2264 : decode cL_law 2264 = .ok (.iadd, 1) := dec_96 (gB dr_35 24 rfl rfl)
theorem dL_law_2265 : decode cL_law 2265 = .ok (.iaload, 1) := dec_46 (gB dr_35 25 rfl rfl)
theorem dL_law_2266 : decode cL_law 2266 = .ok (.aload_n 0, 1) := dec_42 (gB dr_35 26 rfl rfl)
theorem dL_law_2267 : decode cL_law 2267 = .ok (.iload 4, 2) := e_21 (x := 4) dr_35 27 rfl rfl
theorem dL_law_2269 : decode cL_law 2269 = .ok (.iconst 2, 1) := dec_5 (gB dr_35 29 rfl rfl)
theorem dL_law_2270 : decode cL_law 2270 = .ok (.iadd, 1) := dec_96 (gB dr_35 30 rfl rfl)
theorem dL_law_2271 : decode cL_law 2271 = .ok (.iaload, 1) := dec_46 (gB dr_35 31 rfl rfl)
theorem dL_law_2272 : decode cL_law 2272 = .ok (.aload_n 3, 1) := dec_45 (gB dr_35 32 rfl rfl)
theorem dL_law_2273 : decode cL_law 2273 = .ok (.invokestatic 271, 3) := e_184 (x := 1) (y := 15) dr_35 33 rfl rfl
theorem dL_law_2276 : decode cL_law 2276 = .ok (.istore 5, 2) := e_54 (x := 5) dr_35 36 rfl rfl
theorem dL_law_2278 : decode cL_law 2278 = .ok (.aload_n 2, 1) := dec_44 (gB dr_35 38 rfl rfl)
theorem dL_law_2279 : decode cL_law 2279 = .ok (.aload_n 0, 1) := dec_42 (gB dr_35 39 rfl rfl)
theorem dL_law_2280 : decode cL_law 2280 = .ok (.iload 4, 2) := e_21 (x := 4) dr_35 40 rfl rfl
theorem dL_law_2282 : decode cL_law 2282 = .ok (.iconst 1, 1) := dec_4 (gB dr_35 42 rfl rfl)
theorem dL_law_2283 : decode cL_law 2283 = .ok (.iadd, 1) := dec_96 (gB dr_35 43 rfl rfl)
theorem dL_law_2284 : decode cL_law 2284 = .ok (.iaload, 1) := dec_46 (gB dr_35 44 rfl rfl)
theorem dL_law_2285 : decode cL_law 2285 = .ok (.aload_n 0, 1) := dec_42 (gB dr_35 45 rfl rfl)
theorem dL_law_2286 : decode cL_law 2286 = .ok (.iload 4, 2) := e_21 (x := 4) dr_35 46 rfl rfl
theorem dL_law_2288 : decode cL_law 2288 = .ok (.iconst 2, 1) := dec_5 (gB dr_35 48 rfl rfl)
theorem dL_law_2289 : decode cL_law 2289 = .ok (.iadd, 1) := dec_96 (gB dr_35 49 rfl rfl)
theorem dL_law_2290 : decode cL_law 2290 = .ok (.iaload, 1) := dec_46 (gB dr_35 50 rfl rfl)
theorem dL_law_2291 : decode cL_law 2291 = .ok (.invokevirtual 273, 3) := e_182 (x := 1) (y := 17) dr_35 51 rfl rfl
theorem dL_law_2294 : decode cL_law 2294 = .ok (.istore 6, 2) := e_54 (x := 6) dr_35 54 rfl rfl
theorem dL_law_2296 : decode cL_law 2296 = .ok (.aload_n 2, 1) := dec_44 (gB dr_35 56 rfl rfl)
theorem dL_law_2297 : decode cL_law 2297 = .ok (.invokevirtual 178, 3) := e_182 (x := 0) (y := 178) dr_35 57 rfl rfl
theorem dL_law_2300 : decode cL_law 2300 = .ok (.iload 5, 2) := e_21 (x := 5) dr_35 60 rfl rfl
theorem dL_law_2302 : decode cL_law 2302 = .ok (.if_icmp .eq 5, 3) := dec_159 (a := 0) (b := 5) (gB dr_35 62 rfl rfl) (gB dr_35 63 rfl rfl) (gB dr_36 0 rfl rfl)
theorem dL_law_2305 : decode cL_law 2305 = .ok (.iconst 0, 1) := dec_3 (gB dr_36 1 rfl rfl)
theorem dL_law_2307 : decode cL_law 2307 = .ok (.iload 5, 2) := e_21 (x := 5) dr_36 3 rfl rfl
theorem dL_law_2309 : decode cL_law 2309 = .ok (.ifCond .ne 16, 3) := e_154 (x := 0) (y := 16) dr_36 5 rfl rfl
theorem dL_law_2312 : decode cL_law 2312 = .ok (.aload_n 3, 1) := dec_45 (gB dr_36 8 rfl rfl)
theorem dL_law_2313 : decode cL_law 2313 = .ok (.getfield 13, 3) := e_180 (x := 0) (y := 13) dr_36 9 rfl rfl
theorem dL_law_2316 : decode cL_law 2316 = .ok (.iload 6, 2) := e_21 (x := 6) dr_36 12 rfl rfl
theorem dL_law_2318 : decode cL_law 2318 = .ok (.i2l, 1) := dec_133 (gB dr_36 14 rfl rfl)
theorem dL_law_2319 : decode cL_law 2319 = .ok (.lcmp, 1) := dec_148 (gB dr_36 15 rfl rfl)
theorem dL_law_2320 : decode cL_law 2320 = .ok (.ifCond .eq 5, 3) := e_153 (x := 0) (y := 5) dr_36 16 rfl rfl
theorem dL_law_2323 : decode cL_law 2323 = .ok (.iconst 0, 1) := dec_3 (gB dr_36 19 rfl rfl)
theorem dL_law_2325 : decode cL_law 2325 = .ok (.goto 1147, 3) := e_167 (x := 4) (y := 123) dr_36 21 rfl rfl
theorem dL_law_2328 : decode cL_law 2328 = .ok (.aload_n 1, 1) := dec_43 (gB dr_36 24 rfl rfl)
theorem dL_law_2329 : decode cL_law 2329 = .ok (.aload_n 0, 1) := dec_42 (gB dr_36 25 rfl rfl)
theorem dL_law_2330 : decode cL_law 2330 = .ok (.iload 4, 2) := e_21 (x := 4) dr_36 26 rfl rfl
theorem dL_law_2332 : decode cL_law 2332 = .ok (.iconst 1, 1) := dec_4 (gB dr_36 28 rfl rfl)
theorem dL_law_2333 : decode cL_law 2333 = .ok (.iadd, 1) := dec_96 (gB dr_36 29 rfl rfl)
theorem dL_law_2334 : decode cL_law 2334 = .ok (.iaload, 1) := dec_46 (gB dr_36 30 rfl rfl)
theorem dL_law_2335 : decode cL_law 2335 = .ok (.aload_n 3, 1) := dec_45 (gB dr_36 31 rfl rfl)
theorem dL_law_2336 : decode cL_law 2336 = .ok (.invokestatic 274, 3) := e_184 (x := 1) (y := 18) dr_36 32 rfl rfl
theorem dL_law_2339 : decode cL_law 2339 = .ok (.istore 5, 2) := e_54 (x := 5) dr_36 35 rfl rfl
theorem dL_law_2341 : decode cL_law 2341 = .ok (.aload_n 2, 1) := dec_44 (gB dr_36 37 rfl rfl)
theorem dL_law_2342 : decode cL_law 2342 = .ok (.aload_n 0, 1) := dec_42 (gB dr_36 38 rfl rfl)
theorem dL_law_2343 : decode cL_law 2343 = .ok (.iload 4, 2) := e_21 (x := 4) dr_36 39 rfl rfl
theorem dL_law_2345 : decode cL_law 2345 = .ok (.iconst 1, 1) := dec_4 (gB dr_36 41 rfl rfl)
theorem dL_law_2346 : decode cL_law 2346 = .ok (.iadd, 1) := dec_96 (gB dr_36 42 rfl rfl)
theorem dL_law_2347 : decode cL_law 2347 = .ok (.iaload, 1) := dec_46 (gB dr_36 43 rfl rfl)
theorem dL_law_2348 : decode cL_law 2348 = .ok (.invokevirtual 276, 3) := e_182 (x := 1) (y := 20) dr_36 44 rfl rfl
theorem dL_law_2351 : decode cL_law 2351 = .ok (.istore 6, 2) := e_54 (x := 6) dr_36 47 rfl rfl
theorem dL_law_2353 : decode cL_law 2353 = .ok (.aload_n 2, 1) := dec_44 (gB dr_36 49 rfl rfl)
theorem dL_law_2354 : decode cL_law 2354 = .ok (.invokevirtual 178, 3) := e_182 (x := 0) (y := 178) dr_36 50 rfl rfl
theorem dL_law_2357 : decode cL_law 2357 = .ok (.iload 5, 2) := e_21 (x := 5) dr_36 53 rfl rfl
theorem dL_law_2359 : decode cL_law 2359 = .ok (.if_icmp .eq 5, 3) := e_159 (x := 0) (y := 5) dr_36 55 rfl rfl
theorem dL_law_2362 : decode cL_law 2362 = .ok (.iconst 0, 1) := dec_3 (gB dr_36 58 rfl rfl)
theorem dL_law_2364 : decode cL_law 2364 = .ok (.iload 5, 2) := e_21 (x := 5) dr_36 60 rfl rfl
theorem dL_law_2366 : decode cL_law 2366 = .ok (.ifCond .ne 23, 3) := dec_154 (a := 0) (b := 23) (gB dr_36 62 rfl rfl) (gB dr_36 63 rfl rfl) (gB dr_37 0 rfl rfl)
theorem dL_law_2369 : decode cL_law 2369 = .ok (.aload_n 3, 1) := dec_45 (gB dr_37 1 rfl rfl)
theorem dL_law_2370 : decode cL_law 2370 = .ok (.getfield 13, 3) := e_180 (x := 0) (y := 13) dr_37 2 rfl rfl
theorem dL_law_2373 : decode cL_law 2373 = .ok (.iload 6, 2) := e_21 (x := 6) dr_37 5 rfl rfl
theorem dL_law_2375 : decode cL_law 2375 = .ok (.ifCond .eq 7, 3) := e_153 (x := 0) (y := 7) dr_37 7 rfl rfl
theorem dL_law_2378 : decode cL_law 2378 = .ok (.lconst 1, 1) := dec_10 (gB dr_37 10 rfl rfl)
theorem dL_law_2379 : decode cL_law 2379 = .ok (.goto 4, 3) := e_167 (x := 0) (y := 4) dr_37 11 rfl rfl
theorem dL_law_2382 : decode cL_law 2382 = .ok (.lconst 0, 1) := dec_9 (gB dr_37 14 rfl rfl)
theorem dL_law_2383 : decode cL_law 2383 = .ok (.lcmp, 1) := dec_148 (gB dr_37 15 rfl rfl)
theorem dL_law_2384 : decode cL_law 2384 = .ok (.ifCond .eq 5, 3) := e_153 (x := 0) (y := 5) dr_37 16 rfl rfl
theorem dL_law_2387 : decode cL_law 2387 = .ok (.iconst 0, 1) := dec_3 (gB dr_37 19 rfl rfl)
theorem dL_law_2389 : decode cL_law 2389 = .ok (.goto 1083, 3) := e_167 (x := 4) (y := 59) dr_37 21 rfl rfl
theorem dL_law_2392 : decode cL_law 2392 = .ok (.aload_n 1, 1) := dec_43 (gB dr_37 24 rfl rfl)
theorem dL_law_2393 : decode cL_law 2393 = .ok (.aload_n 0, 1) := dec_42 (gB dr_37 25 rfl rfl)
theorem dL_law_2394 : decode cL_law 2394 = .ok (.iload 4, 2) := e_21 (x := 4) dr_37 26 rfl rfl
theorem dL_law_2396 : decode cL_law 2396 = .ok (.iconst 1, 1) := dec_4 (gB dr_37 28 rfl rfl)
theorem dL_law_2397 : decode cL_law 2397 = .ok (.iadd, 1) := dec_96 (gB dr_37 29 rfl rfl)
theorem dL_law_2398 : decode cL_law 2398 = .ok (.iaload, 1) := dec_46 (gB dr_37 30 rfl rfl)
theorem dL_law_2399 : decode cL_law 2399 = .ok (.aload_n 0, 1) := dec_42 (gB dr_37 31 rfl rfl)
theorem dL_law_2400 : decode cL_law 2400 = .ok (.iload 4, 2) := e_21 (x := 4) dr_37 32 rfl rfl
theorem dL_law_2402 : decode cL_law 2402 = .ok (.iconst 2, 1) := dec_5 (gB dr_37 34 rfl rfl)
theorem dL_law_2403 : decode cL_law 2403 = .ok (.iadd, 1) := dec_96 (gB dr_37 35 rfl rfl)
theorem dL_law_2404 : decode cL_law 2404 = .ok (.iaload, 1) := dec_46 (gB dr_37 36 rfl rfl)
theorem dL_law_2405 : decode cL_law 2405 = .ok (.aload_n 0, 1) := dec_42 (gB dr_37 37 rfl rfl)
theorem dL_law_2406 : decode cL_law 2406 = .ok (.iload 4, 2) := e_21 (x := 4) dr_37 38 rfl rfl
theorem dL_law_2408 : decode cL_law 2408 = .ok (.iconst 3, 1) := dec_6 (gB dr_37 40 rfl rfl)
theorem dL_law_2409 : decode cL_law 2409 = .ok (.iadd, 1) := dec_96 (gB dr_37 41 rfl rfl)
theorem dL_law_2410 : decode cL_law 2410 = .ok (.iaload, 1) := dec_46 (gB dr_37 42 rfl rfl)
theorem dL_law_2411 : decode cL_law 2411 = .ok (.ifCond .eq 7, 3) := e_153 (x := 0) (y := 7) dr_37 43 rfl rfl
theorem dL_law_2414 : decode cL_law 2414 = .ok (.iconst 1, 1) := dec_4 (gB dr_37 46 rfl rfl)
theorem dL_law_2415 : decode cL_law 2415 = .ok (.goto 4, 3) := e_167 (x := 0) (y := 4) dr_37 47 rfl rfl
theorem dL_law_2418 : decode cL_law 2418 = .ok (.iconst 0, 1) := dec_3 (gB dr_37 50 rfl rfl)
theorem dL_law_2419 : decode cL_law 2419 = .ok (.aload_n 3, 1) := dec_45 (gB dr_37 51 rfl rfl)
theorem dL_law_2420 : decode cL_law 2420 = .ok (.invokestatic 277, 3) := e_184 (x := 1) (y := 21) dr_37 52 rfl rfl
theorem dL_law_2423 : decode cL_law 2423 = .ok (.istore 5, 2) := e_54 (x := 5) dr_37 55 rfl rfl
theorem dL_law_2425 : decode cL_law 2425 = .ok (.aload_n 2, 1) := dec_44 (gB dr_37 57 rfl rfl)
theorem dL_law_2426 : decode cL_law 2426 = .ok (.aload_n 0, 1) := dec_42 (gB dr_37 58 rfl rfl)
theorem dL_law_2427 : decode cL_law 2427 = .ok (.iload 4, 2) := e_21 (x := 4) dr_37 59 rfl rfl
theorem dL_law_2429 : decode cL_law 2429 = .ok (.iconst 1, 1) := dec_4 (gB dr_37 61 rfl rfl)
theorem dL_law_2430 : decode cL_law 2430 = .ok (.iadd, 1) := dec_96 (gB dr_37 62 rfl rfl)
theorem dL_law_2431 : decode cL_law 2431 = .ok (.iaload, 1) := dec_46 (gB dr_37 63 rfl rfl)
theorem dL_law_2432 : decode cL_law 2432 = .ok (.aload_n 0, 1) := dec_42 (gB dr_38 0 rfl rfl)
theorem dL_law_2433 : decode cL_law 2433 = .ok (.iload 4, 2) := e_21 (x := 4) dr_38 1 rfl rfl
theorem dL_law_2435 : decode cL_law 2435 = .ok (.iconst 2, 1) := dec_5 (gB dr_38 3 rfl rfl)
theorem dL_law_2436 : decode cL_law 2436 = .ok (.iadd, 1) := dec_96 (gB dr_38 4 rfl rfl)
theorem dL_law_2437 : decode cL_law 2437 = .ok (.iaload, 1) := dec_46 (gB dr_38 5 rfl rfl)
theorem dL_law_2438 : decode cL_law 2438 = .ok (.aload_n 0, 1) := dec_42 (gB dr_38 6 rfl rfl)
theorem dL_law_2439 : decode cL_law 2439 = .ok (.iload 4, 2) := e_21 (x := 4) dr_38 7 rfl rfl
theorem dL_law_2441 : decode cL_law 2441 = .ok (.iconst 3, 1) := dec_6 (gB dr_38 9 rfl rfl)
theorem dL_law_2442 : decode cL_law 2442 = .ok (.iadd, 1) := dec_96 (gB dr_38 10 rfl rfl)
theorem dL_law_2443 : decode cL_law 2443 = .ok (.iaload, 1) := dec_46 (gB dr_38 11 rfl rfl)
theorem dL_law_2444 : decode cL_law 2444 = .ok (.ifCond .eq 7, 3) := e_153 (x := 0) (y := 7) dr_38 12 rfl rfl
theorem dL_law_2447 : decode cL_law 2447 = .ok (.iconst 1, 1) := dec_4 (gB dr_38 15 rfl rfl)
theorem dL_law_2448 : decode cL_law 2448 = .ok (.goto 4, 3) := e_167 (x := 0) (y := 4) dr_38 16 rfl rfl
theorem dL_law_2451 : decode cL_law 2451 = .ok (.iconst 0, 1) := dec_3 (gB dr_38 19 rfl rfl)
theorem dL_law_2452 : decode cL_law 2452 = .ok (.invokevirtual 279, 3) := e_182 (x := 1) (y := 23) dr_38 20 rfl rfl
theorem dL_law_2455 : decode cL_law 2455 = .ok (.istore 6, 2) := e_54 (x := 6) dr_38 23 rfl rfl
theorem dL_law_2457 : decode cL_law 2457 = .ok (.aload_n 2, 1) := dec_44 (gB dr_38 25 rfl rfl)
theorem dL_law_2458 : decode cL_law 2458 = .ok (.invokevirtual 178, 3) := e_182 (x := 0) (y := 178) dr_38 26 rfl rfl
theorem dL_law_2461 : decode cL_law 2461 = .ok (.iload 5, 2) := e_21 (x := 5) dr_38 29 rfl rfl
theorem dL_law_2463 : decode cL_law 2463 = .ok (.if_icmp .eq 5, 3) := e_159 (x := 0) (y := 5) dr_38 31 rfl rfl
theorem dL_law_2466 : decode cL_law 2466 = .ok (.iconst 0, 1) := dec_3 (gB dr_38 34 rfl rfl)
theorem dL_law_2468 : decode cL_law 2468 = .ok (.iload 5, 2) := e_21 (x := 5) dr_38 36 rfl rfl
theorem dL_law_2470 : decode cL_law 2470 = .ok (.ifCond .ne 16, 3) := e_154 (x := 0) (y := 16) dr_38 38 rfl rfl
theorem dL_law_2473 : decode cL_law 2473 = .ok (.aload_n 3, 1) := dec_45 (gB dr_38 41 rfl rfl)
theorem dL_law_2474 : decode cL_law 2474 = .ok (.getfield 13, 3) := e_180 (x := 0) (y := 13) dr_38 42 rfl rfl
theorem dL_law_2477 : decode cL_law 2477 = .ok (.iload 6, 2) := e_21 (x := 6) dr_38 45 rfl rfl
theorem dL_law_2479 : decode cL_law 2479 = .ok (.i2l, 1) := dec_133 (gB dr_38 47 rfl rfl)
theorem dL_law_2480 : decode cL_law 2480 = .ok (.lcmp, 1) := dec_148 (gB dr_38 48 rfl rfl)
theorem dL_law_2481 : decode cL_law 2481 = .ok (.ifCond .eq 5, 3) := e_153 (x := 0) (y := 5) dr_38 49 rfl rfl
theorem dL_law_2484 : decode cL_law 2484 = .ok (.iconst 0, 1) := dec_3 (gB dr_38 52 rfl rfl)
theorem dL_law_2486 : decode cL_law 2486 = .ok (.goto 986, 3) := e_167 (x := 3) (y := 218) dr_38 54 rfl rfl
theorem dL_law_2489 : decode cL_law 2489 = .ok (.aload_n 1, 1) := dec_43 (gB dr_38 57 rfl rfl)
theorem dL_law_2490 : decode cL_law 2490 = .ok (.aload_n 0, 1) := dec_42 (gB dr_38 58 rfl rfl)
theorem dL_law_2491 : decode cL_law 2491 = .ok (.iload 4, 2) := e_21 (x := 4) dr_38 59 rfl rfl
theorem dL_law_2493 : decode cL_law 2493 = .ok (.iconst 1, 1) := dec_4 (gB dr_38 61 rfl rfl)
theorem dL_law_2494 : decode cL_law 2494 = .ok (.iadd, 1) := dec_96 (gB dr_38 62 rfl rfl)
theorem dL_law_2495 : decode cL_law 2495 = .ok (.iaload, 1) := dec_46 (gB dr_38 63 rfl rfl)
theorem dL_law_2496 : decode cL_law 2496 = .ok (.aload_n 0, 1) := dec_42 (gB dr_39 0 rfl rfl)
theorem dL_law_2497 : decode cL_law 2497 = .ok (.iload 4, 2) := e_21 (x := 4) dr_39 1 rfl rfl
theorem dL_law_2499 : decode cL_law 2499 = .ok (.iconst 2, 1) := dec_5 (gB dr_39 3 rfl rfl)
theorem dL_law_2500 : decode cL_law 2500 = .ok (.iadd, 1) := dec_96 (gB dr_39 4 rfl rfl)
theorem dL_law_2501 : decode cL_law 2501 = .ok (.iaload, 1) := dec_46 (gB dr_39 5 rfl rfl)
theorem dL_law_2502 : decode cL_law 2502 = .ok (.aload_n 0, 1) := dec_42 (gB dr_39 6 rfl rfl)
theorem dL_law_2503 : decode cL_law 2503 = .ok (.iload 4, 2) := e_21 (x := 4) dr_39 7 rfl rfl
theorem dL_law_2505 : decode cL_law 2505 = .ok (.iconst 3, 1) := dec_6 (gB dr_39 9 rfl rfl)
theorem dL_law_2506 : decode cL_law 2506 = .ok (.iadd, 1) := dec_96 (gB dr_39 10 rfl rfl)
theorem dL_law_2507 : decode cL_law 2507 = .ok (.iaload, 1) := dec_46 (gB dr_39 11 rfl rfl)
theorem dL_law_2508 : decode cL_law 2508 = .ok (.ifCond .eq 7, 3) := e_153 (x := 0) (y := 7) dr_39 12 rfl rfl
theorem dL_law_2511 : decode cL_law 2511 = .ok (.iconst 1, 1) := dec_4 (gB dr_39 15 rfl rfl)
theorem dL_law_2512 : decode cL_law 2512 = .ok (.goto 4, 3) := e_167 (x := 0) (y := 4) dr_39 16 rfl rfl
theorem dL_law_2515 : decode cL_law 2515 = .ok (.iconst 0, 1) := dec_3 (gB dr_39 19 rfl rfl)
theorem dL_law_2516 : decode cL_law 2516 = .ok (.aload_n 3, 1) := dec_45 (gB dr_39 20 rfl rfl)
theorem dL_law_2517 : decode cL_law 2517 = .ok (.invokestatic 280, 3) := e_184 (x := 1) (y := 24) dr_39 21 rfl rfl
theorem dL_law_2520 : decode cL_law 2520 = .ok (.istore 5, 2) := e_54 (x := 5) dr_39 24 rfl rfl
theorem dL_law_2522 : decode cL_law 2522 = .ok (.aload_n 2, 1) := dec_44 (gB dr_39 26 rfl rfl)
theorem dL_law_2523 : decode cL_law 2523 = .ok (.aload_n 0, 1) := dec_42 (gB dr_39 27 rfl rfl)
theorem dL_law_2524 : decode cL_law 2524 = .ok (.iload 4, 2) := e_21 (x := 4) dr_39 28 rfl rfl
theorem dL_law_2526 : decode cL_law 2526 = .ok (.iconst 1, 1) := dec_4 (gB dr_39 30 rfl rfl)
theorem dL_law_2527 : decode cL_law 2527 = .ok (.iadd, 1) := dec_96 (gB dr_39 31 rfl rfl)
theorem dL_law_2528 : decode cL_law 2528 = .ok (.iaload, 1) := dec_46 (gB dr_39 32 rfl rfl)
theorem dL_law_2529 : decode cL_law 2529 = .ok (.aload_n 0, 1) := dec_42 (gB dr_39 33 rfl rfl)
theorem dL_law_2530 : decode cL_law 2530 = .ok (.iload 4, 2) := e_21 (x := 4) dr_39 34 rfl rfl
theorem dL_law_2532 : decode cL_law 2532 = .ok (.iconst 2, 1) := dec_5 (gB dr_39 36 rfl rfl)
theorem dL_law_2533 : decode cL_law 2533 = .ok (.iadd, 1) := dec_96 (gB dr_39 37 rfl rfl)
theorem dL_law_2534 : decode cL_law 2534 = .ok (.iaload, 1) := dec_46 (gB dr_39 38 rfl rfl)
theorem dL_law_2535 : decode cL_law 2535 = .ok (.aload_n 0, 1) := dec_42 (gB dr_39 39 rfl rfl)
theorem dL_law_2536 : decode cL_law 2536 = .ok (.iload 4, 2) := e_21 (x := 4) dr_39 40 rfl rfl
theorem dL_law_2538 : decode cL_law 2538 = .ok (.iconst 3, 1) := dec_6 (gB dr_39 42 rfl rfl)
theorem dL_law_2539 : decode cL_law 2539 = .ok (.iadd, 1) := dec_96 (gB dr_39 43 rfl rfl)
theorem dL_law_2540 : decode cL_law 2540 = .ok (.iaload, 1) := dec_46 (gB dr_39 44 rfl rfl)
theorem dL_law_2541 : decode cL_law 2541 = .ok (.ifCond .eq 7, 3) := e_153 (x := 0) (y := 7) dr_39 45 rfl rfl
theorem dL_law_2544 : decode cL_law 2544 = .ok (.iconst 1, 1) := dec_4 (gB dr_39 48 rfl rfl)
theorem dL_law_2545 : decode cL_law 2545 = .ok (.goto 4, 3) := e_167 (x := 0) (y := 4) dr_39 49 rfl rfl
theorem dL_law_2548 : decode cL_law 2548 = .ok (.iconst 0, 1) := dec_3 (gB dr_39 52 rfl rfl)
theorem dL_law_2549 : decode cL_law 2549 = .ok (.invokevirtual 282, 3) := e_182 (x := 1) (y := 26) dr_39 53 rfl rfl
theorem dL_law_2552 : decode cL_law 2552 = .ok (.istore 6, 2) := e_54 (x := 6) dr_39 56 rfl rfl
theorem dL_law_2554 : decode cL_law 2554 = .ok (.aload_n 2, 1) := dec_44 (gB dr_39 58 rfl rfl)
theorem dL_law_2555 : decode cL_law 2555 = .ok (.invokevirtual 178, 3) := e_182 (x := 0) (y := 178) dr_39 59 rfl rfl
theorem dL_law_2558 : decode cL_law 2558 = .ok (.iload 5, 2) := e_21 (x := 5) dr_39 62 rfl rfl
theorem dL_law_2560 : decode cL_law 2560 = .ok (.if_icmp .eq 5, 3) := e_159 (x := 0) (y := 5) dr_40 0 rfl rfl
theorem dL_law_2563 : decode cL_law 2563 = .ok (.iconst 0, 1) := dec_3 (gB dr_40 3 rfl rfl)
theorem dL_law_2565 : decode cL_law 2565 = .ok (.iload 5, 2) := e_21 (x := 5) dr_40 5 rfl rfl
theorem dL_law_2567 : decode cL_law 2567 = .ok (.ifCond .ne 16, 3) := e_154 (x := 0) (y := 16) dr_40 7 rfl rfl
theorem dL_law_2570 : decode cL_law 2570 = .ok (.aload_n 3, 1) := dec_45 (gB dr_40 10 rfl rfl)
theorem dL_law_2571 : decode cL_law 2571 = .ok (.getfield 13, 3) := e_180 (x := 0) (y := 13) dr_40 11 rfl rfl
theorem dL_law_2574 : decode cL_law 2574 = .ok (.iload 6, 2) := e_21 (x := 6) dr_40 14 rfl rfl
theorem dL_law_2576 : decode cL_law 2576 = .ok (.i2l, 1) := dec_133 (gB dr_40 16 rfl rfl)
theorem dL_law_2577 : decode cL_law 2577 = .ok (.lcmp, 1) := dec_148 (gB dr_40 17 rfl rfl)
theorem dL_law_2578 : decode cL_law 2578 = .ok (.ifCond .eq 5, 3) := e_153 (x := 0) (y := 5) dr_40 18 rfl rfl
theorem dL_law_2581 : decode cL_law 2581 = .ok (.iconst 0, 1) := dec_3 (gB dr_40 21 rfl rfl)
theorem dL_law_2583 : decode cL_law 2583 = .ok (.goto 889, 3) := e_167 (x := 3) (y := 121) dr_40 23 rfl rfl
theorem dL_law_2586 : decode cL_law 2586 = .ok (.aload_n 1, 1) := dec_43 (gB dr_40 26 rfl rfl)
theorem dL_law_2587 : decode cL_law 2587 = .ok (.aload_n 0, 1) := dec_42 (gB dr_40 27 rfl rfl)
theorem dL_law_2588 : decode cL_law 2588 = .ok (.iload 4, 2) := e_21 (x := 4) dr_40 28 rfl rfl
theorem dL_law_2590 : decode cL_law 2590 = .ok (.iconst 1, 1) := dec_4 (gB dr_40 30 rfl rfl)
theorem dL_law_2591 : decode cL_law 2591 = .ok (.iadd, 1) := dec_96 (gB dr_40 31 rfl rfl)
theorem dL_law_2592 : decode cL_law 2592 = .ok (.iaload, 1) := dec_46 (gB dr_40 32 rfl rfl)
theorem dL_law_2593 : decode cL_law 2593 = .ok (.aload_n 3, 1) := dec_45 (gB dr_40 33 rfl rfl)
theorem dL_law_2594 : decode cL_law 2594 = .ok (.invokestatic 283, 3) := e_184 (x := 1) (y := 27) dr_40 34 rfl rfl
theorem dL_law_2597 : decode cL_law 2597 = .ok (.istore 5, 2) := e_54 (x := 5) dr_40 37 rfl rfl
theorem dL_law_2599 : decode cL_law 2599 = .ok (.aload_n 2, 1) := dec_44 (gB dr_40 39 rfl rfl)
theorem dL_law_2600 : decode cL_law 2600 = .ok (.aload_n 0, 1) := dec_42 (gB dr_40 40 rfl rfl)
theorem dL_law_2601 : decode cL_law 2601 = .ok (.iload 4, 2) := e_21 (x := 4) dr_40 41 rfl rfl
theorem dL_law_2603 : decode cL_law 2603 = .ok (.iconst 1, 1) := dec_4 (gB dr_40 43 rfl rfl)
theorem dL_law_2604 : decode cL_law 2604 = .ok (.iadd, 1) := dec_96 (gB dr_40 44 rfl rfl)
theorem dL_law_2605 : decode cL_law 2605 = .ok (.iaload, 1) := dec_46 (gB dr_40 45 rfl rfl)
theorem dL_law_2606 : decode cL_law 2606 = .ok (.invokevirtual 285, 3) := e_182 (x := 1) (y := 29) dr_40 46 rfl rfl
theorem dL_law_2609 : decode cL_law 2609 = .ok (.istore 6, 2) := e_54 (x := 6) dr_40 49 rfl rfl
theorem dL_law_2611 : decode cL_law 2611 = .ok (.aload_n 2, 1) := dec_44 (gB dr_40 51 rfl rfl)
theorem dL_law_2612 : decode cL_law 2612 = .ok (.invokevirtual 178, 3) := e_182 (x := 0) (y := 178) dr_40 52 rfl rfl
theorem dL_law_2615 : decode cL_law 2615 = .ok (.iload 5, 2) := e_21 (x := 5) dr_40 55 rfl rfl
theorem dL_law_2617 : decode cL_law 2617 = .ok (.if_icmp .eq 5, 3) := e_159 (x := 0) (y := 5) dr_40 57 rfl rfl
theorem dL_law_2620 : decode cL_law 2620 = .ok (.iconst 0, 1) := dec_3 (gB dr_40 60 rfl rfl)
theorem dL_law_2622 : decode cL_law 2622 = .ok (.iload 5, 2) := e_21 (x := 5) dr_40 62 rfl rfl
theorem dL_law_2624 : decode cL_law 2624 = .ok (.ifCond .ne 16, 3) := e_154 (x := 0) (y := 16) dr_41 0 rfl rfl
theorem dL_law_2627 : decode cL_law 2627 = .ok (.aload_n 3, 1) := dec_45 (gB dr_41 3 rfl rfl)
theorem dL_law_2628 : decode cL_law 2628 = .ok (.getfield 13, 3) := e_180 (x := 0) (y := 13) dr_41 4 rfl rfl
theorem dL_law_2631 : decode cL_law 2631 = .ok (.iload 6, 2) := e_21 (x := 6) dr_41 7 rfl rfl
theorem dL_law_2633 : decode cL_law 2633 = .ok (.i2l, 1) := dec_133 (gB dr_41 9 rfl rfl)
theorem dL_law_2634 : decode cL_law 2634 = .ok (.lcmp, 1) := dec_148 (gB dr_41 10 rfl rfl)
theorem dL_law_2635 : decode cL_law 2635 = .ok (.ifCond .eq 5, 3) := e_153 (x := 0) (y := 5) dr_41 11 rfl rfl
theorem dL_law_2638 : decode cL_law 2638 = .ok (.iconst 0, 1) := dec_3 (gB dr_41 14 rfl rfl)
theorem dL_law_2640 : decode cL_law 2640 = .ok (.goto 832, 3) := e_167 (x := 3) (y := 64) dr_41 16 rfl rfl
theorem dL_law_2643 : decode cL_law 2643 = .ok (.aload_n 1, 1) := dec_43 (gB dr_41 19 rfl rfl)
theorem dL_law_2644 : decode cL_law 2644 = .ok (.aload_n 0, 1) := dec_42 (gB dr_41 20 rfl rfl)
theorem dL_law_2645 : decode cL_law 2645 = .ok (.iload 4, 2) := e_21 (x := 4) dr_41 21 rfl rfl
theorem dL_law_2647 : decode cL_law 2647 = .ok (.iconst 1, 1) := dec_4 (gB dr_41 23 rfl rfl)
theorem dL_law_2648 : decode cL_law 2648 = .ok (.iadd, 1) := dec_96 (gB dr_41 24 rfl rfl)
theorem dL_law_2649 : decode cL_law 2649 = .ok (.iaload, 1) := dec_46 (gB dr_41 25 rfl rfl)
theorem dL_law_2650 : decode cL_law 2650 = .ok (.aload_n 3, 1) := dec_45 (gB dr_41 26 rfl rfl)
theorem dL_law_2651 : decode cL_law 2651 = .ok (.invokestatic 286, 3) := e_184 (x := 1) (y := 30) dr_41 27 rfl rfl
theorem dL_law_2654 : decode cL_law 2654 = .ok (.istore 5, 2) := e_54 (x := 5) dr_41 30 rfl rfl
theorem dL_law_2656 : decode cL_law 2656 = .ok (.aload_n 2, 1) := dec_44 (gB dr_41 32 rfl rfl)
theorem dL_law_2657 : decode cL_law 2657 = .ok (.aload_n 0, 1) := dec_42 (gB dr_41 33 rfl rfl)
theorem dL_law_2658 : decode cL_law 2658 = .ok (.iload 4, 2) := e_21 (x := 4) dr_41 34 rfl rfl
theorem dL_law_2660 : decode cL_law 2660 = .ok (.iconst 1, 1) := dec_4 (gB dr_41 36 rfl rfl)
theorem dL_law_2661 : decode cL_law 2661 = .ok (.iadd, 1) := dec_96 (gB dr_41 37 rfl rfl)
theorem dL_law_2662 : decode cL_law 2662 = .ok (.iaload, 1) := dec_46 (gB dr_41 38 rfl rfl)
theorem dL_law_2663 : decode cL_law 2663 = .ok (.invokevirtual 288, 3) := e_182 (x := 1) (y := 32) dr_41 39 rfl rfl
theorem dL_law_2666 : decode cL_law 2666 = .ok (.istore 6, 2) := e_54 (x := 6) dr_41 42 rfl rfl
theorem dL_law_2668 : decode cL_law 2668 = .ok (.aload_n 2, 1) := dec_44 (gB dr_41 44 rfl rfl)
theorem dL_law_2669 : decode cL_law 2669 = .ok (.invokevirtual 178, 3) := e_182 (x := 0) (y := 178) dr_41 45 rfl rfl
theorem dL_law_2672 : decode cL_law 2672 = .ok (.iload 5, 2) := e_21 (x := 5) dr_41 48 rfl rfl
theorem dL_law_2674 : decode cL_law 2674 = .ok (.if_icmp .eq 5, 3) := e_159 (x := 0) (y := 5) dr_41 50 rfl rfl
theorem dL_law_2677 : decode cL_law 2677 = .ok (.iconst 0, 1) := dec_3 (gB dr_41 53 rfl rfl)
theorem dL_law_2679 : decode cL_law 2679 = .ok (.iload 5, 2) := e_21 (x := 5) dr_41 55 rfl rfl
theorem dL_law_2681 : decode cL_law 2681 = .ok (.ifCond .ne 16, 3) := e_154 (x := 0) (y := 16) dr_41 57 rfl rfl
theorem dL_law_2684 : decode cL_law 2684 = .ok (.aload_n 3, 1) := dec_45 (gB dr_41 60 rfl rfl)
theorem dL_law_2685 : decode cL_law 2685 = .ok (.getfield 13, 3) := e_180 (x := 0) (y := 13) dr_41 61 rfl rfl
theorem dL_law_2688 : decode cL_law 2688 = .ok (.iload 6, 2) := e_21 (x := 6) dr_42 0 rfl rfl
theorem dL_law_2690 : decode cL_law 2690 = .ok (.i2l, 1) := dec_133 (gB dr_42 2 rfl rfl)
theorem dL_law_2691 : decode cL_law 2691 = .ok (.lcmp, 1) := dec_148 (gB dr_42 3 rfl rfl)
theorem dL_law_2692 : decode cL_law 2692 = .ok (.ifCond .eq 5, 3) := e_153 (x := 0) (y := 5) dr_42 4 rfl rfl
theorem dL_law_2695 : decode cL_law 2695 = .ok (.iconst 0, 1) := dec_3 (gB dr_42 7 rfl rfl)
theorem dL_law_2697 : decode cL_law 2697 = .ok (.goto 775, 3) := e_167 (x := 3) (y := 7) dr_42 9 rfl rfl
theorem dL_law_2700 : decode cL_law 2700 = .ok (.aload_n 1, 1) := dec_43 (gB dr_42 12 rfl rfl)
theorem dL_law_2701 : decode cL_law 2701 = .ok (.aload_n 0, 1) := dec_42 (gB dr_42 13 rfl rfl)
theorem dL_law_2702 : decode cL_law 2702 = .ok (.iload 4, 2) := e_21 (x := 4) dr_42 14 rfl rfl
theorem dL_law_2704 : decode cL_law 2704 = .ok (.iconst 1, 1) := dec_4 (gB dr_42 16 rfl rfl)
theorem dL_law_2705 : decode cL_law 2705 = .ok (.iadd, 1) := dec_96 (gB dr_42 17 rfl rfl)
theorem dL_law_2706 : decode cL_law 2706 = .ok (.iaload, 1) := dec_46 (gB dr_42 18 rfl rfl)
theorem dL_law_2707 : decode cL_law 2707 = .ok (.aload_n 3, 1) := dec_45 (gB dr_42 19 rfl rfl)
theorem dL_law_2708 : decode cL_law 2708 = .ok (.invokestatic 289, 3) := e_184 (x := 1) (y := 33) dr_42 20 rfl rfl
theorem dL_law_2711 : decode cL_law 2711 = .ok (.istore 5, 2) := e_54 (x := 5) dr_42 23 rfl rfl
theorem dL_law_2713 : decode cL_law 2713 = .ok (.aload_n 2, 1) := dec_44 (gB dr_42 25 rfl rfl)
theorem dL_law_2714 : decode cL_law 2714 = .ok (.aload_n 0, 1) := dec_42 (gB dr_42 26 rfl rfl)
theorem dL_law_2715 : decode cL_law 2715 = .ok (.iload 4, 2) := e_21 (x := 4) dr_42 27 rfl rfl
theorem dL_law_2717 : decode cL_law 2717 = .ok (.iconst 1, 1) := dec_4 (gB dr_42 29 rfl rfl)
theorem dL_law_2718 : decode cL_law 2718 = .ok (.iadd, 1) := dec_96 (gB dr_42 30 rfl rfl)
theorem dL_law_2719 : decode cL_law 2719 = .ok (.iaload, 1) := dec_46 (gB dr_42 31 rfl rfl)
theorem dL_law_2720 : decode cL_law 2720 = .ok (.invokevirtual 291, 3) := e_182 (x := 1) (y := 35) dr_42 32 rfl rfl
theorem dL_law_2723 : decode cL_law 2723 = .ok (.istore 6, 2) := e_54 (x := 6) dr_42 35 rfl rfl
theorem dL_law_2725 : decode cL_law 2725 = .ok (.aload_n 2, 1) := dec_44 (gB dr_42 37 rfl rfl)
theorem dL_law_2726 : decode cL_law 2726 = .ok (.invokevirtual 178, 3) := e_182 (x := 0) (y := 178) dr_42 38 rfl rfl
theorem dL_law_2729 : decode cL_law 2729 = .ok (.iload 5, 2) := e_21 (x := 5) dr_42 41 rfl rfl
theorem dL_law_2731 : decode cL_law 2731 = .ok (.if_icmp .eq 5, 3) := e_159 (x := 0) (y := 5) dr_42 43 rfl rfl
theorem dL_law_2734 : decode cL_law 2734 = .ok (.iconst 0, 1) := dec_3 (gB dr_42 46 rfl rfl)
theorem dL_law_2736 : decode cL_law 2736 = .ok (.iload 5, 2) := e_21 (x := 5) dr_42 48 rfl rfl
theorem dL_law_2738 : decode cL_law 2738 = .ok (.ifCond .ne 16, 3) := e_154 (x := 0) (y := 16) dr_42 50 rfl rfl
theorem dL_law_2741 : decode cL_law 2741 = .ok (.aload_n 3, 1) := dec_45 (gB dr_42 53 rfl rfl)
theorem dL_law_2742 : decode cL_law 2742 = .ok (.getfield 13, 3) := e_180 (x := 0) (y := 13) dr_42 54 rfl rfl
theorem dL_law_2745 : decode cL_law 2745 = .ok (.iload 6, 2) := e_21 (x := 6) dr_42 57 rfl rfl
theorem dL_law_2747 : decode cL_law 2747 = .ok (.i2l, 1) := dec_133 (gB dr_42 59 rfl rfl)
theorem dL_law_2748 : decode cL_law 2748 = .ok (.lcmp, 1) := dec_148 (gB dr_42 60 rfl rfl)
theorem dL_law_2749 : decode cL_law 2749 = .ok (.ifCond .eq 5, 3) := e_153 (x := 0) (y := 5) dr_42 61 rfl rfl
theorem dL_law_2752 : decode cL_law 2752 = .ok (.iconst 0, 1) := dec_3 (gB dr_43 0 rfl rfl)
theorem dL_law_2754 : decode cL_law 2754 = .ok (.goto 718, 3) := e_167 (x := 2) (y := 206) dr_43 2 rfl rfl
theorem dL_law_2757 : decode cL_law 2757 = .ok (.aload_n 1, 1) := dec_43 (gB dr_43 5 rfl rfl)
theorem dL_law_2758 : decode cL_law 2758 = .ok (.aload_n 0, 1) := dec_42 (gB dr_43 6 rfl rfl)
theorem dL_law_2759 : decode cL_law 2759 = .ok (.iload 4, 2) := e_21 (x := 4) dr_43 7 rfl rfl
theorem dL_law_2761 : decode cL_law 2761 = .ok (.iconst 1, 1) := dec_4 (gB dr_43 9 rfl rfl)
theorem dL_law_2762 : decode cL_law 2762 = .ok (.iadd, 1) := dec_96 (gB dr_43 10 rfl rfl)
theorem dL_law_2763 : decode cL_law 2763 = .ok (.iaload, 1) := dec_46 (gB dr_43 11 rfl rfl)
theorem dL_law_2764 : decode cL_law 2764 = .ok (.aload_n 3, 1) := dec_45 (gB dr_43 12 rfl rfl)
theorem dL_law_2765 : decode cL_law 2765 = .ok (.invokestatic 292, 3) := e_184 (x := 1) (y := 36) dr_43 13 rfl rfl
theorem dL_law_2768 : decode cL_law 2768 = .ok (.istore 5, 2) := e_54 (x := 5) dr_43 16 rfl rfl
theorem dL_law_2770 : decode cL_law 2770 = .ok (.aload_n 2, 1) := dec_44 (gB dr_43 18 rfl rfl)
theorem dL_law_2771 : decode cL_law 2771 = .ok (.aload_n 0, 1) := dec_42 (gB dr_43 19 rfl rfl)
theorem dL_law_2772 : decode cL_law 2772 = .ok (.iload 4, 2) := e_21 (x := 4) dr_43 20 rfl rfl
theorem dL_law_2774 : decode cL_law 2774 = .ok (.iconst 1, 1) := dec_4 (gB dr_43 22 rfl rfl)
theorem dL_law_2775 : decode cL_law 2775 = .ok (.iadd, 1) := dec_96 (gB dr_43 23 rfl rfl)
theorem dL_law_2776 : decode cL_law 2776 = .ok (.iaload, 1) := dec_46 (gB dr_43 24 rfl rfl)
theorem dL_law_2777 : decode cL_law 2777 = .ok (.invokevirtual 294, 3) := e_182 (x := 1) (y := 38) dr_43 25 rfl rfl
theorem dL_law_2780 : decode cL_law 2780 = .ok (.istore 6, 2) := e_54 (x := 6) dr_43 28 rfl rfl
theorem dL_law_2782 : decode cL_law 2782 = .ok (.aload_n 2, 1) := dec_44 (gB dr_43 30 rfl rfl)
theorem dL_law_2783 : decode cL_law 2783 = .ok (.invokevirtual 178, 3) := e_182 (x := 0) (y := 178) dr_43 31 rfl rfl
theorem dL_law_2786 : decode cL_law 2786 = .ok (.iload 5, 2) := e_21 (x := 5) dr_43 34 rfl rfl
theorem dL_law_2788 : decode cL_law 2788 = .ok (.if_icmp .eq 5, 3) := e_159 (x := 0) (y := 5) dr_43 36 rfl rfl
theorem dL_law_2791 : decode cL_law 2791 = .ok (.iconst 0, 1) := dec_3 (gB dr_43 39 rfl rfl)
theorem dL_law_2793 : decode cL_law 2793 = .ok (.iload 5, 2) := e_21 (x := 5) dr_43 41 rfl rfl
theorem dL_law_2795 : decode cL_law 2795 = .ok (.ifCond .ne 16, 3) := e_154 (x := 0) (y := 16) dr_43 43 rfl rfl
theorem dL_law_2798 : decode cL_law 2798 = .ok (.aload_n 3, 1) := dec_45 (gB dr_43 46 rfl rfl)
theorem dL_law_2799 : decode cL_law 2799 = .ok (.getfield 13, 3) := e_180 (x := 0) (y := 13) dr_43 47 rfl rfl
theorem dL_law_2802 : decode cL_law 2802 = .ok (.iload 6, 2) := e_21 (x := 6) dr_43 50 rfl rfl
theorem dL_law_2804 : decode cL_law 2804 = .ok (.i2l, 1) := dec_133 (gB dr_43 52 rfl rfl)
theorem dL_law_2805 : decode cL_law 2805 = .ok (.lcmp, 1) := dec_148 (gB dr_43 53 rfl rfl)
theorem dL_law_2806 : decode cL_law 2806 = .ok (.ifCond .eq 5, 3) := e_153 (x := 0) (y := 5) dr_43 54 rfl rfl
theorem dL_law_2809 : decode cL_law 2809 = .ok (.iconst 0, 1) := dec_3 (gB dr_43 57 rfl rfl)
theorem dL_law_2811 : decode cL_law 2811 = .ok (.goto 661, 3) := e_167 (x := 2) (y := 149) dr_43 59 rfl rfl
theorem dL_law_2814 : decode cL_law 2814 = .ok (.aload_n 1, 1) := dec_43 (gB dr_43 62 rfl rfl)
theorem dL_law_2815 : decode cL_law 2815 = .ok (.aload_n 0, 1) := dec_42 (gB dr_43 63 rfl rfl)
theorem dL_law_2816 : decode cL_law 2816 = .ok (.iload 4, 2) := e_21 (x := 4) dr_44 0 rfl rfl
theorem dL_law_2818 : decode cL_law 2818 = .ok (.iconst 1, 1) := dec_4 (gB dr_44 2 rfl rfl)
theorem dL_law_2819 : decode cL_law 2819 = .ok (.iadd, 1) := dec_96 (gB dr_44 3 rfl rfl)
theorem dL_law_2820 : decode cL_law 2820 = .ok (.iaload, 1) := dec_46 (gB dr_44 4 rfl rfl)
theorem dL_law_2821 : decode cL_law 2821 = .ok (.aload_n 3, 1) := dec_45 (gB dr_44 5 rfl rfl)
theorem dL_law_2822 : decode cL_law 2822 = .ok (.invokestatic 295, 3) := e_184 (x := 1) (y := 39) dr_44 6 rfl rfl
theorem dL_law_2825 : decode cL_law 2825 = .ok (.istore 5, 2) := e_54 (x := 5) dr_44 9 rfl rfl
theorem dL_law_2827 : decode cL_law 2827 = .ok (.aload_n 2, 1) := dec_44 (gB dr_44 11 rfl rfl)
theorem dL_law_2828 : decode cL_law 2828 = .ok (.aload_n 0, 1) := dec_42 (gB dr_44 12 rfl rfl)
theorem dL_law_2829 : decode cL_law 2829 = .ok (.iload 4, 2) := e_21 (x := 4) dr_44 13 rfl rfl
theorem dL_law_2831 : decode cL_law 2831 = .ok (.iconst 1, 1) := dec_4 (gB dr_44 15 rfl rfl)
theorem dL_law_2832 : decode cL_law 2832 = .ok (.iadd, 1) := dec_96 (gB dr_44 16 rfl rfl)
theorem dL_law_2833 : decode cL_law 2833 = .ok (.iaload, 1) := dec_46 (gB dr_44 17 rfl rfl)
theorem dL_law_2834 : decode cL_law 2834 = .ok (.invokevirtual 297, 3) := e_182 (x := 1) (y := 41) dr_44 18 rfl rfl
theorem dL_law_2837 : decode cL_law 2837 = .ok (.istore 6, 2) := e_54 (x := 6) dr_44 21 rfl rfl
theorem dL_law_2839 : decode cL_law 2839 = .ok (.aload_n 2, 1) := dec_44 (gB dr_44 23 rfl rfl)
theorem dL_law_2840 : decode cL_law 2840 = .ok (.invokevirtual 178, 3) := e_182 (x := 0) (y := 178) dr_44 24 rfl rfl
theorem dL_law_2843 : decode cL_law 2843 = .ok (.iload 5, 2) := e_21 (x := 5) dr_44 27 rfl rfl
theorem dL_law_2845 : decode cL_law 2845 = .ok (.if_icmp .eq 5, 3) := e_159 (x := 0) (y := 5) dr_44 29 rfl rfl
theorem dL_law_2848 : decode cL_law 2848 = .ok (.iconst 0, 1) := dec_3 (gB dr_44 32 rfl rfl)
theorem dL_law_2850 : decode cL_law 2850 = .ok (.iload 5, 2) := e_21 (x := 5) dr_44 34 rfl rfl
theorem dL_law_2852 : decode cL_law 2852 = .ok (.ifCond .ne 16, 3) := e_154 (x := 0) (y := 16) dr_44 36 rfl rfl
theorem dL_law_2855 : decode cL_law 2855 = .ok (.aload_n 3, 1) := dec_45 (gB dr_44 39 rfl rfl)
theorem dL_law_2856 : decode cL_law 2856 = .ok (.getfield 13, 3) := e_180 (x := 0) (y := 13) dr_44 40 rfl rfl
theorem dL_law_2859 : decode cL_law 2859 = .ok (.iload 6, 2) := e_21 (x := 6) dr_44 43 rfl rfl
theorem dL_law_2861 : decode cL_law 2861 = .ok (.i2l, 1) := dec_133 (gB dr_44 45 rfl rfl)
theorem dL_law_2862 : decode cL_law 2862 = .ok (.lcmp, 1) := dec_148 (gB dr_44 46 rfl rfl)
theorem dL_law_2863 : decode cL_law 2863 = .ok (.ifCond .eq 5, 3) := e_153 (x := 0) (y := 5) dr_44 47 rfl rfl
theorem dL_law_2866 : decode cL_law 2866 = .ok (.iconst 0, 1) := dec_3 (gB dr_44 50 rfl rfl)
theorem dL_law_2868 : decode cL_law 2868 = .ok (.goto 604, 3) := e_167 (x := 2) (y := 92) dr_44 52 rfl rfl
theorem dL_law_2871 : decode cL_law 2871 = .ok (.aload_n 1, 1) := dec_43 (gB dr_44 55 rfl rfl)
theorem dL_law_2872 : decode cL_law 2872 = .ok (.aload_n 0, 1) := dec_42 (gB dr_44 56 rfl rfl)
theorem dL_law_2873 : decode cL_law 2873 = .ok (.iload 4, 2) := e_21 (x := 4) dr_44 57 rfl rfl
theorem dL_law_2875 : decode cL_law 2875 = .ok (.iconst 1, 1) := dec_4 (gB dr_44 59 rfl rfl)
theorem dL_law_2876 : decode cL_law 2876 = .ok (.iadd, 1) := dec_96 (gB dr_44 60 rfl rfl)
theorem dL_law_2877 : decode cL_law 2877 = .ok (.iaload, 1) := dec_46 (gB dr_44 61 rfl rfl)
theorem dL_law_2878 : decode cL_law 2878 = .ok (.aload_n 0, 1) := dec_42 (gB dr_44 62 rfl rfl)
theorem dL_law_2879 : decode cL_law 2879 = .ok (.iload 4, 2) := dec_21 (a := 4) (gB dr_44 63 rfl rfl) (gB dr_45 0 rfl rfl)
theorem dL_law_2881 : decode cL_law 2881 = .ok (.iconst 2, 1) := dec_5 (gB dr_45 1 rfl rfl)
theorem dL_law_2882 : decode cL_law 2882 = .ok (.iadd, 1) := dec_96 (gB dr_45 2 rfl rfl)
theorem dL_law_2883 : decode cL_law 2883 = .ok (.iaload, 1) := dec_46 (gB dr_45 3 rfl rfl)
theorem dL_law_2884 : decode cL_law 2884 = .ok (.aload_n 3, 1) := dec_45 (gB dr_45 4 rfl rfl)
theorem dL_law_2885 : decode cL_law 2885 = .ok (.invokestatic 298, 3) := e_184 (x := 1) (y := 42) dr_45 5 rfl rfl
theorem dL_law_2888 : decode cL_law 2888 = .ok (.istore 5, 2) := e_54 (x := 5) dr_45 8 rfl rfl
theorem dL_law_2890 : decode cL_law 2890 = .ok (.aload_n 2, 1) := dec_44 (gB dr_45 10 rfl rfl)
theorem dL_law_2891 : decode cL_law 2891 = .ok (.aload_n 0, 1) := dec_42 (gB dr_45 11 rfl rfl)
theorem dL_law_2892 : decode cL_law 2892 = .ok (.iload 4, 2) := e_21 (x := 4) dr_45 12 rfl rfl
theorem dL_law_2894 : decode cL_law 2894 = .ok (.iconst 1, 1) := dec_4 (gB dr_45 14 rfl rfl)
theorem dL_law_2895 : decode cL_law 2895 = .ok (.iadd, 1) := dec_96 (gB dr_45 15 rfl rfl)
theorem dL_law_2896 : decode cL_law 2896 = .ok (.iaload, 1) := dec_46 (gB dr_45 16 rfl rfl)
theorem dL_law_2897 : decode cL_law 2897 = .ok (.aload_n 0, 1) := dec_42 (gB dr_45 17 rfl rfl)
theorem dL_law_2898 : decode cL_law 2898 = .ok (.iload 4, 2) := e_21 (x := 4) dr_45 18 rfl rfl
theorem dL_law_2900 : decode cL_law 2900 = .ok (.iconst 2, 1) := dec_5 (gB dr_45 20 rfl rfl)
theorem dL_law_2901 : decode cL_law 2901 = .ok (.iadd, 1) := dec_96 (gB dr_45 21 rfl rfl)
theorem dL_law_2902 : decode cL_law 2902 = .ok (.iaload, 1) := dec_46 (gB dr_45 22 rfl rfl)
theorem dL_law_2903 : decode cL_law 2903 = .ok (.invokevirtual 300, 3) := e_182 (x := 1) (y := 44) dr_45 23 rfl rfl
theorem dL_law_2906 : decode cL_law 2906 = .ok (.istore 6, 2) := e_54 (x := 6) dr_45 26 rfl rfl
theorem dL_law_2908 : decode cL_law 2908 = .ok (.aload_n 2, 1) := dec_44 (gB dr_45 28 rfl rfl)
theorem dL_law_2909 : decode cL_law 2909 = .ok (.invokevirtual 178, 3) := e_182 (x := 0) (y := 178) dr_45 29 rfl rfl
theorem dL_law_2912 : decode cL_law 2912 = .ok (.iload 5, 2) := e_21 (x := 5) dr_45 32 rfl rfl
theorem dL_law_2914 : decode cL_law 2914 = .ok (.if_icmp .eq 5, 3) := e_159 (x := 0) (y := 5) dr_45 34 rfl rfl
theorem dL_law_2917 : decode cL_law 2917 = .ok (.iconst 0, 1) := dec_3 (gB dr_45 37 rfl rfl)
theorem dL_law_2919 : decode cL_law 2919 = .ok (.iload 5, 2) := e_21 (x := 5) dr_45 39 rfl rfl
theorem dL_law_2921 : decode cL_law 2921 = .ok (.ifCond .ne 23, 3) := e_154 (x := 0) (y := 23) dr_45 41 rfl rfl
theorem dL_law_2924 : decode cL_law 2924 = .ok (.aload_n 3, 1) := dec_45 (gB dr_45 44 rfl rfl)
theorem dL_law_2925 : decode cL_law 2925 = .ok (.getfield 13, 3) := e_180 (x := 0) (y := 13) dr_45 45 rfl rfl
theorem dL_law_2928 : decode cL_law 2928 = .ok (.iload 6, 2) := e_21 (x := 6) dr_45 48 rfl rfl
theorem dL_law_2930 : decode cL_law 2930 = .ok (.ifCond .eq 7, 3) := e_153 (x := 0) (y := 7) dr_45 50 rfl rfl
theorem dL_law_2933 : decode cL_law 2933 = .ok (.lconst 1, 1) := dec_10 (gB dr_45 53 rfl rfl)
theorem dL_law_2934 : decode cL_law 2934 = .ok (.goto 4, 3) := e_167 (x := 0) (y := 4) dr_45 54 rfl rfl
theorem dL_law_2937 : decode cL_law 2937 = .ok (.lconst 0, 1) := dec_9 (gB dr_45 57 rfl rfl)
theorem dL_law_2938 : decode cL_law 2938 = .ok (.lcmp, 1) := dec_148 (gB dr_45 58 rfl rfl)
theorem dL_law_2939 : decode cL_law 2939 = .ok (.ifCond .eq 5, 3) := e_153 (x := 0) (y := 5) dr_45 59 rfl rfl
theorem dL_law_2942 : decode cL_law 2942 = .ok (.iconst 0, 1) := dec_3 (gB dr_45 62 rfl rfl)
theorem dL_law_2944 : decode cL_law 2944 = .ok (.goto 528, 3) := e_167 (x := 2) (y := 16) dr_46 0 rfl rfl
theorem dL_law_2947 : decode cL_law 2947 = .ok (.aload_n 1, 1) := dec_43 (gB dr_46 3 rfl rfl)
theorem dL_law_2948 : decode cL_law 2948 = .ok (.aload_n 0, 1) := dec_42 (gB dr_46 4 rfl rfl)
theorem dL_law_2949 : decode cL_law 2949 = .ok (.iload 4, 2) := e_21 (x := 4) dr_46 5 rfl rfl
theorem dL_law_2951 : decode cL_law 2951 = .ok (.iconst 1, 1) := dec_4 (gB dr_46 7 rfl rfl)
theorem dL_law_2952 : decode cL_law 2952 = .ok (.iadd, 1) := dec_96 (gB dr_46 8 rfl rfl)
theorem dL_law_2953 : decode cL_law 2953 = .ok (.iaload, 1) := dec_46 (gB dr_46 9 rfl rfl)
theorem dL_law_2954 : decode cL_law 2954 = .ok (.aload_n 3, 1) := dec_45 (gB dr_46 10 rfl rfl)
theorem dL_law_2955 : decode cL_law 2955 = .ok (.invokestatic 301, 3) := e_184 (x := 1) (y := 45) dr_46 11 rfl rfl
theorem dL_law_2958 : decode cL_law 2958 = .ok (.istore 5, 2) := e_54 (x := 5) dr_46 14 rfl rfl
theorem dL_law_2960 : decode cL_law 2960 = .ok (.aload_n 2, 1) := dec_44 (gB dr_46 16 rfl rfl)
theorem dL_law_2961 : decode cL_law 2961 = .ok (.aload_n 0, 1) := dec_42 (gB dr_46 17 rfl rfl)
theorem dL_law_2962 : decode cL_law 2962 = .ok (.iload 4, 2) := e_21 (x := 4) dr_46 18 rfl rfl
theorem dL_law_2964 : decode cL_law 2964 = .ok (.iconst 1, 1) := dec_4 (gB dr_46 20 rfl rfl)
theorem dL_law_2965 : decode cL_law 2965 = .ok (.iadd, 1) := dec_96 (gB dr_46 21 rfl rfl)
theorem dL_law_2966 : decode cL_law 2966 = .ok (.iaload, 1) := dec_46 (gB dr_46 22 rfl rfl)
theorem dL_law_2967 : decode cL_law 2967 = .ok (.invokevirtual 303, 3) := e_182 (x := 1) (y := 47) dr_46 23 rfl rfl
theorem dL_law_2970 : decode cL_law 2970 = .ok (.astore 6, 2) := e_58 (x := 6) dr_46 26 rfl rfl
theorem dL_law_2972 : decode cL_law 2972 = .ok (.aload_n 2, 1) := dec_44 (gB dr_46 28 rfl rfl)
theorem dL_law_2973 : decode cL_law 2973 = .ok (.invokevirtual 178, 3) := e_182 (x := 0) (y := 178) dr_46 29 rfl rfl
theorem dL_law_2976 : decode cL_law 2976 = .ok (.iload 5, 2) := e_21 (x := 5) dr_46 32 rfl rfl
theorem dL_law_2978 : decode cL_law 2978 = .ok (.if_icmp .eq 5, 3) := e_159 (x := 0) (y := 5) dr_46 34 rfl rfl
theorem dL_law_2981 : decode cL_law 2981 = .ok (.iconst 0, 1) := dec_3 (gB dr_46 37 rfl rfl)
theorem dL_law_2983 : decode cL_law 2983 = .ok (.iload 5, 2) := e_21 (x := 5) dr_46 39 rfl rfl
theorem dL_law_2985 : decode cL_law 2985 = .ok (.ifCond .ne 17, 3) := e_154 (x := 0) (y := 17) dr_46 41 rfl rfl
theorem dL_law_2988 : decode cL_law 2988 = .ok (.aload_n 3, 1) := dec_45 (gB dr_46 44 rfl rfl)
theorem dL_law_2989 : decode cL_law 2989 = .ok (.getfield 100, 3) := e_180 (x := 0) (y := 100) dr_46 45 rfl rfl
theorem dL_law_2992 : decode cL_law 2992 = .ok (.aload 6, 2) := e_25 (x := 6) dr_46 48 rfl rfl
theorem dL_law_2994 : decode cL_law 2994 = .ok (.invokevirtual 255, 3) := e_182 (x := 0) (y := 255) dr_46 50 rfl rfl
theorem dL_law_2997 : decode cL_law 2997 = .ok (.ifCond .ne 5, 3) := e_154 (x := 0) (y := 5) dr_46 53 rfl rfl
theorem dL_law_3000 : decode cL_law 3000 = .ok (.iconst 0, 1) := dec_3 (gB dr_46 56 rfl rfl)
theorem dL_law_3002 : decode cL_law 3002 = .ok (.goto 470, 3) := e_167 (x := 1) (y := 214) dr_46 58 rfl rfl
theorem dL_law_3005 : decode cL_law 3005 = .ok (.aload_n 1, 1) := dec_43 (gB dr_46 61 rfl rfl)
theorem dL_law_3006 : decode cL_law 3006 = .ok (.aload_n 0, 1) := dec_42 (gB dr_46 62 rfl rfl)
theorem dL_law_3007 : decode cL_law 3007 = .ok (.iload 4, 2) := dec_21 (a := 4) (gB dr_46 63 rfl rfl) (gB dr_47 0 rfl rfl)
theorem dL_law_3009 : decode cL_law 3009 = .ok (.iconst 1, 1) := dec_4 (gB dr_47 1 rfl rfl)
theorem dL_law_3010 : decode cL_law 3010 = .ok (.iadd, 1) := dec_96 (gB dr_47 2 rfl rfl)
theorem dL_law_3011 : decode cL_law 3011 = .ok (.iaload, 1) := dec_46 (gB dr_47 3 rfl rfl)
theorem dL_law_3012 : decode cL_law 3012 = .ok (.aload_n 0, 1) := dec_42 (gB dr_47 4 rfl rfl)
theorem dL_law_3013 : decode cL_law 3013 = .ok (.iload 4, 2) := e_21 (x := 4) dr_47 5 rfl rfl
theorem dL_law_3015 : decode cL_law 3015 = .ok (.iconst 2, 1) := dec_5 (gB dr_47 7 rfl rfl)
theorem dL_law_3016 : decode cL_law 3016 = .ok (.iadd, 1) := dec_96 (gB dr_47 8 rfl rfl)
theorem dL_law_3017 : decode cL_law 3017 = .ok (.iaload, 1) := dec_46 (gB dr_47 9 rfl rfl)
theorem dL_law_3018 : decode cL_law 3018 = .ok (.ifCond .eq 7, 3) := e_153 (x := 0) (y := 7) dr_47 10 rfl rfl
theorem dL_law_3021 : decode cL_law 3021 = .ok (.iconst 1, 1) := dec_4 (gB dr_47 13 rfl rfl)
theorem dL_law_3022 : decode cL_law 3022 = .ok (.goto 4, 3) := e_167 (x := 0) (y := 4) dr_47 14 rfl rfl
theorem dL_law_3025 : decode cL_law 3025 = .ok (.iconst 0, 1) := dec_3 (gB dr_47 17 rfl rfl)
theorem dL_law_3026 : decode cL_law 3026 = .ok (.aload_n 3, 1) := dec_45 (gB dr_47 18 rfl rfl)
theorem dL_law_3027 : decode cL_law 3027 = .ok (.invokestatic 304, 3) := e_184 (x := 1) (y := 48) dr_47 19 rfl rfl
theorem dL_law_3030 : decode cL_law 3030 = .ok (.istore 5, 2) := e_54 (x := 5) dr_47 22 rfl rfl
theorem dL_law_3032 : decode cL_law 3032 = .ok (.aload_n 2, 1) := dec_44 (gB dr_47 24 rfl rfl)
theorem dL_law_3033 : decode cL_law 3033 = .ok (.aload_n 0, 1) := dec_42 (gB dr_47 25 rfl rfl)
theorem dL_law_3034 : decode cL_law 3034 = .ok (.iload 4, 2) := e_21 (x := 4) dr_47 26 rfl rfl
theorem dL_law_3036 : decode cL_law 3036 = .ok (.iconst 1, 1) := dec_4 (gB dr_47 28 rfl rfl)
theorem dL_law_3037 : decode cL_law 3037 = .ok (.iadd, 1) := dec_96 (gB dr_47 29 rfl rfl)
theorem dL_law_3038 : decode cL_law 3038 = .ok (.iaload, 1) := dec_46 (gB dr_47 30 rfl rfl)
theorem dL_law_3039 : decode cL_law 3039 = .ok (.aload_n 0, 1) := dec_42 (gB dr_47 31 rfl rfl)
theorem dL_law_3040 : decode cL_law 3040 = .ok (.iload 4, 2) := e_21 (x := 4) dr_47 32 rfl rfl
theorem dL_law_3042 : decode cL_law 3042 = .ok (.iconst 2, 1) := dec_5 (gB dr_47 34 rfl rfl)
theorem dL_law_3043 : decode cL_law 3043 = .ok (.iadd, 1) := dec_96 (gB dr_47 35 rfl rfl)
theorem dL_law_3044 : decode cL_law 3044 = .ok (.iaload, 1) := dec_46 (gB dr_47 36 rfl rfl)
theorem dL_law_3045 : decode cL_law 3045 = .ok (.ifCond .eq 7, 3) := e_153 (x := 0) (y := 7) dr_47 37 rfl rfl
theorem dL_law_3048 : decode cL_law 3048 = .ok (.iconst 1, 1) := dec_4 (gB dr_47 40 rfl rfl)
theorem dL_law_3049 : decode cL_law 3049 = .ok (.goto 4, 3) := e_167 (x := 0) (y := 4) dr_47 41 rfl rfl
theorem dL_law_3052 : decode cL_law 3052 = .ok (.iconst 0, 1) := dec_3 (gB dr_47 44 rfl rfl)
theorem dL_law_3053 : decode cL_law 3053 = .ok (.invokevirtual 306, 3) := e_182 (x := 1) (y := 50) dr_47 45 rfl rfl
theorem dL_law_3056 : decode cL_law 3056 = .ok (.astore 6, 2) := e_58 (x := 6) dr_47 48 rfl rfl
theorem dL_law_3058 : decode cL_law 3058 = .ok (.aload_n 2, 1) := dec_44 (gB dr_47 50 rfl rfl)
theorem dL_law_3059 : decode cL_law 3059 = .ok (.invokevirtual 178, 3) := e_182 (x := 0) (y := 178) dr_47 51 rfl rfl
theorem dL_law_3062 : decode cL_law 3062 = .ok (.iload 5, 2) := e_21 (x := 5) dr_47 54 rfl rfl
theorem dL_law_3064 : decode cL_law 3064 = .ok (.if_icmp .eq 5, 3) := e_159 (x := 0) (y := 5) dr_47 56 rfl rfl
theorem dL_law_3067 : decode cL_law 3067 = .ok (.iconst 0, 1) := dec_3 (gB dr_47 59 rfl rfl)
theorem dL_law_3069 : decode cL_law 3069 = .ok (.iload 5, 2) := e_21 (x := 5) dr_47 61 rfl rfl
theorem dL_law_3071 : decode cL_law 3071 = .ok (.ifCond .ne 17, 3) := dec_154 (a := 0) (b := 17) (gB dr_47 63 rfl rfl) (gB dr_48 0 rfl rfl) (gB dr_48 1 rfl rfl)
theorem dL_law_3074 : decode cL_law 3074 = .ok (.aload_n 3, 1) := dec_45 (gB dr_48 2 rfl rfl)
theorem dL_law_3075 : decode cL_law 3075 = .ok (.getfield 100, 3) := e_180 (x := 0) (y := 100) dr_48 3 rfl rfl
theorem dL_law_3078 : decode cL_law 3078 = .ok (.aload 6, 2) := e_25 (x := 6) dr_48 6 rfl rfl
theorem dL_law_3080 : decode cL_law 3080 = .ok (.invokevirtual 255, 3) := e_182 (x := 0) (y := 255) dr_48 8 rfl rfl
theorem dL_law_3083 : decode cL_law 3083 = .ok (.ifCond .ne 5, 3) := e_154 (x := 0) (y := 5) dr_48 11 rfl rfl
theorem dL_law_3086 : decode cL_law 3086 = .ok (.iconst 0, 1) := dec_3 (gB dr_48 14 rfl rfl)
theorem dL_law_3088 : decode cL_law 3088 = .ok (.goto 384, 3) := e_167 (x := 1) (y := 128) dr_48 16 rfl rfl
theorem dL_law_3091 : decode cL_law 3091 = .ok (.aload_n 1, 1) := dec_43 (gB dr_48 19 rfl rfl)
theorem dL_law_3092 : decode cL_law 3092 = .ok (.aload_n 0, 1) := dec_42 (gB dr_48 20 rfl rfl)
theorem dL_law_3093 : decode cL_law 3093 = .ok (.iload 4, 2) := e_21 (x := 4) dr_48 21 rfl rfl
theorem dL_law_3095 : decode cL_law 3095 = .ok (.iconst 1, 1) := dec_4 (gB dr_48 23 rfl rfl)
theorem dL_law_3096 : decode cL_law 3096 = .ok (.iadd, 1) := dec_96 (gB dr_48 24 rfl rfl)
theorem dL_law_3097 : decode cL_law 3097 = .ok (.iaload, 1) := dec_46 (gB dr_48 25 rfl rfl)
theorem dL_law_3098 : decode cL_law 3098 = .ok (.aload_n 0, 1) := dec_42 (gB dr_48 26 rfl rfl)
theorem dL_law_3099 : decode cL_law 3099 = .ok (.iload 4, 2) := e_21 (x := 4) dr_48 27 rfl rfl
theorem dL_law_3101 : decode cL_law 3101 = .ok (.iconst 2, 1) := dec_5 (gB dr_48 29 rfl rfl)
theorem dL_law_3102 : decode cL_law 3102 = .ok (.iadd, 1) := dec_96 (gB dr_48 30 rfl rfl)
theorem dL_law_3103 : decode cL_law 3103 = .ok (.iaload, 1) := dec_46 (gB dr_48 31 rfl rfl)
theorem dL_law_3104 : decode cL_law 3104 = .ok (.ifCond .eq 7, 3) := e_153 (x := 0) (y := 7) dr_48 32 rfl rfl
theorem dL_law_3107 : decode cL_law 3107 = .ok (.iconst 1, 1) := dec_4 (gB dr_48 35 rfl rfl)
theorem dL_law_3108 : decode cL_law 3108 = .ok (.goto 4, 3) := e_167 (x := 0) (y := 4) dr_48 36 rfl rfl
theorem dL_law_3111 : decode cL_law 3111 = .ok (.iconst 0, 1) := dec_3 (gB dr_48 39 rfl rfl)
theorem dL_law_3112 : decode cL_law 3112 = .ok (.aload_n 3, 1) := dec_45 (gB dr_48 40 rfl rfl)
theorem dL_law_3113 : decode cL_law 3113 = .ok (.invokestatic 307, 3) := e_184 (x := 1) (y := 51) dr_48 41 rfl rfl
theorem dL_law_3116 : decode cL_law 3116 = .ok (.istore 5, 2) := e_54 (x := 5) dr_48 44 rfl rfl
theorem dL_law_3118 : decode cL_law 3118 = .ok (.aload_n 2, 1) := dec_44 (gB dr_48 46 rfl rfl)
theorem dL_law_3119 : decode cL_law 3119 = .ok (.aload_n 0, 1) := dec_42 (gB dr_48 47 rfl rfl)
theorem dL_law_3120 : decode cL_law 3120 = .ok (.iload 4, 2) := e_21 (x := 4) dr_48 48 rfl rfl
theorem dL_law_3122 : decode cL_law 3122 = .ok (.iconst 1, 1) := dec_4 (gB dr_48 50 rfl rfl)
theorem dL_law_3123 : decode cL_law 3123 = .ok (.iadd, 1) := dec_96 (gB dr_48 51 rfl rfl)
theorem dL_law_3124 : decode cL_law 3124 = .ok (.iaload, 1) := dec_46 (gB dr_48 52 rfl rfl)
theorem dL_law_3125 : decode cL_law 3125 = .ok (.aload_n 0, 1) := dec_42 (gB dr_48 53 rfl rfl)
theorem dL_law_3126 : decode cL_law 3126 = .ok (.iload 4, 2) := e_21 (x := 4) dr_48 54 rfl rfl
theorem dL_law_3128 : decode cL_law 3128 = .ok (.iconst 2, 1) := dec_5 (gB dr_48 56 rfl rfl)
theorem dL_law_3129 : decode cL_law 3129 = .ok (.iadd, 1) := dec_96 (gB dr_48 57 rfl rfl)
theorem dL_law_3130 : decode cL_law 3130 = .ok (.iaload, 1) := dec_46 (gB dr_48 58 rfl rfl)
theorem dL_law_3131 : decode cL_law 3131 = .ok (.ifCond .eq 7, 3) := e_153 (x := 0) (y := 7) dr_48 59 rfl rfl
theorem dL_law_3134 : decode cL_law 3134 = .ok (.iconst 1, 1) := dec_4 (gB dr_48 62 rfl rfl)
theorem dL_law_3135 : decode cL_law 3135 = .ok (.goto 4, 3) := dec_167 (a := 0) (b := 4) (gB dr_48 63 rfl rfl) (gB dr_49 0 rfl rfl) (gB dr_49 1 rfl rfl)
theorem dL_law_3138 : decode cL_law 3138 = .ok (.iconst 0, 1) := dec_3 (gB dr_49 2 rfl rfl)
theorem dL_law_3139 : decode cL_law 3139 = .ok (.invokevirtual 309, 3) := e_182 (x := 1) (y := 53) dr_49 3 rfl rfl
theorem dL_law_3142 : decode cL_law 3142 = .ok (.istore 6, 2) := e_54 (x := 6) dr_49 6 rfl rfl
theorem dL_law_3144 : decode cL_law 3144 = .ok (.aload_n 2, 1) := dec_44 (gB dr_49 8 rfl rfl)
theorem dL_law_3145 : decode cL_law 3145 = .ok (.invokevirtual 178, 3) := e_182 (x := 0) (y := 178) dr_49 9 rfl rfl
theorem dL_law_3148 : decode cL_law 3148 = .ok (.iload 5, 2) := e_21 (x := 5) dr_49 12 rfl rfl
theorem dL_law_3150 : decode cL_law 3150 = .ok (.if_icmp .eq 5, 3) := e_159 (x := 0) (y := 5) dr_49 14 rfl rfl
theorem dL_law_3153 : decode cL_law 3153 = .ok (.iconst 0, 1) := dec_3 (gB dr_49 17 rfl rfl)
theorem dL_law_3155 : decode cL_law 3155 = .ok (.iload 5, 2) := e_21 (x := 5) dr_49 19 rfl rfl
theorem dL_law_3157 : decode cL_law 3157 = .ok (.ifCond .ne 16, 3) := e_154 (x := 0) (y := 16) dr_49 21 rfl rfl
theorem dL_law_3160 : decode cL_law 3160 = .ok (.aload_n 3, 1) := dec_45 (gB dr_49 24 rfl rfl)
theorem dL_law_3161 : decode cL_law 3161 = .ok (.getfield 13, 3) := e_180 (x := 0) (y := 13) dr_49 25 rfl rfl
theorem dL_law_3164 : decode cL_law 3164 = .ok (.iload 6, 2) := e_21 (x := 6) dr_49 28 rfl rfl
theorem dL_law_3166 : decode cL_law 3166 = .ok (.i2l, 1) := dec_133 (gB dr_49 30 rfl rfl)
theorem dL_law_3167 : decode cL_law 3167 = .ok (.lcmp, 1) := dec_148 (gB dr_49 31 rfl rfl)
theorem dL_law_3168 : decode cL_law 3168 = .ok (.ifCond .eq 5, 3) := e_153 (x := 0) (y := 5) dr_49 32 rfl rfl
theorem dL_law_3171 : decode cL_law 3171 = .ok (.iconst 0, 1) := dec_3 (gB dr_49 35 rfl rfl)
theorem dL_law_3173 : decode cL_law 3173 = .ok (.goto 299, 3) := e_167 (x := 1) (y := 43) dr_49 37 rfl rfl
theorem dL_law_3176 : decode cL_law 3176 = .ok (.aload_n 1, 1) := dec_43 (gB dr_49 40 rfl rfl)
theorem dL_law_3177 : decode cL_law 3177 = .ok (.aload_n 0, 1) := dec_42 (gB dr_49 41 rfl rfl)
theorem dL_law_3178 : decode cL_law 3178 = .ok (.iload 4, 2) := e_21 (x := 4) dr_49 42 rfl rfl
theorem dL_law_3180 : decode cL_law 3180 = .ok (.iconst 1, 1) := dec_4 (gB dr_49 44 rfl rfl)
theorem dL_law_3181 : decode cL_law 3181 = .ok (.iadd, 1) := dec_96 (gB dr_49 45 rfl rfl)
theorem dL_law_3182 : decode cL_law 3182 = .ok (.iaload, 1) := dec_46 (gB dr_49 46 rfl rfl)
theorem dL_law_3183 : decode cL_law 3183 = .ok (.aload_n 0, 1) := dec_42 (gB dr_49 47 rfl rfl)
theorem dL_law_3184 : decode cL_law 3184 = .ok (.iload 4, 2) := e_21 (x := 4) dr_49 48 rfl rfl
theorem dL_law_3186 : decode cL_law 3186 = .ok (.iconst 2, 1) := dec_5 (gB dr_49 50 rfl rfl)
theorem dL_law_3187 : decode cL_law 3187 = .ok (.iadd, 1) := dec_96 (gB dr_49 51 rfl rfl)
theorem dL_law_3188 : decode cL_law 3188 = .ok (.iaload, 1) := dec_46 (gB dr_49 52 rfl rfl)
theorem dL_law_3189 : decode cL_law 3189 = .ok (.ifCond .eq 7, 3) := e_153 (x := 0) (y := 7) dr_49 53 rfl rfl
theorem dL_law_3192 : decode cL_law 3192 = .ok (.iconst 1, 1) := dec_4 (gB dr_49 56 rfl rfl)
theorem dL_law_3193 : decode cL_law 3193 = .ok (.goto 4, 3) := e_167 (x := 0) (y := 4) dr_49 57 rfl rfl
theorem dL_law_3196 : decode cL_law 3196 = .ok (.iconst 0, 1) := dec_3 (gB dr_49 60 rfl rfl)
theorem dL_law_3197 : decode cL_law 3197 = .ok (.aload_n 3, 1) := dec_45 (gB dr_49 61 rfl rfl)
theorem dL_law_3198 : decode cL_law 3198 = .ok (.invokestatic 310, 3) := dec_184 (a := 1) (b := 54) (gB dr_49 62 rfl rfl) (gB dr_49 63 rfl rfl) (gB dr_50 0 rfl rfl)
theorem dL_law_3201 : decode cL_law 3201 = .ok (.istore 5, 2) := e_54 (x := 5) dr_50 1 rfl rfl
theorem dL_law_3203 : decode cL_law 3203 = .ok (.aload_n 2, 1) := dec_44 (gB dr_50 3 rfl rfl)
theorem dL_law_3204 : decode cL_law 3204 = .ok (.aload_n 0, 1) := dec_42 (gB dr_50 4 rfl rfl)
theorem dL_law_3205 : decode cL_law 3205 = .ok (.iload 4, 2) := e_21 (x := 4) dr_50 5 rfl rfl
theorem dL_law_3207 : decode cL_law 3207 = .ok (.iconst 1, 1) := dec_4 (gB dr_50 7 rfl rfl)
theorem dL_law_3208 : decode cL_law 3208 = .ok (.iadd, 1) := dec_96 (gB dr_50 8 rfl rfl)
theorem dL_law_3209 : decode cL_law 3209 = .ok (.iaload, 1) := dec_46 (gB dr_50 9 rfl rfl)
theorem dL_law_3210 : decode cL_law 3210 = .ok (.aload_n 0, 1) := dec_42 (gB dr_50 10 rfl rfl)
theorem dL_law_3211 : decode cL_law 3211 = .ok (.iload 4, 2) := e_21 (x := 4) dr_50 11 rfl rfl
theorem dL_law_3213 : decode cL_law 3213 = .ok (.iconst 2, 1) := dec_5 (gB dr_50 13 rfl rfl)
theorem dL_law_3214 : decode cL_law 3214 = .ok (.iadd, 1) := dec_96 (gB dr_50 14 rfl rfl)
theorem dL_law_3215 : decode cL_law 3215 = .ok (.iaload, 1) := dec_46 (gB dr_50 15 rfl rfl)
theorem dL_law_3216 : decode cL_law 3216 = .ok (.ifCond .eq 7, 3) := e_153 (x := 0) (y := 7) dr_50 16 rfl rfl
theorem dL_law_3219 : decode cL_law 3219 = .ok (.iconst 1, 1) := dec_4 (gB dr_50 19 rfl rfl)
theorem dL_law_3220 : decode cL_law 3220 = .ok (.goto 4, 3) := e_167 (x := 0) (y := 4) dr_50 20 rfl rfl
theorem dL_law_3223 : decode cL_law 3223 = .ok (.iconst 0, 1) := dec_3 (gB dr_50 23 rfl rfl)
theorem dL_law_3224 : decode cL_law 3224 = .ok (.invokevirtual 312, 3) := e_182 (x := 1) (y := 56) dr_50 24 rfl rfl
theorem dL_law_3227 : decode cL_law 3227 = .ok (.istore 6, 2) := e_54 (x := 6) dr_50 27 rfl rfl
theorem dL_law_3229 : decode cL_law 3229 = .ok (.aload_n 2, 1) := dec_44 (gB dr_50 29 rfl rfl)
theorem dL_law_3230 : decode cL_law 3230 = .ok (.invokevirtual 178, 3) := e_182 (x := 0) (y := 178) dr_50 30 rfl rfl
theorem dL_law_3233 : decode cL_law 3233 = .ok (.iload 5, 2) := e_21 (x := 5) dr_50 33 rfl rfl
theorem dL_law_3235 : decode cL_law 3235 = .ok (.if_icmp .eq 5, 3) := e_159 (x := 0) (y := 5) dr_50 35 rfl rfl
theorem dL_law_3238 : decode cL_law 3238 = .ok (.iconst 0, 1) := dec_3 (gB dr_50 38 rfl rfl)
theorem dL_law_3240 : decode cL_law 3240 = .ok (.iload 5, 2) := e_21 (x := 5) dr_50 40 rfl rfl
theorem dL_law_3242 : decode cL_law 3242 = .ok (.ifCond .ne 16, 3) := e_154 (x := 0) (y := 16) dr_50 42 rfl rfl
theorem dL_law_3245 : decode cL_law 3245 = .ok (.aload_n 3, 1) := dec_45 (gB dr_50 45 rfl rfl)
theorem dL_law_3246 : decode cL_law 3246 = .ok (.getfield 13, 3) := e_180 (x := 0) (y := 13) dr_50 46 rfl rfl
theorem dL_law_3249 : decode cL_law 3249 = .ok (.iload 6, 2) := e_21 (x := 6) dr_50 49 rfl rfl
theorem dL_law_3251 : decode cL_law 3251 = .ok (.i2l, 1) := dec_133 (gB dr_50 51 rfl rfl)
theorem dL_law_3252 : decode cL_law 3252 = .ok (.lcmp, 1) := dec_148 (gB dr_50 52 rfl rfl)
theorem dL_law_3253 : decode cL_law 3253 = .ok (.ifCond .eq 5, 3) := e_153 (x := 0) (y := 5) dr_50 53 rfl rfl
theorem dL_law_3256 : decode cL_law 3256 = .ok (.iconst 0, 1) := dec_3 (gB dr_50 56 rfl rfl)
theorem dL_law_3258 : decode cL_law 3258 = .ok (.goto 214, 3) := e_167 (x := 0) (y := 214) dr_50 58 rfl rfl
theorem dL_law_3261 : decode cL_law 3261 = .ok (.aload_n 1, 1) := dec_43 (gB dr_50 61 rfl rfl)
theorem dL_law_3262 : decode cL_law 3262 = .ok (.aload_n 0, 1) := dec_42 (gB dr_50 62 rfl rfl)
theorem dL_law_3263 : decode cL_law 3263 = .ok (.iload 4, 2) := dec_21 (a := 4) (gB dr_50 63 rfl rfl) (gB dr_51 0 rfl rfl)
theorem dL_law_3265 : decode cL_law 3265 = .ok (.iconst 1, 1) := dec_4 (gB dr_51 1 rfl rfl)
theorem dL_law_3266 : decode cL_law 3266 = .ok (.iadd, 1) := dec_96 (gB dr_51 2 rfl rfl)
theorem dL_law_3267 : decode cL_law 3267 = .ok (.iaload, 1) := dec_46 (gB dr_51 3 rfl rfl)
theorem dL_law_3268 : decode cL_law 3268 = .ok (.aload_n 3, 1) := dec_45 (gB dr_51 4 rfl rfl)
theorem dL_law_3269 : decode cL_law 3269 = .ok (.invokestatic 313, 3) := e_184 (x := 1) (y := 57) dr_51 5 rfl rfl
theorem dL_law_3272 : decode cL_law 3272 = .ok (.istore 5, 2) := e_54 (x := 5) dr_51 8 rfl rfl
theorem dL_law_3274 : decode cL_law 3274 = .ok (.aload_n 2, 1) := dec_44 (gB dr_51 10 rfl rfl)
theorem dL_law_3275 : decode cL_law 3275 = .ok (.aload_n 0, 1) := dec_42 (gB dr_51 11 rfl rfl)
theorem dL_law_3276 : decode cL_law 3276 = .ok (.iload 4, 2) := e_21 (x := 4) dr_51 12 rfl rfl
theorem dL_law_3278 : decode cL_law 3278 = .ok (.iconst 1, 1) := dec_4 (gB dr_51 14 rfl rfl)
theorem dL_law_3279 : decode cL_law 3279 = .ok (.iadd, 1) := dec_96 (gB dr_51 15 rfl rfl)
theorem dL_law_3280 : decode cL_law 3280 = .ok (.iaload, 1) := dec_46 (gB dr_51 16 rfl rfl)
theorem dL_law_3281 : decode cL_law 3281 = .ok (.invokevirtual 315, 3) := e_182 (x := 1) (y := 59) dr_51 17 rfl rfl
theorem dL_law_3284 : decode cL_law 3284 = .ok (.istore 6, 2) := e_54 (x := 6) dr_51 20 rfl rfl
theorem dL_law_3286 : decode cL_law 3286 = .ok (.aload_n 2, 1) := dec_44 (gB dr_51 22 rfl rfl)
theorem dL_law_3287 : decode cL_law 3287 = .ok (.invokevirtual 178, 3) := e_182 (x := 0) (y := 178) dr_51 23 rfl rfl
theorem dL_law_3290 : decode cL_law 3290 = .ok (.iload 5, 2) := e_21 (x := 5) dr_51 26 rfl rfl
theorem dL_law_3292 : decode cL_law 3292 = .ok (.if_icmp .eq 5, 3) := e_159 (x := 0) (y := 5) dr_51 28 rfl rfl
theorem dL_law_3295 : decode cL_law 3295 = .ok (.iconst 0, 1) := dec_3 (gB dr_51 31 rfl rfl)
theorem dL_law_3297 : decode cL_law 3297 = .ok (.iload 5, 2) := e_21 (x := 5) dr_51 33 rfl rfl
theorem dL_law_3299 : decode cL_law 3299 = .ok (.ifCond .ne 16, 3) := e_154 (x := 0) (y := 16) dr_51 35 rfl rfl
theorem dL_law_3302 : decode cL_law 3302 = .ok (.aload_n 3, 1) := dec_45 (gB dr_51 38 rfl rfl)
theorem dL_law_3303 : decode cL_law 3303 = .ok (.getfield 13, 3) := e_180 (x := 0) (y := 13) dr_51 39 rfl rfl
theorem dL_law_3306 : decode cL_law 3306 = .ok (.iload 6, 2) := e_21 (x := 6) dr_51 42 rfl rfl
theorem dL_law_3308 : decode cL_law 3308 = .ok (.i2l, 1) := dec_133 (gB dr_51 44 rfl rfl)
theorem dL_law_3309 : decode cL_law 3309 = .ok (.lcmp, 1) := dec_148 (gB dr_51 45 rfl rfl)
theorem dL_law_3310 : decode cL_law 3310 = .ok (.ifCond .eq 5, 3) := e_153 (x := 0) (y := 5) dr_51 46 rfl rfl
theorem dL_law_3313 : decode cL_law 3313 = .ok (.iconst 0, 1) := dec_3 (gB dr_51 49 rfl rfl)
theorem dL_law_3315 : decode cL_law 3315 = .ok (.goto 157, 3) := e_167 (x := 0) (y := 157) dr_51 51 rfl rfl
theorem dL_law_3318 : decode cL_law 3318 = .ok (.aload_n 1, 1) := dec_43 (gB dr_51 54 rfl rfl)
theorem dL_law_3319 : decode cL_law 3319 = .ok (.aload_n 0, 1) := dec_42 (gB dr_51 55 rfl rfl)
theorem dL_law_3320 : decode cL_law 3320 = .ok (.iload 4, 2) := e_21 (x := 4) dr_51 56 rfl rfl
theorem dL_law_3322 : decode cL_law 3322 = .ok (.iconst 1, 1) := dec_4 (gB dr_51 58 rfl rfl)
theorem dL_law_3323 : decode cL_law 3323 = .ok (.iadd, 1) := dec_96 (gB dr_51 59 rfl rfl)
theorem dL_law_3324 : decode cL_law 3324 = .ok (.iaload, 1) := dec_46 (gB dr_51 60 rfl rfl)
theorem dL_law_3325 : decode cL_law 3325 = .ok (.aload_n 3, 1) := dec_45 (gB dr_51 61 rfl rfl)
theorem dL_law_3326 : decode cL_law 3326 = .ok (.invokestatic 316, 3) := dec_184 (a := 1) (b := 60) (gB dr_51 62 rfl rfl) (gB dr_51 63 rfl rfl) (gB dr_52 0 rfl rfl)
theorem dL_law_3329 : decode cL_law 3329 = .ok (.istore 5, 2) := e_54 (x := 5) dr_52 1 rfl rfl
theorem dL_law_3331 : decode cL_law 3331 = .ok (.aload_n 2, 1) := dec_44 (gB dr_52 3 rfl rfl)
theorem dL_law_3332 : decode cL_law 3332 = .ok (.aload_n 0, 1) := dec_42 (gB dr_52 4 rfl rfl)
theorem dL_law_3333 : decode cL_law 3333 = .ok (.iload 4, 2) := e_21 (x := 4) dr_52 5 rfl rfl
theorem dL_law_3335 : decode cL_law 3335 = .ok (.iconst 1, 1) := dec_4 (gB dr_52 7 rfl rfl)
theorem dL_law_3336 : decode cL_law 3336 = .ok (.iadd, 1) := dec_96 (gB dr_52 8 rfl rfl)
theorem dL_law_3337 : decode cL_law 3337 = .ok (.iaload, 1) := dec_46 (gB dr_52 9 rfl rfl)
theorem dL_law_3338 : decode cL_law 3338 = .ok (.invokevirtual 318, 3) := e_182 (x := 1) (y := 62) dr_52 10 rfl rfl
theorem dL_law_3341 : decode cL_law 3341 = .ok (.istore 6, 2) := e_54 (x := 6) dr_52 13 rfl rfl
theorem dL_law_3343 : decode cL_law 3343 = .ok (.aload_n 2, 1) := dec_44 (gB dr_52 15 rfl rfl)
theorem dL_law_3344 : decode cL_law 3344 = .ok (.invokevirtual 178, 3) := e_182 (x := 0) (y := 178) dr_52 16 rfl rfl
theorem dL_law_3347 : decode cL_law 3347 = .ok (.iload 5, 2) := e_21 (x := 5) dr_52 19 rfl rfl
theorem dL_law_3349 : decode cL_law 3349 = .ok (.if_icmp .eq 5, 3) := e_159 (x := 0) (y := 5) dr_52 21 rfl rfl
theorem dL_law_3352 : decode cL_law 3352 = .ok (.iconst 0, 1) := dec_3 (gB dr_52 24 rfl rfl)
theorem dL_law_3354 : decode cL_law 3354 = .ok (.iload 5, 2) := e_21 (x := 5) dr_52 26 rfl rfl
theorem dL_law_3356 : decode cL_law 3356 = .ok (.ifCond .ne 16, 3) := e_154 (x := 0) (y := 16) dr_52 28 rfl rfl
theorem dL_law_3359 : decode cL_law 3359 = .ok (.aload_n 3, 1) := dec_45 (gB dr_52 31 rfl rfl)
theorem dL_law_3360 : decode cL_law 3360 = .ok (.getfield 13, 3) := e_180 (x := 0) (y := 13) dr_52 32 rfl rfl
theorem dL_law_3363 : decode cL_law 3363 = .ok (.iload 6, 2) := e_21 (x := 6) dr_52 35 rfl rfl
theorem dL_law_3365 : decode cL_law 3365 = .ok (.i2l, 1) := dec_133 (gB dr_52 37 rfl rfl)
theorem dL_law_3366 : decode cL_law 3366 = .ok (.lcmp, 1) := dec_148 (gB dr_52 38 rfl rfl)
theorem dL_law_3367 : decode cL_law 3367 = .ok (.ifCond .eq 5, 3) := e_153 (x := 0) (y := 5) dr_52 39 rfl rfl
theorem dL_law_3370 : decode cL_law 3370 = .ok (.iconst 0, 1) := dec_3 (gB dr_52 42 rfl rfl)
theorem dL_law_3372 : decode cL_law 3372 = .ok (.goto 100, 3) := e_167 (x := 0) (y := 100) dr_52 44 rfl rfl
theorem dL_law_3375 : decode cL_law 3375 = .ok (.aload_n 1, 1) := dec_43 (gB dr_52 47 rfl rfl)
theorem dL_law_3376 : decode cL_law 3376 = .ok (.aload_n 0, 1) := dec_42 (gB dr_52 48 rfl rfl)
theorem dL_law_3377 : decode cL_law 3377 = .ok (.iload 4, 2) := e_21 (x := 4) dr_52 49 rfl rfl
theorem dL_law_3379 : decode cL_law 3379 = .ok (.iconst 1, 1) := dec_4 (gB dr_52 51 rfl rfl)
theorem dL_law_3380 : decode cL_law 3380 = .ok (.iadd, 1) := dec_96 (gB dr_52 52 rfl rfl)
theorem dL_law_3381 : decode cL_law 3381 = .ok (.iaload, 1) := dec_46 (gB dr_52 53 rfl rfl)
theorem dL_law_3382 : decode cL_law 3382 = .ok (.aload_n 3, 1) := dec_45 (gB dr_52 54 rfl rfl)
theorem dL_law_3383 : decode cL_law 3383 = .ok (.invokestatic 319, 3) := e_184 (x := 1) (y := 63) dr_52 55 rfl rfl
theorem dL_law_3386 : decode cL_law 3386 = .ok (.istore 5, 2) := e_54 (x := 5) dr_52 58 rfl rfl
theorem dL_law_3388 : decode cL_law 3388 = .ok (.aload_n 2, 1) := dec_44 (gB dr_52 60 rfl rfl)
theorem dL_law_3389 : decode cL_law 3389 = .ok (.aload_n 0, 1) := dec_42 (gB dr_52 61 rfl rfl)
theorem dL_law_3390 : decode cL_law 3390 = .ok (.iload 4, 2) := e_21 (x := 4) dr_52 62 rfl rfl
theorem dL_law_3392 : decode cL_law 3392 = .ok (.iconst 1, 1) := dec_4 (gB dr_53 0 rfl rfl)
theorem dL_law_3393 : decode cL_law 3393 = .ok (.iadd, 1) := dec_96 (gB dr_53 1 rfl rfl)
theorem dL_law_3394 : decode cL_law 3394 = .ok (.iaload, 1) := dec_46 (gB dr_53 2 rfl rfl)
theorem dL_law_3395 : decode cL_law 3395 = .ok (.invokevirtual 321, 3) := e_182 (x := 1) (y := 65) dr_53 3 rfl rfl
theorem dL_law_3398 : decode cL_law 3398 = .ok (.istore 6, 2) := e_54 (x := 6) dr_53 6 rfl rfl
theorem dL_law_3400 : decode cL_law 3400 = .ok (.aload_n 2, 1) := dec_44 (gB dr_53 8 rfl rfl)
theorem dL_law_3401 : decode cL_law 3401 = .ok (.invokevirtual 178, 3) := e_182 (x := 0) (y := 178) dr_53 9 rfl rfl
theorem dL_law_3404 : decode cL_law 3404 = .ok (.iload 5, 2) := e_21 (x := 5) dr_53 12 rfl rfl
theorem dL_law_3406 : decode cL_law 3406 = .ok (.if_icmp .eq 5, 3) := e_159 (x := 0) (y := 5) dr_53 14 rfl rfl
theorem dL_law_3409 : decode cL_law 3409 = .ok (.iconst 0, 1) := dec_3 (gB dr_53 17 rfl rfl)
theorem dL_law_3411 : decode cL_law 3411 = .ok (.iload 5, 2) := e_21 (x := 5) dr_53 19 rfl rfl
theorem dL_law_3413 : decode cL_law 3413 = .ok (.ifCond .ne 16, 3) := e_154 (x := 0) (y := 16) dr_53 21 rfl rfl
theorem dL_law_3416 : decode cL_law 3416 = .ok (.aload_n 3, 1) := dec_45 (gB dr_53 24 rfl rfl)
theorem dL_law_3417 : decode cL_law 3417 = .ok (.getfield 13, 3) := e_180 (x := 0) (y := 13) dr_53 25 rfl rfl
theorem dL_law_3420 : decode cL_law 3420 = .ok (.iload 6, 2) := e_21 (x := 6) dr_53 28 rfl rfl
theorem dL_law_3422 : decode cL_law 3422 = .ok (.i2l, 1) := dec_133 (gB dr_53 30 rfl rfl)
theorem dL_law_3423 : decode cL_law 3423 = .ok (.lcmp, 1) := dec_148 (gB dr_53 31 rfl rfl)
theorem dL_law_3424 : decode cL_law 3424 = .ok (.ifCond .eq 5, 3) := e_153 (x := 0) (y := 5) dr_53 32 rfl rfl
theorem dL_law_3427 : decode cL_law 3427 = .ok (.iconst 0, 1) := dec_3 (gB dr_53 35 rfl rfl)
theorem dL_law_3429 : decode cL_law 3429 = .ok (.goto 43, 3) := e_167 (x := 0) (y := 43) dr_53 37 rfl rfl
theorem dL_law_3432 : decode cL_law 3432 = .ok (.aload_n 1, 1) := dec_43 (gB dr_53 40 rfl rfl)
theorem dL_law_3433 : decode cL_law 3433 = .ok (.invokevirtual 322, 3) := e_182 (x := 1) (y := 66) dr_53 41 rfl rfl
theorem dL_law_3436 : decode cL_law 3436 = .ok (.aload_n 2, 1) := dec_44 (gB dr_53 44 rfl rfl)
theorem dL_law_3437 : decode cL_law 3437 = .ok (.invokevirtual 325, 3) := e_182 (x := 1) (y := 69) dr_53 45 rfl rfl
theorem dL_law_3440 : decode cL_law 3440 = .ok (.if_icmp .eq 32, 3) := e_159 (x := 0) (y := 32) dr_53 48 rfl rfl
theorem dL_law_3445 : decode cL_law 3445 = .ok (.aload_n 1, 1) := dec_43 (gB dr_53 53 rfl rfl)
theorem dL_law_3446 : decode cL_law 3446 = .ok (.invokevirtual 326, 3) := e_182 (x := 1) (y := 70) dr_53 54 rfl rfl
theorem dL_law_3449 : decode cL_law 3449 = .ok (.aload_n 2, 1) := dec_44 (gB dr_53 57 rfl rfl)
theorem dL_law_3450 : decode cL_law 3450 = .ok (.invokevirtual 330, 3) := e_182 (x := 1) (y := 74) dr_53 58 rfl rfl
theorem dL_law_3453 : decode cL_law 3453 = .ok (.if_icmp .eq 19, 3) := e_159 (x := 0) (y := 19) dr_53 61 rfl rfl
theorem dL_law_3456 : decode cL_law 3456 = .ok (.iconst 0, 1) := dec_3 (gB dr_54 0 rfl rfl)
theorem dL_law_3458 : decode cL_law 3458 = .ok (.aload_n 1, 1) := dec_43 (gB dr_54 2 rfl rfl)
theorem dL_law_3459 : decode cL_law 3459 = .ok (.invokevirtual 331, 3) := e_182 (x := 1) (y := 75) dr_54 3 rfl rfl
theorem dL_law_3462 : decode cL_law 3462 = .ok (.aload_n 2, 1) := dec_44 (gB dr_54 6 rfl rfl)
theorem dL_law_3463 : decode cL_law 3463 = .ok (.invokevirtual 335, 3) := e_182 (x := 1) (y := 79) dr_54 7 rfl rfl
theorem dL_law_3466 : decode cL_law 3466 = .ok (.lcmp, 1) := dec_148 (gB dr_54 10 rfl rfl)
theorem dL_law_3467 : decode cL_law 3467 = .ok (.ifCond .eq 5, 3) := e_153 (x := 0) (y := 5) dr_54 11 rfl rfl
theorem dL_law_3470 : decode cL_law 3470 = .ok (.iconst 0, 1) := dec_3 (gB dr_54 14 rfl rfl)
theorem dL_law_3472 : decode cL_law 3472 = .ok (.iinc 4 5, 3) := e_132 (x := 4) (y := 5) dr_54 16 rfl rfl
theorem dL_law_3475 : decode cL_law 3475 = .ok (.goto (-3448), 3) := e_167 (x := 242) (y := 136) dr_54 19 rfl rfl
theorem dL_law_3478 : decode cL_law 3478 = .ok (.iconst 1, 1) := dec_4 (gB dr_54 22 rfl rfl)
theorem dL_law_3479 : decode cL_law 3479 = .ok (.ireturn, 1) := dec_172 (gB dr_54 23 rfl rfl)
def lkcL_write_0 : List UInt8 := [0x2d, 0x2a, 0x1b, 0x1c, 0xb6, 0x00, 0x07, 0x85, 0xb5, 0x00, 0x0d, 0xa7, 0x00, 0x0b, 0x3a, 0x04, 0x04, 0xac, 0x3a, 0x04, 0x05, 0xac, 0x03, 0xac]
def tkcL_write_0 : List UInt8 := lkcL_write_0 ++ []
theorem drcL_write_0 : (cL_write).data.toList.drop 0 = lkcL_write_0 ++ [] := by decide +kernel
theorem dL_write_0 : decode cL_write 0 = .ok (.aload_n 3, 1) := dec_45 (gB drcL_write_0 0 rfl rfl)
theorem dL_write_1 : decode cL_write 1 = .ok (.aload_n 0, 1) := dec_42 (gB drcL_write_0 1 rfl rfl)
theorem dL_write_2 : decode cL_write 2 = .ok (.iload_n 1, 1) := dec_27 (gB drcL_write_0 2 rfl rfl)
theorem dL_write_3 : decode cL_write 3 = .ok (.iload_n 2, 1) := dec_28 (gB drcL_write_0 3 rfl rfl)
theorem dL_write_4 : decode cL_write 4 = .ok (.invokevirtual 7, 3) := e_182 (x := 0) (y := 7) drcL_write_0 4 rfl rfl
theorem dL_write_7 : decode cL_write 7 = .ok (.i2l, 1) := dec_133 (gB drcL_write_0 7 rfl rfl)
theorem dL_write_8 : decode cL_write 8 = .ok (.putfield 13, 3) := e_181 (x := 0) (y := 13) drcL_write_0 8 rfl rfl
theorem dL_write_11 : decode cL_write 11 = .ok (.goto 11, 3) := e_167 (x := 0) (y := 11) drcL_write_0 11 rfl rfl
theorem dL_write_14 : decode cL_write 14 = .ok (.astore 4, 2) := e_58 (x := 4) drcL_write_0 14 rfl rfl
theorem dL_write_16 : decode cL_write 16 = .ok (.iconst 1, 1) := dec_4 (gB drcL_write_0 16 rfl rfl)
theorem dL_write_17 : decode cL_write 17 = .ok (.ireturn, 1) := dec_172 (gB drcL_write_0 17 rfl rfl)
theorem dL_write_18 : decode cL_write 18 = .ok (.astore 4, 2) := e_58 (x := 4) drcL_write_0 18 rfl rfl
theorem dL_write_20 : decode cL_write 20 = .ok (.iconst 2, 1) := dec_5 (gB drcL_write_0 20 rfl rfl)
theorem dL_write_21 : decode cL_write 21 = .ok (.ireturn, 1) := dec_172 (gB drcL_write_0 21 rfl rfl)
theorem dL_write_22 : decode cL_write 22 = .ok (.iconst 0, 1) := dec_3 (gB drcL_write_0 22 rfl rfl)
theorem dL_write_23 : decode cL_write 23 = .ok (.ireturn, 1) := dec_172 (gB drcL_write_0 23 rfl rfl)
def lkcL_append_0 : List UInt8 := [0x2d, 0x2a, 0x1b, 0x1c, 0xb6, 0x00, 0x17, 0x85, 0xb5, 0x00, 0x0d, 0xa7, 0x00, 0x07, 0x3a, 0x04, 0x04, 0xac, 0x03, 0xac]
def tkcL_append_0 : List UInt8 := lkcL_append_0 ++ []
theorem drcL_append_0 : (cL_append).data.toList.drop 0 = lkcL_append_0 ++ [] := by decide +kernel
theorem dL_append_0 : decode cL_append 0 = .ok (.aload_n 3, 1) := dec_45 (gB drcL_append_0 0 rfl rfl)
theorem dL_append_1 : decode cL_append 1 = .ok (.aload_n 0, 1) := dec_42 (gB drcL_append_0 1 rfl rfl)
theorem dL_append_2 : decode cL_append 2 = .ok (.iload_n 1, 1) := dec_27 (gB drcL_append_0 2 rfl rfl)
theorem dL_append_3 : decode cL_append 3 = .ok (.iload_n 2, 1) := dec_28 (gB drcL_append_0 3 rfl rfl)
theorem dL_append_4 : decode cL_append 4 = .ok (.invokevirtual 23, 3) := e_182 (x := 0) (y := 23) drcL_append_0 4 rfl rfl
theorem dL_append_7 : decode cL_append 7 = .ok (.i2l, 1) := dec_133 (gB drcL_append_0 7 rfl rfl)
theorem dL_append_8 : decode cL_append 8 = .ok (.putfield 13, 3) := e_181 (x := 0) (y := 13) drcL_append_0 8 rfl rfl
theorem dL_append_11 : decode cL_append 11 = .ok (.goto 7, 3) := e_167 (x := 0) (y := 7) drcL_append_0 11 rfl rfl
theorem dL_append_14 : decode cL_append 14 = .ok (.astore 4, 2) := e_58 (x := 4) drcL_append_0 14 rfl rfl
theorem dL_append_16 : decode cL_append 16 = .ok (.iconst 1, 1) := dec_4 (gB drcL_append_0 16 rfl rfl)
theorem dL_append_17 : decode cL_append 17 = .ok (.ireturn, 1) := dec_172 (gB drcL_append_0 17 rfl rfl)
theorem dL_append_18 : decode cL_append 18 = .ok (.iconst 0, 1) := dec_3 (gB drcL_append_0 18 rfl rfl)
theorem dL_append_19 : decode cL_append 19 = .ok (.ireturn, 1) := dec_172 (gB drcL_append_0 19 rfl rfl)
def lkcL_insertSign_0 : List UInt8 := [0x19, 0x04, 0x2a, 0x1b, 0x1c, 0x1d, 0xb6, 0x00, 0x1a, 0x85, 0xb5, 0x00, 0x0d, 0xa7, 0x00, 0x07, 0x3a, 0x05, 0x04, 0xac, 0x03, 0xac]
def tkcL_insertSign_0 : List UInt8 := lkcL_insertSign_0 ++ []
theorem drcL_insertSign_0 : (cL_insertSign).data.toList.drop 0 = lkcL_insertSign_0 ++ [] := by decide +kernel
theorem dL_insertSign_0 : decode cL_insertSign 0 = .ok (.aload 4, 2) := e_25 (x := 4) drcL_insertSign_0 0 rfl rfl
theorem dL_insertSign_2 : decode cL_insertSign 2 = .ok (.aload_n 0, 1) := dec_42 (gB drcL_insertSign_0 2 rfl rfl)
theorem dL_insertSign_3 : decode cL_insertSign 3 = .ok (.iload_n 1, 1) := dec_27 (gB drcL_insertSign_0 3 rfl rfl)
theorem dL_insertSign_4 : decode cL_insertSign 4 = .ok (.iload_n 2, 1) := dec_28 (gB drcL_insertSign_0 4 rfl rfl)
theorem dL_insertSign_5 : decode cL_insertSign 5 = .ok (.iload_n 3, 1) := dec_29 (gB drcL_insertSign_0 5 rfl rfl)
theorem dL_insertSign_6 : decode cL_insertSign 6 = .ok (.invokevirtual 26, 3) := e_182 (x := 0) (y := 26) drcL_insertSign_0 6 rfl rfl
theorem dL_insertSign_9 : decode cL_insertSign 9 = .ok (.i2l, 1) := dec_133 (gB drcL_insertSign_0 9 rfl rfl)
theorem dL_insertSign_10 : decode cL_insertSign 10 = .ok (.putfield 13, 3) := e_181 (x := 0) (y := 13) drcL_insertSign_0 10 rfl rfl
theorem dL_insertSign_13 : decode cL_insertSign 13 = .ok (.goto 7, 3) := e_167 (x := 0) (y := 7) drcL_insertSign_0 13 rfl rfl
theorem dL_insertSign_16 : decode cL_insertSign 16 = .ok (.astore 5, 2) := e_58 (x := 5) drcL_insertSign_0 16 rfl rfl
theorem dL_insertSign_18 : decode cL_insertSign 18 = .ok (.iconst 1, 1) := dec_4 (gB drcL_insertSign_0 18 rfl rfl)
theorem dL_insertSign_19 : decode cL_insertSign 19 = .ok (.ireturn, 1) := dec_172 (gB drcL_insertSign_0 19 rfl rfl)
theorem dL_insertSign_20 : decode cL_insertSign 20 = .ok (.iconst 0, 1) := dec_3 (gB drcL_insertSign_0 20 rfl rfl)
theorem dL_insertSign_21 : decode cL_insertSign 21 = .ok (.ireturn, 1) := dec_172 (gB drcL_insertSign_0 21 rfl rfl)
def lkcL_insertSheet_0 : List UInt8 := [0x19, 0x04, 0x2a, 0x1b, 0x1c, 0x1d, 0xb6, 0x00, 0x1e, 0x85, 0xb5, 0x00, 0x0d, 0xa7, 0x00, 0x07, 0x3a, 0x05, 0x04, 0xac, 0x03, 0xac]
def tkcL_insertSheet_0 : List UInt8 := lkcL_insertSheet_0 ++ []
theorem drcL_insertSheet_0 : (cL_insertSheet).data.toList.drop 0 = lkcL_insertSheet_0 ++ [] := by decide +kernel
theorem dL_insertSheet_0 : decode cL_insertSheet 0 = .ok (.aload 4, 2) := e_25 (x := 4) drcL_insertSheet_0 0 rfl rfl
theorem dL_insertSheet_2 : decode cL_insertSheet 2 = .ok (.aload_n 0, 1) := dec_42 (gB drcL_insertSheet_0 2 rfl rfl)
theorem dL_insertSheet_3 : decode cL_insertSheet 3 = .ok (.iload_n 1, 1) := dec_27 (gB drcL_insertSheet_0 3 rfl rfl)
theorem dL_insertSheet_4 : decode cL_insertSheet 4 = .ok (.iload_n 2, 1) := dec_28 (gB drcL_insertSheet_0 4 rfl rfl)
theorem dL_insertSheet_5 : decode cL_insertSheet 5 = .ok (.iload_n 3, 1) := dec_29 (gB drcL_insertSheet_0 5 rfl rfl)
theorem dL_insertSheet_6 : decode cL_insertSheet 6 = .ok (.invokevirtual 30, 3) := e_182 (x := 0) (y := 30) drcL_insertSheet_0 6 rfl rfl
theorem dL_insertSheet_9 : decode cL_insertSheet 9 = .ok (.i2l, 1) := dec_133 (gB drcL_insertSheet_0 9 rfl rfl)
theorem dL_insertSheet_10 : decode cL_insertSheet 10 = .ok (.putfield 13, 3) := e_181 (x := 0) (y := 13) drcL_insertSheet_0 10 rfl rfl
theorem dL_insertSheet_13 : decode cL_insertSheet 13 = .ok (.goto 7, 3) := e_167 (x := 0) (y := 7) drcL_insertSheet_0 13 rfl rfl
theorem dL_insertSheet_16 : decode cL_insertSheet 16 = .ok (.astore 5, 2) := e_58 (x := 5) drcL_insertSheet_0 16 rfl rfl
theorem dL_insertSheet_18 : decode cL_insertSheet 18 = .ok (.iconst 1, 1) := dec_4 (gB drcL_insertSheet_0 18 rfl rfl)
theorem dL_insertSheet_19 : decode cL_insertSheet 19 = .ok (.ireturn, 1) := dec_172 (gB drcL_insertSheet_0 19 rfl rfl)
theorem dL_insertSheet_20 : decode cL_insertSheet 20 = .ok (.iconst 0, 1) := dec_3 (gB drcL_insertSheet_0 20 rfl rfl)
theorem dL_insertSheet_21 : decode cL_insertSheet 21 = .ok (.ireturn, 1) := dec_172 (gB drcL_insertSheet_0 21 rfl rfl)
def lkcL_setSign_0 : List UInt8 := [0x19, 0x04, 0x2a, 0x1b, 0x1c, 0x1d, 0xb6, 0x00, 0x22, 0x85, 0xb5, 0x00, 0x0d, 0xa7, 0x00, 0x07, 0x3a, 0x05, 0x04, 0xac, 0x03, 0xac]
def tkcL_setSign_0 : List UInt8 := lkcL_setSign_0 ++ []
theorem drcL_setSign_0 : (cL_setSign).data.toList.drop 0 = lkcL_setSign_0 ++ [] := by decide +kernel
theorem dL_setSign_0 : decode cL_setSign 0 = .ok (.aload 4, 2) := e_25 (x := 4) drcL_setSign_0 0 rfl rfl
theorem dL_setSign_2 : decode cL_setSign 2 = .ok (.aload_n 0, 1) := dec_42 (gB drcL_setSign_0 2 rfl rfl)
theorem dL_setSign_3 : decode cL_setSign 3 = .ok (.iload_n 1, 1) := dec_27 (gB drcL_setSign_0 3 rfl rfl)
theorem dL_setSign_4 : decode cL_setSign 4 = .ok (.iload_n 2, 1) := dec_28 (gB drcL_setSign_0 4 rfl rfl)
theorem dL_setSign_5 : decode cL_setSign 5 = .ok (.iload_n 3, 1) := dec_29 (gB drcL_setSign_0 5 rfl rfl)
theorem dL_setSign_6 : decode cL_setSign 6 = .ok (.invokevirtual 34, 3) := e_182 (x := 0) (y := 34) drcL_setSign_0 6 rfl rfl
theorem dL_setSign_9 : decode cL_setSign 9 = .ok (.i2l, 1) := dec_133 (gB drcL_setSign_0 9 rfl rfl)
theorem dL_setSign_10 : decode cL_setSign 10 = .ok (.putfield 13, 3) := e_181 (x := 0) (y := 13) drcL_setSign_0 10 rfl rfl
theorem dL_setSign_13 : decode cL_setSign 13 = .ok (.goto 7, 3) := e_167 (x := 0) (y := 7) drcL_setSign_0 13 rfl rfl
theorem dL_setSign_16 : decode cL_setSign 16 = .ok (.astore 5, 2) := e_58 (x := 5) drcL_setSign_0 16 rfl rfl
theorem dL_setSign_18 : decode cL_setSign 18 = .ok (.iconst 1, 1) := dec_4 (gB drcL_setSign_0 18 rfl rfl)
theorem dL_setSign_19 : decode cL_setSign 19 = .ok (.ireturn, 1) := dec_172 (gB drcL_setSign_0 19 rfl rfl)
theorem dL_setSign_20 : decode cL_setSign 20 = .ok (.iconst 0, 1) := dec_3 (gB drcL_setSign_0 20 rfl rfl)
theorem dL_setSign_21 : decode cL_setSign 21 = .ok (.ireturn, 1) := dec_172 (gB drcL_setSign_0 21 rfl rfl)
def lkcL_removeSign_0 : List UInt8 := [0x2d, 0x2a, 0x1b, 0x1c, 0xb6, 0x00, 0x25, 0x85, 0xb5, 0x00, 0x0d, 0xa7, 0x00, 0x07, 0x3a, 0x04, 0x04, 0xac, 0x03, 0xac]
def tkcL_removeSign_0 : List UInt8 := lkcL_removeSign_0 ++ []
theorem drcL_removeSign_0 : (cL_removeSign).data.toList.drop 0 = lkcL_removeSign_0 ++ [] := by decide +kernel
theorem dL_removeSign_0 : decode cL_removeSign 0 = .ok (.aload_n 3, 1) := dec_45 (gB drcL_removeSign_0 0 rfl rfl)
theorem dL_removeSign_1 : decode cL_removeSign 1 = .ok (.aload_n 0, 1) := dec_42 (gB drcL_removeSign_0 1 rfl rfl)
theorem dL_removeSign_2 : decode cL_removeSign 2 = .ok (.iload_n 1, 1) := dec_27 (gB drcL_removeSign_0 2 rfl rfl)
theorem dL_removeSign_3 : decode cL_removeSign 3 = .ok (.iload_n 2, 1) := dec_28 (gB drcL_removeSign_0 3 rfl rfl)
theorem dL_removeSign_4 : decode cL_removeSign 4 = .ok (.invokevirtual 37, 3) := e_182 (x := 0) (y := 37) drcL_removeSign_0 4 rfl rfl
theorem dL_removeSign_7 : decode cL_removeSign 7 = .ok (.i2l, 1) := dec_133 (gB drcL_removeSign_0 7 rfl rfl)
theorem dL_removeSign_8 : decode cL_removeSign 8 = .ok (.putfield 13, 3) := e_181 (x := 0) (y := 13) drcL_removeSign_0 8 rfl rfl
theorem dL_removeSign_11 : decode cL_removeSign 11 = .ok (.goto 7, 3) := e_167 (x := 0) (y := 7) drcL_removeSign_0 11 rfl rfl
theorem dL_removeSign_14 : decode cL_removeSign 14 = .ok (.astore 4, 2) := e_58 (x := 4) drcL_removeSign_0 14 rfl rfl
theorem dL_removeSign_16 : decode cL_removeSign 16 = .ok (.iconst 1, 1) := dec_4 (gB drcL_removeSign_0 16 rfl rfl)
theorem dL_removeSign_17 : decode cL_removeSign 17 = .ok (.ireturn, 1) := dec_172 (gB drcL_removeSign_0 17 rfl rfl)
theorem dL_removeSign_18 : decode cL_removeSign 18 = .ok (.iconst 0, 1) := dec_3 (gB drcL_removeSign_0 18 rfl rfl)
theorem dL_removeSign_19 : decode cL_removeSign 19 = .ok (.ireturn, 1) := dec_172 (gB drcL_removeSign_0 19 rfl rfl)
def lkcL_remove_0 : List UInt8 := [0x19, 0x04, 0x2a, 0x1b, 0x1c, 0x1d, 0xb6, 0x00, 0x28, 0x85, 0xb5, 0x00, 0x0d, 0xa7, 0x00, 0x07, 0x3a, 0x05, 0x04, 0xac, 0x03, 0xac]
def tkcL_remove_0 : List UInt8 := lkcL_remove_0 ++ []
theorem drcL_remove_0 : (cL_remove).data.toList.drop 0 = lkcL_remove_0 ++ [] := by decide +kernel
theorem dL_remove_0 : decode cL_remove 0 = .ok (.aload 4, 2) := e_25 (x := 4) drcL_remove_0 0 rfl rfl
theorem dL_remove_2 : decode cL_remove 2 = .ok (.aload_n 0, 1) := dec_42 (gB drcL_remove_0 2 rfl rfl)
theorem dL_remove_3 : decode cL_remove 3 = .ok (.iload_n 1, 1) := dec_27 (gB drcL_remove_0 3 rfl rfl)
theorem dL_remove_4 : decode cL_remove 4 = .ok (.iload_n 2, 1) := dec_28 (gB drcL_remove_0 4 rfl rfl)
theorem dL_remove_5 : decode cL_remove 5 = .ok (.iload_n 3, 1) := dec_29 (gB drcL_remove_0 5 rfl rfl)
theorem dL_remove_6 : decode cL_remove 6 = .ok (.invokevirtual 40, 3) := e_182 (x := 0) (y := 40) drcL_remove_0 6 rfl rfl
theorem dL_remove_9 : decode cL_remove 9 = .ok (.i2l, 1) := dec_133 (gB drcL_remove_0 9 rfl rfl)
theorem dL_remove_10 : decode cL_remove 10 = .ok (.putfield 13, 3) := e_181 (x := 0) (y := 13) drcL_remove_0 10 rfl rfl
theorem dL_remove_13 : decode cL_remove 13 = .ok (.goto 7, 3) := e_167 (x := 0) (y := 7) drcL_remove_0 13 rfl rfl
theorem dL_remove_16 : decode cL_remove 16 = .ok (.astore 5, 2) := e_58 (x := 5) drcL_remove_0 16 rfl rfl
theorem dL_remove_18 : decode cL_remove 18 = .ok (.iconst 1, 1) := dec_4 (gB drcL_remove_0 18 rfl rfl)
theorem dL_remove_19 : decode cL_remove 19 = .ok (.ireturn, 1) := dec_172 (gB drcL_remove_0 19 rfl rfl)
theorem dL_remove_20 : decode cL_remove 20 = .ok (.iconst 0, 1) := dec_3 (gB drcL_remove_0 20 rfl rfl)
theorem dL_remove_21 : decode cL_remove 21 = .ok (.ireturn, 1) := dec_172 (gB drcL_remove_0 21 rfl rfl)
def lkcL_replace_0 : List UInt8 := [0x19, 0x05, 0x2a, 0x1b, 0x1c, 0x1d, 0x15, 0x04, 0xb6, 0x00, 0x2b, 0x85, 0xb5, 0x00, 0x0d, 0xa7, 0x00, 0x07, 0x3a, 0x06, 0x04, 0xac, 0x03, 0xac]
def tkcL_replace_0 : List UInt8 := lkcL_replace_0 ++ []
theorem drcL_replace_0 : (cL_replace).data.toList.drop 0 = lkcL_replace_0 ++ [] := by decide +kernel
theorem dL_replace_0 : decode cL_replace 0 = .ok (.aload 5, 2) := e_25 (x := 5) drcL_replace_0 0 rfl rfl
theorem dL_replace_2 : decode cL_replace 2 = .ok (.aload_n 0, 1) := dec_42 (gB drcL_replace_0 2 rfl rfl)
theorem dL_replace_3 : decode cL_replace 3 = .ok (.iload_n 1, 1) := dec_27 (gB drcL_replace_0 3 rfl rfl)
theorem dL_replace_4 : decode cL_replace 4 = .ok (.iload_n 2, 1) := dec_28 (gB drcL_replace_0 4 rfl rfl)
theorem dL_replace_5 : decode cL_replace 5 = .ok (.iload_n 3, 1) := dec_29 (gB drcL_replace_0 5 rfl rfl)
theorem dL_replace_6 : decode cL_replace 6 = .ok (.iload 4, 2) := e_21 (x := 4) drcL_replace_0 6 rfl rfl
theorem dL_replace_8 : decode cL_replace 8 = .ok (.invokevirtual 43, 3) := e_182 (x := 0) (y := 43) drcL_replace_0 8 rfl rfl
theorem dL_replace_11 : decode cL_replace 11 = .ok (.i2l, 1) := dec_133 (gB drcL_replace_0 11 rfl rfl)
theorem dL_replace_12 : decode cL_replace 12 = .ok (.putfield 13, 3) := e_181 (x := 0) (y := 13) drcL_replace_0 12 rfl rfl
theorem dL_replace_15 : decode cL_replace 15 = .ok (.goto 7, 3) := e_167 (x := 0) (y := 7) drcL_replace_0 15 rfl rfl
theorem dL_replace_18 : decode cL_replace 18 = .ok (.astore 6, 2) := e_58 (x := 6) drcL_replace_0 18 rfl rfl
theorem dL_replace_20 : decode cL_replace 20 = .ok (.iconst 1, 1) := dec_4 (gB drcL_replace_0 20 rfl rfl)
theorem dL_replace_21 : decode cL_replace 21 = .ok (.ireturn, 1) := dec_172 (gB drcL_replace_0 21 rfl rfl)
theorem dL_replace_22 : decode cL_replace 22 = .ok (.iconst 0, 1) := dec_3 (gB drcL_replace_0 22 rfl rfl)
theorem dL_replace_23 : decode cL_replace 23 = .ok (.ireturn, 1) := dec_172 (gB drcL_replace_0 23 rfl rfl)
def lkcL_cutTo_0 : List UInt8 := [0x2d, 0x2a, 0x1b, 0x1c, 0xb6, 0x00, 0x2f, 0x85, 0xb5, 0x00, 0x0d, 0xa7, 0x00, 0x0b, 0x3a, 0x04, 0x04, 0xac, 0x3a, 0x04, 0x05, 0xac, 0x03, 0xac]
def tkcL_cutTo_0 : List UInt8 := lkcL_cutTo_0 ++ []
theorem drcL_cutTo_0 : (cL_cutTo).data.toList.drop 0 = lkcL_cutTo_0 ++ [] := by decide +kernel
theorem dL_cutTo_0 : decode cL_cutTo 0 = .ok (.aload_n 3, 1) := dec_45 (gB drcL_cutTo_0 0 rfl rfl)
theorem dL_cutTo_1 : decode cL_cutTo 1 = .ok (.aload_n 0, 1) := dec_42 (gB drcL_cutTo_0 1 rfl rfl)
theorem dL_cutTo_2 : decode cL_cutTo 2 = .ok (.iload_n 1, 1) := dec_27 (gB drcL_cutTo_0 2 rfl rfl)
theorem dL_cutTo_3 : decode cL_cutTo 3 = .ok (.iload_n 2, 1) := dec_28 (gB drcL_cutTo_0 3 rfl rfl)
theorem dL_cutTo_4 : decode cL_cutTo 4 = .ok (.invokevirtual 47, 3) := e_182 (x := 0) (y := 47) drcL_cutTo_0 4 rfl rfl
theorem dL_cutTo_7 : decode cL_cutTo 7 = .ok (.i2l, 1) := dec_133 (gB drcL_cutTo_0 7 rfl rfl)
theorem dL_cutTo_8 : decode cL_cutTo 8 = .ok (.putfield 13, 3) := e_181 (x := 0) (y := 13) drcL_cutTo_0 8 rfl rfl
theorem dL_cutTo_11 : decode cL_cutTo 11 = .ok (.goto 11, 3) := e_167 (x := 0) (y := 11) drcL_cutTo_0 11 rfl rfl
theorem dL_cutTo_14 : decode cL_cutTo 14 = .ok (.astore 4, 2) := e_58 (x := 4) drcL_cutTo_0 14 rfl rfl
theorem dL_cutTo_16 : decode cL_cutTo 16 = .ok (.iconst 1, 1) := dec_4 (gB drcL_cutTo_0 16 rfl rfl)
theorem dL_cutTo_17 : decode cL_cutTo 17 = .ok (.ireturn, 1) := dec_172 (gB drcL_cutTo_0 17 rfl rfl)
theorem dL_cutTo_18 : decode cL_cutTo 18 = .ok (.astore 4, 2) := e_58 (x := 4) drcL_cutTo_0 18 rfl rfl
theorem dL_cutTo_20 : decode cL_cutTo 20 = .ok (.iconst 2, 1) := dec_5 (gB drcL_cutTo_0 20 rfl rfl)
theorem dL_cutTo_21 : decode cL_cutTo 21 = .ok (.ireturn, 1) := dec_172 (gB drcL_cutTo_0 21 rfl rfl)
theorem dL_cutTo_22 : decode cL_cutTo 22 = .ok (.iconst 0, 1) := dec_3 (gB drcL_cutTo_0 22 rfl rfl)
theorem dL_cutTo_23 : decode cL_cutTo 23 = .ok (.ireturn, 1) := dec_172 (gB drcL_cutTo_0 23 rfl rfl)
def lkcL_turn_0 : List UInt8 := [0x2c, 0x2a, 0x1b, 0xb6, 0x00, 0x32, 0x85, 0xb5, 0x00, 0x0d, 0xa7, 0x00, 0x06, 0x4e, 0x04, 0xac, 0x03, 0xac]
def tkcL_turn_0 : List UInt8 := lkcL_turn_0 ++ []
theorem drcL_turn_0 : (cL_turn).data.toList.drop 0 = lkcL_turn_0 ++ [] := by decide +kernel
theorem dL_turn_0 : decode cL_turn 0 = .ok (.aload_n 2, 1) := dec_44 (gB drcL_turn_0 0 rfl rfl)
theorem dL_turn_1 : decode cL_turn 1 = .ok (.aload_n 0, 1) := dec_42 (gB drcL_turn_0 1 rfl rfl)
theorem dL_turn_2 : decode cL_turn 2 = .ok (.iload_n 1, 1) := dec_27 (gB drcL_turn_0 2 rfl rfl)
theorem dL_turn_3 : decode cL_turn 3 = .ok (.invokevirtual 50, 3) := e_182 (x := 0) (y := 50) drcL_turn_0 3 rfl rfl
theorem dL_turn_6 : decode cL_turn 6 = .ok (.i2l, 1) := dec_133 (gB drcL_turn_0 6 rfl rfl)
theorem dL_turn_7 : decode cL_turn 7 = .ok (.putfield 13, 3) := e_181 (x := 0) (y := 13) drcL_turn_0 7 rfl rfl
theorem dL_turn_10 : decode cL_turn 10 = .ok (.goto 6, 3) := e_167 (x := 0) (y := 6) drcL_turn_0 10 rfl rfl
theorem dL_turn_13 : decode cL_turn 13 = .ok (.astore_n 3, 1) := dec_78 (gB drcL_turn_0 13 rfl rfl)
theorem dL_turn_14 : decode cL_turn 14 = .ok (.iconst 1, 1) := dec_4 (gB drcL_turn_0 14 rfl rfl)
theorem dL_turn_15 : decode cL_turn 15 = .ok (.ireturn, 1) := dec_172 (gB drcL_turn_0 15 rfl rfl)
theorem dL_turn_16 : decode cL_turn 16 = .ok (.iconst 0, 1) := dec_3 (gB drcL_turn_0 16 rfl rfl)
theorem dL_turn_17 : decode cL_turn 17 = .ok (.ireturn, 1) := dec_172 (gB drcL_turn_0 17 rfl rfl)
def lkcL_exchange_0 : List UInt8 := [0x2c, 0x2a, 0x1b, 0xb6, 0x00, 0x36, 0x85, 0xb5, 0x00, 0x0d, 0xa7, 0x00, 0x06, 0x4e, 0x04, 0xac, 0x03, 0xac]
def tkcL_exchange_0 : List UInt8 := lkcL_exchange_0 ++ []
theorem drcL_exchange_0 : (cL_exchange).data.toList.drop 0 = lkcL_exchange_0 ++ [] := by decide +kernel
theorem dL_exchange_0 : decode cL_exchange 0 = .ok (.aload_n 2, 1) := dec_44 (gB drcL_exchange_0 0 rfl rfl)
theorem dL_exchange_1 : decode cL_exchange 1 = .ok (.aload_n 0, 1) := dec_42 (gB drcL_exchange_0 1 rfl rfl)
theorem dL_exchange_2 : decode cL_exchange 2 = .ok (.iload_n 1, 1) := dec_27 (gB drcL_exchange_0 2 rfl rfl)
theorem dL_exchange_3 : decode cL_exchange 3 = .ok (.invokevirtual 54, 3) := e_182 (x := 0) (y := 54) drcL_exchange_0 3 rfl rfl
theorem dL_exchange_6 : decode cL_exchange 6 = .ok (.i2l, 1) := dec_133 (gB drcL_exchange_0 6 rfl rfl)
theorem dL_exchange_7 : decode cL_exchange 7 = .ok (.putfield 13, 3) := e_181 (x := 0) (y := 13) drcL_exchange_0 7 rfl rfl
theorem dL_exchange_10 : decode cL_exchange 10 = .ok (.goto 6, 3) := e_167 (x := 0) (y := 6) drcL_exchange_0 10 rfl rfl
theorem dL_exchange_13 : decode cL_exchange 13 = .ok (.astore_n 3, 1) := dec_78 (gB drcL_exchange_0 13 rfl rfl)
theorem dL_exchange_14 : decode cL_exchange 14 = .ok (.iconst 1, 1) := dec_4 (gB drcL_exchange_0 14 rfl rfl)
theorem dL_exchange_15 : decode cL_exchange 15 = .ok (.ireturn, 1) := dec_172 (gB drcL_exchange_0 15 rfl rfl)
theorem dL_exchange_16 : decode cL_exchange 16 = .ok (.iconst 0, 1) := dec_3 (gB drcL_exchange_0 16 rfl rfl)
theorem dL_exchange_17 : decode cL_exchange 17 = .ok (.ireturn, 1) := dec_172 (gB drcL_exchange_0 17 rfl rfl)
def lkcL_rotate_0 : List UInt8 := [0x2d, 0x2a, 0x1b, 0x1c, 0xb6, 0x00, 0x39, 0x85, 0xb5, 0x00, 0x0d, 0xa7, 0x00, 0x0b, 0x3a, 0x04, 0x04, 0xac, 0x3a, 0x04, 0x05, 0xac, 0x03, 0xac]
def tkcL_rotate_0 : List UInt8 := lkcL_rotate_0 ++ []
theorem drcL_rotate_0 : (cL_rotate).data.toList.drop 0 = lkcL_rotate_0 ++ [] := by decide +kernel
theorem dL_rotate_0 : decode cL_rotate 0 = .ok (.aload_n 3, 1) := dec_45 (gB drcL_rotate_0 0 rfl rfl)
theorem dL_rotate_1 : decode cL_rotate 1 = .ok (.aload_n 0, 1) := dec_42 (gB drcL_rotate_0 1 rfl rfl)
theorem dL_rotate_2 : decode cL_rotate 2 = .ok (.iload_n 1, 1) := dec_27 (gB drcL_rotate_0 2 rfl rfl)
theorem dL_rotate_3 : decode cL_rotate 3 = .ok (.iload_n 2, 1) := dec_28 (gB drcL_rotate_0 3 rfl rfl)
theorem dL_rotate_4 : decode cL_rotate 4 = .ok (.invokevirtual 57, 3) := e_182 (x := 0) (y := 57) drcL_rotate_0 4 rfl rfl
theorem dL_rotate_7 : decode cL_rotate 7 = .ok (.i2l, 1) := dec_133 (gB drcL_rotate_0 7 rfl rfl)
theorem dL_rotate_8 : decode cL_rotate 8 = .ok (.putfield 13, 3) := e_181 (x := 0) (y := 13) drcL_rotate_0 8 rfl rfl
theorem dL_rotate_11 : decode cL_rotate 11 = .ok (.goto 11, 3) := e_167 (x := 0) (y := 11) drcL_rotate_0 11 rfl rfl
theorem dL_rotate_14 : decode cL_rotate 14 = .ok (.astore 4, 2) := e_58 (x := 4) drcL_rotate_0 14 rfl rfl
theorem dL_rotate_16 : decode cL_rotate 16 = .ok (.iconst 1, 1) := dec_4 (gB drcL_rotate_0 16 rfl rfl)
theorem dL_rotate_17 : decode cL_rotate 17 = .ok (.ireturn, 1) := dec_172 (gB drcL_rotate_0 17 rfl rfl)
theorem dL_rotate_18 : decode cL_rotate 18 = .ok (.astore 4, 2) := e_58 (x := 4) drcL_rotate_0 18 rfl rfl
theorem dL_rotate_20 : decode cL_rotate 20 = .ok (.iconst 2, 1) := dec_5 (gB drcL_rotate_0 20 rfl rfl)
theorem dL_rotate_21 : decode cL_rotate 21 = .ok (.ireturn, 1) := dec_172 (gB drcL_rotate_0 21 rfl rfl)
theorem dL_rotate_22 : decode cL_rotate 22 = .ok (.iconst 0, 1) := dec_3 (gB drcL_rotate_0 22 rfl rfl)
theorem dL_rotate_23 : decode cL_rotate 23 = .ok (.ireturn, 1) := dec_172 (gB drcL_rotate_0 23 rfl rfl)
def lkcL_copy_0 : List UInt8 := [0x2d, 0x2a, 0x1b, 0x1c, 0xb6, 0x00, 0x3c, 0x85, 0xb5, 0x00, 0x0d, 0xa7, 0x00, 0x07, 0x3a, 0x04, 0x04, 0xac, 0x03, 0xac]
def tkcL_copy_0 : List UInt8 := lkcL_copy_0 ++ []
theorem drcL_copy_0 : (cL_copy).data.toList.drop 0 = lkcL_copy_0 ++ [] := by decide +kernel
theorem dL_copy_0 : decode cL_copy 0 = .ok (.aload_n 3, 1) := dec_45 (gB drcL_copy_0 0 rfl rfl)
theorem dL_copy_1 : decode cL_copy 1 = .ok (.aload_n 0, 1) := dec_42 (gB drcL_copy_0 1 rfl rfl)
theorem dL_copy_2 : decode cL_copy 2 = .ok (.iload_n 1, 1) := dec_27 (gB drcL_copy_0 2 rfl rfl)
theorem dL_copy_3 : decode cL_copy 3 = .ok (.iload_n 2, 1) := dec_28 (gB drcL_copy_0 3 rfl rfl)
theorem dL_copy_4 : decode cL_copy 4 = .ok (.invokevirtual 60, 3) := e_182 (x := 0) (y := 60) drcL_copy_0 4 rfl rfl
theorem dL_copy_7 : decode cL_copy 7 = .ok (.i2l, 1) := dec_133 (gB drcL_copy_0 7 rfl rfl)
theorem dL_copy_8 : decode cL_copy 8 = .ok (.putfield 13, 3) := e_181 (x := 0) (y := 13) drcL_copy_0 8 rfl rfl
theorem dL_copy_11 : decode cL_copy 11 = .ok (.goto 7, 3) := e_167 (x := 0) (y := 7) drcL_copy_0 11 rfl rfl
theorem dL_copy_14 : decode cL_copy 14 = .ok (.astore 4, 2) := e_58 (x := 4) drcL_copy_0 14 rfl rfl
theorem dL_copy_16 : decode cL_copy 16 = .ok (.iconst 1, 1) := dec_4 (gB drcL_copy_0 16 rfl rfl)
theorem dL_copy_17 : decode cL_copy 17 = .ok (.ireturn, 1) := dec_172 (gB drcL_copy_0 17 rfl rfl)
theorem dL_copy_18 : decode cL_copy 18 = .ok (.iconst 0, 1) := dec_3 (gB drcL_copy_0 18 rfl rfl)
theorem dL_copy_19 : decode cL_copy 19 = .ok (.ireturn, 1) := dec_172 (gB drcL_copy_0 19 rfl rfl)
def lkcL_apply_0 : List UInt8 := [0x19, 0x04, 0x2a, 0x1b, 0x1c, 0x1d, 0xb6, 0x00, 0x3f, 0x85, 0xb5, 0x00, 0x0d, 0xa7, 0x00, 0x0b, 0x3a, 0x05, 0x04, 0xac, 0x3a, 0x05, 0x05, 0xac, 0x03, 0xac]
def tkcL_apply_0 : List UInt8 := lkcL_apply_0 ++ []
theorem drcL_apply_0 : (cL_apply).data.toList.drop 0 = lkcL_apply_0 ++ [] := by decide +kernel
theorem dL_apply_0 : decode cL_apply 0 = .ok (.aload 4, 2) := e_25 (x := 4) drcL_apply_0 0 rfl rfl
theorem dL_apply_2 : decode cL_apply 2 = .ok (.aload_n 0, 1) := dec_42 (gB drcL_apply_0 2 rfl rfl)
theorem dL_apply_3 : decode cL_apply 3 = .ok (.iload_n 1, 1) := dec_27 (gB drcL_apply_0 3 rfl rfl)
theorem dL_apply_4 : decode cL_apply 4 = .ok (.iload_n 2, 1) := dec_28 (gB drcL_apply_0 4 rfl rfl)
theorem dL_apply_5 : decode cL_apply 5 = .ok (.iload_n 3, 1) := dec_29 (gB drcL_apply_0 5 rfl rfl)
theorem dL_apply_6 : decode cL_apply 6 = .ok (.invokevirtual 63, 3) := e_182 (x := 0) (y := 63) drcL_apply_0 6 rfl rfl
theorem dL_apply_9 : decode cL_apply 9 = .ok (.i2l, 1) := dec_133 (gB drcL_apply_0 9 rfl rfl)
theorem dL_apply_10 : decode cL_apply 10 = .ok (.putfield 13, 3) := e_181 (x := 0) (y := 13) drcL_apply_0 10 rfl rfl
theorem dL_apply_13 : decode cL_apply 13 = .ok (.goto 11, 3) := e_167 (x := 0) (y := 11) drcL_apply_0 13 rfl rfl
theorem dL_apply_16 : decode cL_apply 16 = .ok (.astore 5, 2) := e_58 (x := 5) drcL_apply_0 16 rfl rfl
theorem dL_apply_18 : decode cL_apply 18 = .ok (.iconst 1, 1) := dec_4 (gB drcL_apply_0 18 rfl rfl)
theorem dL_apply_19 : decode cL_apply 19 = .ok (.ireturn, 1) := dec_172 (gB drcL_apply_0 19 rfl rfl)
theorem dL_apply_20 : decode cL_apply 20 = .ok (.astore 5, 2) := e_58 (x := 5) drcL_apply_0 20 rfl rfl
theorem dL_apply_22 : decode cL_apply 22 = .ok (.iconst 2, 1) := dec_5 (gB drcL_apply_0 22 rfl rfl)
theorem dL_apply_23 : decode cL_apply 23 = .ok (.ireturn, 1) := dec_172 (gB drcL_apply_0 23 rfl rfl)
theorem dL_apply_24 : decode cL_apply 24 = .ok (.iconst 0, 1) := dec_3 (gB drcL_apply_0 24 rfl rfl)
theorem dL_apply_25 : decode cL_apply 25 = .ok (.ireturn, 1) := dec_172 (gB drcL_apply_0 25 rfl rfl)
def lkcL_undo_0 : List UInt8 := [0x19, 0x04, 0x2a, 0x1b, 0x1c, 0x1d, 0xb6, 0x00, 0x42, 0x85, 0xb5, 0x00, 0x0d, 0xa7, 0x00, 0x0f, 0x3a, 0x05, 0x04, 0xac, 0x3a, 0x05, 0x05, 0xac, 0x3a, 0x05, 0x06, 0xac, 0x03, 0xac]
def tkcL_undo_0 : List UInt8 := lkcL_undo_0 ++ []
theorem drcL_undo_0 : (cL_undo).data.toList.drop 0 = lkcL_undo_0 ++ [] := by decide +kernel
theorem dL_undo_0 : decode cL_undo 0 = .ok (.aload 4, 2) := e_25 (x := 4) drcL_undo_0 0 rfl rfl
theorem dL_undo_2 : decode cL_undo 2 = .ok (.aload_n 0, 1) := dec_42 (gB drcL_undo_0 2 rfl rfl)
theorem dL_undo_3 : decode cL_undo 3 = .ok (.iload_n 1, 1) := dec_27 (gB drcL_undo_0 3 rfl rfl)
theorem dL_undo_4 : decode cL_undo 4 = .ok (.iload_n 2, 1) := dec_28 (gB drcL_undo_0 4 rfl rfl)
theorem dL_undo_5 : decode cL_undo 5 = .ok (.iload_n 3, 1) := dec_29 (gB drcL_undo_0 5 rfl rfl)
theorem dL_undo_6 : decode cL_undo 6 = .ok (.invokevirtual 66, 3) := e_182 (x := 0) (y := 66) drcL_undo_0 6 rfl rfl
theorem dL_undo_9 : decode cL_undo 9 = .ok (.i2l, 1) := dec_133 (gB drcL_undo_0 9 rfl rfl)
theorem dL_undo_10 : decode cL_undo 10 = .ok (.putfield 13, 3) := e_181 (x := 0) (y := 13) drcL_undo_0 10 rfl rfl
theorem dL_undo_13 : decode cL_undo 13 = .ok (.goto 15, 3) := e_167 (x := 0) (y := 15) drcL_undo_0 13 rfl rfl
theorem dL_undo_16 : decode cL_undo 16 = .ok (.astore 5, 2) := e_58 (x := 5) drcL_undo_0 16 rfl rfl
theorem dL_undo_18 : decode cL_undo 18 = .ok (.iconst 1, 1) := dec_4 (gB drcL_undo_0 18 rfl rfl)
theorem dL_undo_19 : decode cL_undo 19 = .ok (.ireturn, 1) := dec_172 (gB drcL_undo_0 19 rfl rfl)
theorem dL_undo_20 : decode cL_undo 20 = .ok (.astore 5, 2) := e_58 (x := 5) drcL_undo_0 20 rfl rfl
theorem dL_undo_22 : decode cL_undo 22 = .ok (.iconst 2, 1) := dec_5 (gB drcL_undo_0 22 rfl rfl)
theorem dL_undo_23 : decode cL_undo 23 = .ok (.ireturn, 1) := dec_172 (gB drcL_undo_0 23 rfl rfl)
theorem dL_undo_24 : decode cL_undo 24 = .ok (.astore 5, 2) := e_58 (x := 5) drcL_undo_0 24 rfl rfl
theorem dL_undo_26 : decode cL_undo 26 = .ok (.iconst 3, 1) := dec_6 (gB drcL_undo_0 26 rfl rfl)
theorem dL_undo_27 : decode cL_undo 27 = .ok (.ireturn, 1) := dec_172 (gB drcL_undo_0 27 rfl rfl)
theorem dL_undo_28 : decode cL_undo 28 = .ok (.iconst 0, 1) := dec_3 (gB drcL_undo_0 28 rfl rfl)
theorem dL_undo_29 : decode cL_undo 29 = .ok (.ireturn, 1) := dec_172 (gB drcL_undo_0 29 rfl rfl)
def lkcL_lay_0 : List UInt8 := [0x19, 0x04, 0x2a, 0x1b, 0x1c, 0x1d, 0xb6, 0x00, 0x47, 0x85, 0xb5, 0x00, 0x0d, 0xa7, 0x00, 0x0b, 0x3a, 0x05, 0x04, 0xac, 0x3a, 0x05, 0x05, 0xac, 0x03, 0xac]
def tkcL_lay_0 : List UInt8 := lkcL_lay_0 ++ []
theorem drcL_lay_0 : (cL_lay).data.toList.drop 0 = lkcL_lay_0 ++ [] := by decide +kernel
theorem dL_lay_0 : decode cL_lay 0 = .ok (.aload 4, 2) := e_25 (x := 4) drcL_lay_0 0 rfl rfl
theorem dL_lay_2 : decode cL_lay 2 = .ok (.aload_n 0, 1) := dec_42 (gB drcL_lay_0 2 rfl rfl)
theorem dL_lay_3 : decode cL_lay 3 = .ok (.iload_n 1, 1) := dec_27 (gB drcL_lay_0 3 rfl rfl)
theorem dL_lay_4 : decode cL_lay 4 = .ok (.iload_n 2, 1) := dec_28 (gB drcL_lay_0 4 rfl rfl)
theorem dL_lay_5 : decode cL_lay 5 = .ok (.iload_n 3, 1) := dec_29 (gB drcL_lay_0 5 rfl rfl)
theorem dL_lay_6 : decode cL_lay 6 = .ok (.invokevirtual 71, 3) := e_182 (x := 0) (y := 71) drcL_lay_0 6 rfl rfl
theorem dL_lay_9 : decode cL_lay 9 = .ok (.i2l, 1) := dec_133 (gB drcL_lay_0 9 rfl rfl)
theorem dL_lay_10 : decode cL_lay 10 = .ok (.putfield 13, 3) := e_181 (x := 0) (y := 13) drcL_lay_0 10 rfl rfl
theorem dL_lay_13 : decode cL_lay 13 = .ok (.goto 11, 3) := e_167 (x := 0) (y := 11) drcL_lay_0 13 rfl rfl
theorem dL_lay_16 : decode cL_lay 16 = .ok (.astore 5, 2) := e_58 (x := 5) drcL_lay_0 16 rfl rfl
theorem dL_lay_18 : decode cL_lay 18 = .ok (.iconst 1, 1) := dec_4 (gB drcL_lay_0 18 rfl rfl)
theorem dL_lay_19 : decode cL_lay 19 = .ok (.ireturn, 1) := dec_172 (gB drcL_lay_0 19 rfl rfl)
theorem dL_lay_20 : decode cL_lay 20 = .ok (.astore 5, 2) := e_58 (x := 5) drcL_lay_0 20 rfl rfl
theorem dL_lay_22 : decode cL_lay 22 = .ok (.iconst 2, 1) := dec_5 (gB drcL_lay_0 22 rfl rfl)
theorem dL_lay_23 : decode cL_lay 23 = .ok (.ireturn, 1) := dec_172 (gB drcL_lay_0 23 rfl rfl)
theorem dL_lay_24 : decode cL_lay 24 = .ok (.iconst 0, 1) := dec_3 (gB drcL_lay_0 24 rfl rfl)
theorem dL_lay_25 : decode cL_lay 25 = .ok (.ireturn, 1) := dec_172 (gB drcL_lay_0 25 rfl rfl)
def lkcL_twos_0 : List UInt8 := [0x19, 0x04, 0x2a, 0x1b, 0x1c, 0x1d, 0xb6, 0x00, 0x4a, 0x85, 0xb5, 0x00, 0x0d, 0xa7, 0x00, 0x0b, 0x3a, 0x05, 0x04, 0xac, 0x3a, 0x05, 0x05, 0xac, 0x03, 0xac]
def tkcL_twos_0 : List UInt8 := lkcL_twos_0 ++ []
theorem drcL_twos_0 : (cL_twos).data.toList.drop 0 = lkcL_twos_0 ++ [] := by decide +kernel
theorem dL_twos_0 : decode cL_twos 0 = .ok (.aload 4, 2) := e_25 (x := 4) drcL_twos_0 0 rfl rfl
theorem dL_twos_2 : decode cL_twos 2 = .ok (.aload_n 0, 1) := dec_42 (gB drcL_twos_0 2 rfl rfl)
theorem dL_twos_3 : decode cL_twos 3 = .ok (.iload_n 1, 1) := dec_27 (gB drcL_twos_0 3 rfl rfl)
theorem dL_twos_4 : decode cL_twos 4 = .ok (.iload_n 2, 1) := dec_28 (gB drcL_twos_0 4 rfl rfl)
theorem dL_twos_5 : decode cL_twos 5 = .ok (.iload_n 3, 1) := dec_29 (gB drcL_twos_0 5 rfl rfl)
theorem dL_twos_6 : decode cL_twos 6 = .ok (.invokevirtual 74, 3) := e_182 (x := 0) (y := 74) drcL_twos_0 6 rfl rfl
theorem dL_twos_9 : decode cL_twos 9 = .ok (.i2l, 1) := dec_133 (gB drcL_twos_0 9 rfl rfl)
theorem dL_twos_10 : decode cL_twos 10 = .ok (.putfield 13, 3) := e_181 (x := 0) (y := 13) drcL_twos_0 10 rfl rfl
theorem dL_twos_13 : decode cL_twos 13 = .ok (.goto 11, 3) := e_167 (x := 0) (y := 11) drcL_twos_0 13 rfl rfl
theorem dL_twos_16 : decode cL_twos 16 = .ok (.astore 5, 2) := e_58 (x := 5) drcL_twos_0 16 rfl rfl
theorem dL_twos_18 : decode cL_twos 18 = .ok (.iconst 1, 1) := dec_4 (gB drcL_twos_0 18 rfl rfl)
theorem dL_twos_19 : decode cL_twos 19 = .ok (.ireturn, 1) := dec_172 (gB drcL_twos_0 19 rfl rfl)
theorem dL_twos_20 : decode cL_twos 20 = .ok (.astore 5, 2) := e_58 (x := 5) drcL_twos_0 20 rfl rfl
theorem dL_twos_22 : decode cL_twos 22 = .ok (.iconst 2, 1) := dec_5 (gB drcL_twos_0 22 rfl rfl)
theorem dL_twos_23 : decode cL_twos 23 = .ok (.ireturn, 1) := dec_172 (gB drcL_twos_0 23 rfl rfl)
theorem dL_twos_24 : decode cL_twos 24 = .ok (.iconst 0, 1) := dec_3 (gB drcL_twos_0 24 rfl rfl)
theorem dL_twos_25 : decode cL_twos 25 = .ok (.ireturn, 1) := dec_172 (gB drcL_twos_0 25 rfl rfl)
def lkcL_line_0 : List UInt8 := [0x19, 0x05, 0x2a, 0x1b, 0x1c, 0x1d, 0x15, 0x04, 0xb6, 0x00, 0x4d, 0x85, 0xb5, 0x00, 0x0d, 0xa7, 0x00, 0x0b, 0x3a, 0x06, 0x04, 0xac, 0x3a, 0x06, 0x05, 0xac, 0x03, 0xac]
def tkcL_line_0 : List UInt8 := lkcL_line_0 ++ []
theorem drcL_line_0 : (cL_line).data.toList.drop 0 = lkcL_line_0 ++ [] := by decide +kernel
theorem dL_line_0 : decode cL_line 0 = .ok (.aload 5, 2) := e_25 (x := 5) drcL_line_0 0 rfl rfl
theorem dL_line_2 : decode cL_line 2 = .ok (.aload_n 0, 1) := dec_42 (gB drcL_line_0 2 rfl rfl)
theorem dL_line_3 : decode cL_line 3 = .ok (.iload_n 1, 1) := dec_27 (gB drcL_line_0 3 rfl rfl)
theorem dL_line_4 : decode cL_line 4 = .ok (.iload_n 2, 1) := dec_28 (gB drcL_line_0 4 rfl rfl)
theorem dL_line_5 : decode cL_line 5 = .ok (.iload_n 3, 1) := dec_29 (gB drcL_line_0 5 rfl rfl)
theorem dL_line_6 : decode cL_line 6 = .ok (.iload 4, 2) := e_21 (x := 4) drcL_line_0 6 rfl rfl
theorem dL_line_8 : decode cL_line 8 = .ok (.invokevirtual 77, 3) := e_182 (x := 0) (y := 77) drcL_line_0 8 rfl rfl
theorem dL_line_11 : decode cL_line 11 = .ok (.i2l, 1) := dec_133 (gB drcL_line_0 11 rfl rfl)
theorem dL_line_12 : decode cL_line 12 = .ok (.putfield 13, 3) := e_181 (x := 0) (y := 13) drcL_line_0 12 rfl rfl
theorem dL_line_15 : decode cL_line 15 = .ok (.goto 11, 3) := e_167 (x := 0) (y := 11) drcL_line_0 15 rfl rfl
theorem dL_line_18 : decode cL_line 18 = .ok (.astore 6, 2) := e_58 (x := 6) drcL_line_0 18 rfl rfl
theorem dL_line_20 : decode cL_line 20 = .ok (.iconst 1, 1) := dec_4 (gB drcL_line_0 20 rfl rfl)
theorem dL_line_21 : decode cL_line 21 = .ok (.ireturn, 1) := dec_172 (gB drcL_line_0 21 rfl rfl)
theorem dL_line_22 : decode cL_line 22 = .ok (.astore 6, 2) := e_58 (x := 6) drcL_line_0 22 rfl rfl
theorem dL_line_24 : decode cL_line 24 = .ok (.iconst 2, 1) := dec_5 (gB drcL_line_0 24 rfl rfl)
theorem dL_line_25 : decode cL_line 25 = .ok (.ireturn, 1) := dec_172 (gB drcL_line_0 25 rfl rfl)
theorem dL_line_26 : decode cL_line 26 = .ok (.iconst 0, 1) := dec_3 (gB drcL_line_0 26 rfl rfl)
theorem dL_line_27 : decode cL_line 27 = .ok (.ireturn, 1) := dec_172 (gB drcL_line_0 27 rfl rfl)
def lkcL_grow_0 : List UInt8 := [0x2d, 0x2a, 0x1b, 0x1c, 0xb6, 0x00, 0x50, 0x85, 0xb5, 0x00, 0x0d, 0xa7, 0x00, 0x0b, 0x3a, 0x04, 0x04, 0xac, 0x3a, 0x04, 0x05, 0xac, 0x03, 0xac]
def tkcL_grow_0 : List UInt8 := lkcL_grow_0 ++ []
theorem drcL_grow_0 : (cL_grow).data.toList.drop 0 = lkcL_grow_0 ++ [] := by decide +kernel
theorem dL_grow_0 : decode cL_grow 0 = .ok (.aload_n 3, 1) := dec_45 (gB drcL_grow_0 0 rfl rfl)
theorem dL_grow_1 : decode cL_grow 1 = .ok (.aload_n 0, 1) := dec_42 (gB drcL_grow_0 1 rfl rfl)
theorem dL_grow_2 : decode cL_grow 2 = .ok (.iload_n 1, 1) := dec_27 (gB drcL_grow_0 2 rfl rfl)
theorem dL_grow_3 : decode cL_grow 3 = .ok (.iload_n 2, 1) := dec_28 (gB drcL_grow_0 3 rfl rfl)
theorem dL_grow_4 : decode cL_grow 4 = .ok (.invokevirtual 80, 3) := e_182 (x := 0) (y := 80) drcL_grow_0 4 rfl rfl
theorem dL_grow_7 : decode cL_grow 7 = .ok (.i2l, 1) := dec_133 (gB drcL_grow_0 7 rfl rfl)
theorem dL_grow_8 : decode cL_grow 8 = .ok (.putfield 13, 3) := e_181 (x := 0) (y := 13) drcL_grow_0 8 rfl rfl
theorem dL_grow_11 : decode cL_grow 11 = .ok (.goto 11, 3) := e_167 (x := 0) (y := 11) drcL_grow_0 11 rfl rfl
theorem dL_grow_14 : decode cL_grow 14 = .ok (.astore 4, 2) := e_58 (x := 4) drcL_grow_0 14 rfl rfl
theorem dL_grow_16 : decode cL_grow 16 = .ok (.iconst 1, 1) := dec_4 (gB drcL_grow_0 16 rfl rfl)
theorem dL_grow_17 : decode cL_grow 17 = .ok (.ireturn, 1) := dec_172 (gB drcL_grow_0 17 rfl rfl)
theorem dL_grow_18 : decode cL_grow 18 = .ok (.astore 4, 2) := e_58 (x := 4) drcL_grow_0 18 rfl rfl
theorem dL_grow_20 : decode cL_grow 20 = .ok (.iconst 2, 1) := dec_5 (gB drcL_grow_0 20 rfl rfl)
theorem dL_grow_21 : decode cL_grow 21 = .ok (.ireturn, 1) := dec_172 (gB drcL_grow_0 21 rfl rfl)
theorem dL_grow_22 : decode cL_grow 22 = .ok (.iconst 0, 1) := dec_3 (gB drcL_grow_0 22 rfl rfl)
theorem dL_grow_23 : decode cL_grow 23 = .ok (.ireturn, 1) := dec_172 (gB drcL_grow_0 23 rfl rfl)
def lkcL_shrink_0 : List UInt8 := [0x2c, 0x2a, 0x1b, 0xb6, 0x00, 0x53, 0x85, 0xb5, 0x00, 0x0d, 0xa7, 0x00, 0x09, 0x4e, 0x04, 0xac, 0x4e, 0x05, 0xac, 0x03, 0xac]
def tkcL_shrink_0 : List UInt8 := lkcL_shrink_0 ++ []
theorem drcL_shrink_0 : (cL_shrink).data.toList.drop 0 = lkcL_shrink_0 ++ [] := by decide +kernel
theorem dL_shrink_0 : decode cL_shrink 0 = .ok (.aload_n 2, 1) := dec_44 (gB drcL_shrink_0 0 rfl rfl)
theorem dL_shrink_1 : decode cL_shrink 1 = .ok (.aload_n 0, 1) := dec_42 (gB drcL_shrink_0 1 rfl rfl)
theorem dL_shrink_2 : decode cL_shrink 2 = .ok (.iload_n 1, 1) := dec_27 (gB drcL_shrink_0 2 rfl rfl)
theorem dL_shrink_3 : decode cL_shrink 3 = .ok (.invokevirtual 83, 3) := e_182 (x := 0) (y := 83) drcL_shrink_0 3 rfl rfl
theorem dL_shrink_6 : decode cL_shrink 6 = .ok (.i2l, 1) := dec_133 (gB drcL_shrink_0 6 rfl rfl)
theorem dL_shrink_7 : decode cL_shrink 7 = .ok (.putfield 13, 3) := e_181 (x := 0) (y := 13) drcL_shrink_0 7 rfl rfl
theorem dL_shrink_10 : decode cL_shrink 10 = .ok (.goto 9, 3) := e_167 (x := 0) (y := 9) drcL_shrink_0 10 rfl rfl
theorem dL_shrink_13 : decode cL_shrink 13 = .ok (.astore_n 3, 1) := dec_78 (gB drcL_shrink_0 13 rfl rfl)
theorem dL_shrink_14 : decode cL_shrink 14 = .ok (.iconst 1, 1) := dec_4 (gB drcL_shrink_0 14 rfl rfl)
theorem dL_shrink_15 : decode cL_shrink 15 = .ok (.ireturn, 1) := dec_172 (gB drcL_shrink_0 15 rfl rfl)
theorem dL_shrink_16 : decode cL_shrink 16 = .ok (.astore_n 3, 1) := dec_78 (gB drcL_shrink_0 16 rfl rfl)
theorem dL_shrink_17 : decode cL_shrink 17 = .ok (.iconst 2, 1) := dec_5 (gB drcL_shrink_0 17 rfl rfl)
theorem dL_shrink_18 : decode cL_shrink 18 = .ok (.ireturn, 1) := dec_172 (gB drcL_shrink_0 18 rfl rfl)
theorem dL_shrink_19 : decode cL_shrink 19 = .ok (.iconst 0, 1) := dec_3 (gB drcL_shrink_0 19 rfl rfl)
theorem dL_shrink_20 : decode cL_shrink 20 = .ok (.ireturn, 1) := dec_172 (gB drcL_shrink_0 20 rfl rfl)
def lkcL_fresh_0 : List UInt8 := [0x2c, 0x2a, 0x1b, 0xb6, 0x00, 0x56, 0x85, 0xb5, 0x00, 0x0d, 0xa7, 0x00, 0x06, 0x4e, 0x04, 0xac, 0x03, 0xac]
def tkcL_fresh_0 : List UInt8 := lkcL_fresh_0 ++ []
theorem drcL_fresh_0 : (cL_fresh).data.toList.drop 0 = lkcL_fresh_0 ++ [] := by decide +kernel
theorem dL_fresh_0 : decode cL_fresh 0 = .ok (.aload_n 2, 1) := dec_44 (gB drcL_fresh_0 0 rfl rfl)
theorem dL_fresh_1 : decode cL_fresh 1 = .ok (.aload_n 0, 1) := dec_42 (gB drcL_fresh_0 1 rfl rfl)
theorem dL_fresh_2 : decode cL_fresh 2 = .ok (.iload_n 1, 1) := dec_27 (gB drcL_fresh_0 2 rfl rfl)
theorem dL_fresh_3 : decode cL_fresh 3 = .ok (.invokevirtual 86, 3) := e_182 (x := 0) (y := 86) drcL_fresh_0 3 rfl rfl
theorem dL_fresh_6 : decode cL_fresh 6 = .ok (.i2l, 1) := dec_133 (gB drcL_fresh_0 6 rfl rfl)
theorem dL_fresh_7 : decode cL_fresh 7 = .ok (.putfield 13, 3) := e_181 (x := 0) (y := 13) drcL_fresh_0 7 rfl rfl
theorem dL_fresh_10 : decode cL_fresh 10 = .ok (.goto 6, 3) := e_167 (x := 0) (y := 6) drcL_fresh_0 10 rfl rfl
theorem dL_fresh_13 : decode cL_fresh 13 = .ok (.astore_n 3, 1) := dec_78 (gB drcL_fresh_0 13 rfl rfl)
theorem dL_fresh_14 : decode cL_fresh 14 = .ok (.iconst 1, 1) := dec_4 (gB drcL_fresh_0 14 rfl rfl)
theorem dL_fresh_15 : decode cL_fresh 15 = .ok (.ireturn, 1) := dec_172 (gB drcL_fresh_0 15 rfl rfl)
theorem dL_fresh_16 : decode cL_fresh 16 = .ok (.iconst 0, 1) := dec_3 (gB drcL_fresh_0 16 rfl rfl)
theorem dL_fresh_17 : decode cL_fresh 17 = .ok (.ireturn, 1) := dec_172 (gB drcL_fresh_0 17 rfl rfl)
def lkcL_length_0 : List UInt8 := [0x2c, 0x2a, 0x1b, 0xb6, 0x00, 0x59, 0x85, 0xb5, 0x00, 0x0d, 0xa7, 0x00, 0x06, 0x4e, 0x04, 0xac, 0x03, 0xac]
def tkcL_length_0 : List UInt8 := lkcL_length_0 ++ []
theorem drcL_length_0 : (cL_length).data.toList.drop 0 = lkcL_length_0 ++ [] := by decide +kernel
theorem dL_length_0 : decode cL_length 0 = .ok (.aload_n 2, 1) := dec_44 (gB drcL_length_0 0 rfl rfl)
theorem dL_length_1 : decode cL_length 1 = .ok (.aload_n 0, 1) := dec_42 (gB drcL_length_0 1 rfl rfl)
theorem dL_length_2 : decode cL_length 2 = .ok (.iload_n 1, 1) := dec_27 (gB drcL_length_0 2 rfl rfl)
theorem dL_length_3 : decode cL_length 3 = .ok (.invokevirtual 89, 3) := e_182 (x := 0) (y := 89) drcL_length_0 3 rfl rfl
theorem dL_length_6 : decode cL_length 6 = .ok (.i2l, 1) := dec_133 (gB drcL_length_0 6 rfl rfl)
theorem dL_length_7 : decode cL_length 7 = .ok (.putfield 13, 3) := e_181 (x := 0) (y := 13) drcL_length_0 7 rfl rfl
theorem dL_length_10 : decode cL_length 10 = .ok (.goto 6, 3) := e_167 (x := 0) (y := 6) drcL_length_0 10 rfl rfl
theorem dL_length_13 : decode cL_length 13 = .ok (.astore_n 3, 1) := dec_78 (gB drcL_length_0 13 rfl rfl)
theorem dL_length_14 : decode cL_length 14 = .ok (.iconst 1, 1) := dec_4 (gB drcL_length_0 14 rfl rfl)
theorem dL_length_15 : decode cL_length 15 = .ok (.ireturn, 1) := dec_172 (gB drcL_length_0 15 rfl rfl)
theorem dL_length_16 : decode cL_length 16 = .ok (.iconst 0, 1) := dec_3 (gB drcL_length_0 16 rfl rfl)
theorem dL_length_17 : decode cL_length 17 = .ok (.ireturn, 1) := dec_172 (gB drcL_length_0 17 rfl rfl)
def lkcL_isB_0 : List UInt8 := [0x2d, 0x2a, 0x1b, 0x1c, 0xb6, 0x00, 0x5c, 0x99, 0x00, 0x07, 0x0a, 0xa7, 0x00, 0x04, 0x09, 0xb5, 0x00, 0x0d, 0xa7, 0x00, 0x07, 0x3a, 0x04, 0x04, 0xac, 0x03, 0xac]
def tkcL_isB_0 : List UInt8 := lkcL_isB_0 ++ []
theorem drcL_isB_0 : (cL_isB).data.toList.drop 0 = lkcL_isB_0 ++ [] := by decide +kernel
theorem dL_isB_0 : decode cL_isB 0 = .ok (.aload_n 3, 1) := dec_45 (gB drcL_isB_0 0 rfl rfl)
theorem dL_isB_1 : decode cL_isB 1 = .ok (.aload_n 0, 1) := dec_42 (gB drcL_isB_0 1 rfl rfl)
theorem dL_isB_2 : decode cL_isB 2 = .ok (.iload_n 1, 1) := dec_27 (gB drcL_isB_0 2 rfl rfl)
theorem dL_isB_3 : decode cL_isB 3 = .ok (.iload_n 2, 1) := dec_28 (gB drcL_isB_0 3 rfl rfl)
theorem dL_isB_4 : decode cL_isB 4 = .ok (.invokevirtual 92, 3) := e_182 (x := 0) (y := 92) drcL_isB_0 4 rfl rfl
theorem dL_isB_7 : decode cL_isB 7 = .ok (.ifCond .eq 7, 3) := e_153 (x := 0) (y := 7) drcL_isB_0 7 rfl rfl
theorem dL_isB_10 : decode cL_isB 10 = .ok (.lconst 1, 1) := dec_10 (gB drcL_isB_0 10 rfl rfl)
theorem dL_isB_11 : decode cL_isB 11 = .ok (.goto 4, 3) := e_167 (x := 0) (y := 4) drcL_isB_0 11 rfl rfl
theorem dL_isB_14 : decode cL_isB 14 = .ok (.lconst 0, 1) := dec_9 (gB drcL_isB_0 14 rfl rfl)
theorem dL_isB_15 : decode cL_isB 15 = .ok (.putfield 13, 3) := e_181 (x := 0) (y := 13) drcL_isB_0 15 rfl rfl
theorem dL_isB_18 : decode cL_isB 18 = .ok (.goto 7, 3) := e_167 (x := 0) (y := 7) drcL_isB_0 18 rfl rfl
theorem dL_isB_21 : decode cL_isB 21 = .ok (.astore 4, 2) := e_58 (x := 4) drcL_isB_0 21 rfl rfl
theorem dL_isB_23 : decode cL_isB 23 = .ok (.iconst 1, 1) := dec_4 (gB drcL_isB_0 23 rfl rfl)
theorem dL_isB_24 : decode cL_isB 24 = .ok (.ireturn, 1) := dec_172 (gB drcL_isB_0 24 rfl rfl)
theorem dL_isB_25 : decode cL_isB 25 = .ok (.iconst 0, 1) := dec_3 (gB drcL_isB_0 25 rfl rfl)
theorem dL_isB_26 : decode cL_isB 26 = .ok (.ireturn, 1) := dec_172 (gB drcL_isB_0 26 rfl rfl)
def lkcL_text_0 : List UInt8 := [0x2c, 0x2a, 0x1b, 0xb6, 0x00, 0x60, 0xb5, 0x00, 0x64, 0xa7, 0x00, 0x06, 0x4e, 0x04, 0xac, 0x03, 0xac]
def tkcL_text_0 : List UInt8 := lkcL_text_0 ++ []
theorem drcL_text_0 : (cL_text).data.toList.drop 0 = lkcL_text_0 ++ [] := by decide +kernel
theorem dL_text_0 : decode cL_text 0 = .ok (.aload_n 2, 1) := dec_44 (gB drcL_text_0 0 rfl rfl)
theorem dL_text_1 : decode cL_text 1 = .ok (.aload_n 0, 1) := dec_42 (gB drcL_text_0 1 rfl rfl)
theorem dL_text_2 : decode cL_text 2 = .ok (.iload_n 1, 1) := dec_27 (gB drcL_text_0 2 rfl rfl)
theorem dL_text_3 : decode cL_text 3 = .ok (.invokevirtual 96, 3) := e_182 (x := 0) (y := 96) drcL_text_0 3 rfl rfl
theorem dL_text_6 : decode cL_text 6 = .ok (.putfield 100, 3) := e_181 (x := 0) (y := 100) drcL_text_0 6 rfl rfl
theorem dL_text_9 : decode cL_text 9 = .ok (.goto 6, 3) := e_167 (x := 0) (y := 6) drcL_text_0 9 rfl rfl
theorem dL_text_12 : decode cL_text 12 = .ok (.astore_n 3, 1) := dec_78 (gB drcL_text_0 12 rfl rfl)
theorem dL_text_13 : decode cL_text 13 = .ok (.iconst 1, 1) := dec_4 (gB drcL_text_0 13 rfl rfl)
theorem dL_text_14 : decode cL_text 14 = .ok (.ireturn, 1) := dec_172 (gB drcL_text_0 14 rfl rfl)
theorem dL_text_15 : decode cL_text 15 = .ok (.iconst 0, 1) := dec_3 (gB drcL_text_0 15 rfl rfl)
theorem dL_text_16 : decode cL_text 16 = .ok (.ireturn, 1) := dec_172 (gB drcL_text_0 16 rfl rfl)
def lkcL_count_0 : List UInt8 := [0x2d, 0x2a, 0x1b, 0x1c, 0xb6, 0x00, 0x68, 0x85, 0xb5, 0x00, 0x0d, 0xa7, 0x00, 0x07, 0x3a, 0x04, 0x04, 0xac, 0x03, 0xac]
def tkcL_count_0 : List UInt8 := lkcL_count_0 ++ []
theorem drcL_count_0 : (cL_count).data.toList.drop 0 = lkcL_count_0 ++ [] := by decide +kernel
theorem dL_count_0 : decode cL_count 0 = .ok (.aload_n 3, 1) := dec_45 (gB drcL_count_0 0 rfl rfl)
theorem dL_count_1 : decode cL_count 1 = .ok (.aload_n 0, 1) := dec_42 (gB drcL_count_0 1 rfl rfl)
theorem dL_count_2 : decode cL_count 2 = .ok (.iload_n 1, 1) := dec_27 (gB drcL_count_0 2 rfl rfl)
theorem dL_count_3 : decode cL_count 3 = .ok (.iload_n 2, 1) := dec_28 (gB drcL_count_0 3 rfl rfl)
theorem dL_count_4 : decode cL_count 4 = .ok (.invokevirtual 104, 3) := e_182 (x := 0) (y := 104) drcL_count_0 4 rfl rfl
theorem dL_count_7 : decode cL_count 7 = .ok (.i2l, 1) := dec_133 (gB drcL_count_0 7 rfl rfl)
theorem dL_count_8 : decode cL_count 8 = .ok (.putfield 13, 3) := e_181 (x := 0) (y := 13) drcL_count_0 8 rfl rfl
theorem dL_count_11 : decode cL_count 11 = .ok (.goto 7, 3) := e_167 (x := 0) (y := 7) drcL_count_0 11 rfl rfl
theorem dL_count_14 : decode cL_count 14 = .ok (.astore 4, 2) := e_58 (x := 4) drcL_count_0 14 rfl rfl
theorem dL_count_16 : decode cL_count 16 = .ok (.iconst 1, 1) := dec_4 (gB drcL_count_0 16 rfl rfl)
theorem dL_count_17 : decode cL_count 17 = .ok (.ireturn, 1) := dec_172 (gB drcL_count_0 17 rfl rfl)
theorem dL_count_18 : decode cL_count 18 = .ok (.iconst 0, 1) := dec_3 (gB drcL_count_0 18 rfl rfl)
theorem dL_count_19 : decode cL_count 19 = .ok (.ireturn, 1) := dec_172 (gB drcL_count_0 19 rfl rfl)
def lkcL_find_0 : List UInt8 := [0x19, 0x04, 0x2a, 0x1b, 0x1c, 0x1d, 0xb6, 0x00, 0x6c, 0x85, 0xb5, 0x00, 0x0d, 0xa7, 0x00, 0x07, 0x3a, 0x05, 0x04, 0xac, 0x03, 0xac]
def tkcL_find_0 : List UInt8 := lkcL_find_0 ++ []
theorem drcL_find_0 : (cL_find).data.toList.drop 0 = lkcL_find_0 ++ [] := by decide +kernel
theorem dL_find_0 : decode cL_find 0 = .ok (.aload 4, 2) := e_25 (x := 4) drcL_find_0 0 rfl rfl
theorem dL_find_2 : decode cL_find 2 = .ok (.aload_n 0, 1) := dec_42 (gB drcL_find_0 2 rfl rfl)
theorem dL_find_3 : decode cL_find 3 = .ok (.iload_n 1, 1) := dec_27 (gB drcL_find_0 3 rfl rfl)
theorem dL_find_4 : decode cL_find 4 = .ok (.iload_n 2, 1) := dec_28 (gB drcL_find_0 4 rfl rfl)
theorem dL_find_5 : decode cL_find 5 = .ok (.iload_n 3, 1) := dec_29 (gB drcL_find_0 5 rfl rfl)
theorem dL_find_6 : decode cL_find 6 = .ok (.invokevirtual 108, 3) := e_182 (x := 0) (y := 108) drcL_find_0 6 rfl rfl
theorem dL_find_9 : decode cL_find 9 = .ok (.i2l, 1) := dec_133 (gB drcL_find_0 9 rfl rfl)
theorem dL_find_10 : decode cL_find 10 = .ok (.putfield 13, 3) := e_181 (x := 0) (y := 13) drcL_find_0 10 rfl rfl
theorem dL_find_13 : decode cL_find 13 = .ok (.goto 7, 3) := e_167 (x := 0) (y := 7) drcL_find_0 13 rfl rfl
theorem dL_find_16 : decode cL_find 16 = .ok (.astore 5, 2) := e_58 (x := 5) drcL_find_0 16 rfl rfl
theorem dL_find_18 : decode cL_find 18 = .ok (.iconst 1, 1) := dec_4 (gB drcL_find_0 18 rfl rfl)
theorem dL_find_19 : decode cL_find 19 = .ok (.ireturn, 1) := dec_172 (gB drcL_find_0 19 rfl rfl)
theorem dL_find_20 : decode cL_find 20 = .ok (.iconst 0, 1) := dec_3 (gB drcL_find_0 20 rfl rfl)
theorem dL_find_21 : decode cL_find 21 = .ok (.ireturn, 1) := dec_172 (gB drcL_find_0 21 rfl rfl)
def lkcL_findLast_0 : List UInt8 := [0x19, 0x04, 0x2a, 0x1b, 0x1c, 0x1d, 0xb6, 0x00, 0x6f, 0x85, 0xb5, 0x00, 0x0d, 0xa7, 0x00, 0x07, 0x3a, 0x05, 0x04, 0xac, 0x03, 0xac]
def tkcL_findLast_0 : List UInt8 := lkcL_findLast_0 ++ []
theorem drcL_findLast_0 : (cL_findLast).data.toList.drop 0 = lkcL_findLast_0 ++ [] := by decide +kernel
theorem dL_findLast_0 : decode cL_findLast 0 = .ok (.aload 4, 2) := e_25 (x := 4) drcL_findLast_0 0 rfl rfl
theorem dL_findLast_2 : decode cL_findLast 2 = .ok (.aload_n 0, 1) := dec_42 (gB drcL_findLast_0 2 rfl rfl)
theorem dL_findLast_3 : decode cL_findLast 3 = .ok (.iload_n 1, 1) := dec_27 (gB drcL_findLast_0 3 rfl rfl)
theorem dL_findLast_4 : decode cL_findLast 4 = .ok (.iload_n 2, 1) := dec_28 (gB drcL_findLast_0 4 rfl rfl)
theorem dL_findLast_5 : decode cL_findLast 5 = .ok (.iload_n 3, 1) := dec_29 (gB drcL_findLast_0 5 rfl rfl)
theorem dL_findLast_6 : decode cL_findLast 6 = .ok (.invokevirtual 111, 3) := e_182 (x := 0) (y := 111) drcL_findLast_0 6 rfl rfl
theorem dL_findLast_9 : decode cL_findLast 9 = .ok (.i2l, 1) := dec_133 (gB drcL_findLast_0 9 rfl rfl)
theorem dL_findLast_10 : decode cL_findLast 10 = .ok (.putfield 13, 3) := e_181 (x := 0) (y := 13) drcL_findLast_0 10 rfl rfl
theorem dL_findLast_13 : decode cL_findLast 13 = .ok (.goto 7, 3) := e_167 (x := 0) (y := 7) drcL_findLast_0 13 rfl rfl
theorem dL_findLast_16 : decode cL_findLast 16 = .ok (.astore 5, 2) := e_58 (x := 5) drcL_findLast_0 16 rfl rfl
theorem dL_findLast_18 : decode cL_findLast 18 = .ok (.iconst 1, 1) := dec_4 (gB drcL_findLast_0 18 rfl rfl)
theorem dL_findLast_19 : decode cL_findLast 19 = .ok (.ireturn, 1) := dec_172 (gB drcL_findLast_0 19 rfl rfl)
theorem dL_findLast_20 : decode cL_findLast 20 = .ok (.iconst 0, 1) := dec_3 (gB drcL_findLast_0 20 rfl rfl)
theorem dL_findLast_21 : decode cL_findLast 21 = .ok (.ireturn, 1) := dec_172 (gB drcL_findLast_0 21 rfl rfl)
def lkcL_order_0 : List UInt8 := [0x2d, 0x2a, 0x1b, 0x1c, 0xb6, 0x00, 0x72, 0x85, 0xb5, 0x00, 0x0d, 0xa7, 0x00, 0x07, 0x3a, 0x04, 0x04, 0xac, 0x03, 0xac]
def tkcL_order_0 : List UInt8 := lkcL_order_0 ++ []
theorem drcL_order_0 : (cL_order).data.toList.drop 0 = lkcL_order_0 ++ [] := by decide +kernel
theorem dL_order_0 : decode cL_order 0 = .ok (.aload_n 3, 1) := dec_45 (gB drcL_order_0 0 rfl rfl)
theorem dL_order_1 : decode cL_order 1 = .ok (.aload_n 0, 1) := dec_42 (gB drcL_order_0 1 rfl rfl)
theorem dL_order_2 : decode cL_order 2 = .ok (.iload_n 1, 1) := dec_27 (gB drcL_order_0 2 rfl rfl)
theorem dL_order_3 : decode cL_order 3 = .ok (.iload_n 2, 1) := dec_28 (gB drcL_order_0 3 rfl rfl)
theorem dL_order_4 : decode cL_order 4 = .ok (.invokevirtual 114, 3) := e_182 (x := 0) (y := 114) drcL_order_0 4 rfl rfl
theorem dL_order_7 : decode cL_order 7 = .ok (.i2l, 1) := dec_133 (gB drcL_order_0 7 rfl rfl)
theorem dL_order_8 : decode cL_order 8 = .ok (.putfield 13, 3) := e_181 (x := 0) (y := 13) drcL_order_0 8 rfl rfl
theorem dL_order_11 : decode cL_order 11 = .ok (.goto 7, 3) := e_167 (x := 0) (y := 7) drcL_order_0 11 rfl rfl
theorem dL_order_14 : decode cL_order 14 = .ok (.astore 4, 2) := e_58 (x := 4) drcL_order_0 14 rfl rfl
theorem dL_order_16 : decode cL_order 16 = .ok (.iconst 1, 1) := dec_4 (gB drcL_order_0 16 rfl rfl)
theorem dL_order_17 : decode cL_order 17 = .ok (.ireturn, 1) := dec_172 (gB drcL_order_0 17 rfl rfl)
theorem dL_order_18 : decode cL_order 18 = .ok (.iconst 0, 1) := dec_3 (gB drcL_order_0 18 rfl rfl)
theorem dL_order_19 : decode cL_order 19 = .ok (.ireturn, 1) := dec_172 (gB drcL_order_0 19 rfl rfl)
def lkcL_isMirrored_0 : List UInt8 := [0x2c, 0x2a, 0x1b, 0xb6, 0x00, 0x75, 0x99, 0x00, 0x07, 0x0a, 0xa7, 0x00, 0x04, 0x09, 0xb5, 0x00, 0x0d, 0xa7, 0x00, 0x06, 0x4e, 0x04, 0xac, 0x03, 0xac]
def tkcL_isMirrored_0 : List UInt8 := lkcL_isMirrored_0 ++ []
theorem drcL_isMirrored_0 : (cL_isMirrored).data.toList.drop 0 = lkcL_isMirrored_0 ++ [] := by decide +kernel
theorem dL_isMirrored_0 : decode cL_isMirrored 0 = .ok (.aload_n 2, 1) := dec_44 (gB drcL_isMirrored_0 0 rfl rfl)
theorem dL_isMirrored_1 : decode cL_isMirrored 1 = .ok (.aload_n 0, 1) := dec_42 (gB drcL_isMirrored_0 1 rfl rfl)
theorem dL_isMirrored_2 : decode cL_isMirrored 2 = .ok (.iload_n 1, 1) := dec_27 (gB drcL_isMirrored_0 2 rfl rfl)
theorem dL_isMirrored_3 : decode cL_isMirrored 3 = .ok (.invokevirtual 117, 3) := e_182 (x := 0) (y := 117) drcL_isMirrored_0 3 rfl rfl
theorem dL_isMirrored_6 : decode cL_isMirrored 6 = .ok (.ifCond .eq 7, 3) := e_153 (x := 0) (y := 7) drcL_isMirrored_0 6 rfl rfl
theorem dL_isMirrored_9 : decode cL_isMirrored 9 = .ok (.lconst 1, 1) := dec_10 (gB drcL_isMirrored_0 9 rfl rfl)
theorem dL_isMirrored_10 : decode cL_isMirrored 10 = .ok (.goto 4, 3) := e_167 (x := 0) (y := 4) drcL_isMirrored_0 10 rfl rfl
theorem dL_isMirrored_13 : decode cL_isMirrored 13 = .ok (.lconst 0, 1) := dec_9 (gB drcL_isMirrored_0 13 rfl rfl)
theorem dL_isMirrored_14 : decode cL_isMirrored 14 = .ok (.putfield 13, 3) := e_181 (x := 0) (y := 13) drcL_isMirrored_0 14 rfl rfl
theorem dL_isMirrored_17 : decode cL_isMirrored 17 = .ok (.goto 6, 3) := e_167 (x := 0) (y := 6) drcL_isMirrored_0 17 rfl rfl
theorem dL_isMirrored_20 : decode cL_isMirrored 20 = .ok (.astore_n 3, 1) := dec_78 (gB drcL_isMirrored_0 20 rfl rfl)
theorem dL_isMirrored_21 : decode cL_isMirrored 21 = .ok (.iconst 1, 1) := dec_4 (gB drcL_isMirrored_0 21 rfl rfl)
theorem dL_isMirrored_22 : decode cL_isMirrored 22 = .ok (.ireturn, 1) := dec_172 (gB drcL_isMirrored_0 22 rfl rfl)
theorem dL_isMirrored_23 : decode cL_isMirrored 23 = .ok (.iconst 0, 1) := dec_3 (gB drcL_isMirrored_0 23 rfl rfl)
theorem dL_isMirrored_24 : decode cL_isMirrored 24 = .ok (.ireturn, 1) := dec_172 (gB drcL_isMirrored_0 24 rfl rfl)
def lkcL_spread_0 : List UInt8 := [0x19, 0x04, 0x2a, 0x1b, 0x1c, 0x1d, 0xb6, 0x00, 0x79, 0x85, 0xb5, 0x00, 0x0d, 0xa7, 0x00, 0x0b, 0x3a, 0x05, 0x04, 0xac, 0x3a, 0x05, 0x05, 0xac, 0x03, 0xac]
def tkcL_spread_0 : List UInt8 := lkcL_spread_0 ++ []
theorem drcL_spread_0 : (cL_spread).data.toList.drop 0 = lkcL_spread_0 ++ [] := by decide +kernel
theorem dL_spread_0 : decode cL_spread 0 = .ok (.aload 4, 2) := e_25 (x := 4) drcL_spread_0 0 rfl rfl
theorem dL_spread_2 : decode cL_spread 2 = .ok (.aload_n 0, 1) := dec_42 (gB drcL_spread_0 2 rfl rfl)
theorem dL_spread_3 : decode cL_spread 3 = .ok (.iload_n 1, 1) := dec_27 (gB drcL_spread_0 3 rfl rfl)
theorem dL_spread_4 : decode cL_spread 4 = .ok (.iload_n 2, 1) := dec_28 (gB drcL_spread_0 4 rfl rfl)
theorem dL_spread_5 : decode cL_spread 5 = .ok (.iload_n 3, 1) := dec_29 (gB drcL_spread_0 5 rfl rfl)
theorem dL_spread_6 : decode cL_spread 6 = .ok (.invokevirtual 121, 3) := e_182 (x := 0) (y := 121) drcL_spread_0 6 rfl rfl
theorem dL_spread_9 : decode cL_spread 9 = .ok (.i2l, 1) := dec_133 (gB drcL_spread_0 9 rfl rfl)
theorem dL_spread_10 : decode cL_spread 10 = .ok (.putfield 13, 3) := e_181 (x := 0) (y := 13) drcL_spread_0 10 rfl rfl
theorem dL_spread_13 : decode cL_spread 13 = .ok (.goto 11, 3) := e_167 (x := 0) (y := 11) drcL_spread_0 13 rfl rfl
theorem dL_spread_16 : decode cL_spread 16 = .ok (.astore 5, 2) := e_58 (x := 5) drcL_spread_0 16 rfl rfl
theorem dL_spread_18 : decode cL_spread 18 = .ok (.iconst 1, 1) := dec_4 (gB drcL_spread_0 18 rfl rfl)
theorem dL_spread_19 : decode cL_spread 19 = .ok (.ireturn, 1) := dec_172 (gB drcL_spread_0 19 rfl rfl)
theorem dL_spread_20 : decode cL_spread 20 = .ok (.astore 5, 2) := e_58 (x := 5) drcL_spread_0 20 rfl rfl
theorem dL_spread_22 : decode cL_spread 22 = .ok (.iconst 2, 1) := dec_5 (gB drcL_spread_0 22 rfl rfl)
theorem dL_spread_23 : decode cL_spread 23 = .ok (.ireturn, 1) := dec_172 (gB drcL_spread_0 23 rfl rfl)
theorem dL_spread_24 : decode cL_spread 24 = .ok (.iconst 0, 1) := dec_3 (gB drcL_spread_0 24 rfl rfl)
theorem dL_spread_25 : decode cL_spread 25 = .ok (.ireturn, 1) := dec_172 (gB drcL_spread_0 25 rfl rfl)
def lkcL_kinds_0 : List UInt8 := [0x19, 0x04, 0x2a, 0x1b, 0x1c, 0x1d, 0xb6, 0x00, 0x7c, 0x85, 0xb5, 0x00, 0x0d, 0xa7, 0x00, 0x0b, 0x3a, 0x05, 0x04, 0xac, 0x3a, 0x05, 0x05, 0xac, 0x03, 0xac]
def tkcL_kinds_0 : List UInt8 := lkcL_kinds_0 ++ []
theorem drcL_kinds_0 : (cL_kinds).data.toList.drop 0 = lkcL_kinds_0 ++ [] := by decide +kernel
theorem dL_kinds_0 : decode cL_kinds 0 = .ok (.aload 4, 2) := e_25 (x := 4) drcL_kinds_0 0 rfl rfl
theorem dL_kinds_2 : decode cL_kinds 2 = .ok (.aload_n 0, 1) := dec_42 (gB drcL_kinds_0 2 rfl rfl)
theorem dL_kinds_3 : decode cL_kinds 3 = .ok (.iload_n 1, 1) := dec_27 (gB drcL_kinds_0 3 rfl rfl)
theorem dL_kinds_4 : decode cL_kinds 4 = .ok (.iload_n 2, 1) := dec_28 (gB drcL_kinds_0 4 rfl rfl)
theorem dL_kinds_5 : decode cL_kinds 5 = .ok (.iload_n 3, 1) := dec_29 (gB drcL_kinds_0 5 rfl rfl)
theorem dL_kinds_6 : decode cL_kinds 6 = .ok (.invokevirtual 124, 3) := e_182 (x := 0) (y := 124) drcL_kinds_0 6 rfl rfl
theorem dL_kinds_9 : decode cL_kinds 9 = .ok (.i2l, 1) := dec_133 (gB drcL_kinds_0 9 rfl rfl)
theorem dL_kinds_10 : decode cL_kinds 10 = .ok (.putfield 13, 3) := e_181 (x := 0) (y := 13) drcL_kinds_0 10 rfl rfl
theorem dL_kinds_13 : decode cL_kinds 13 = .ok (.goto 11, 3) := e_167 (x := 0) (y := 11) drcL_kinds_0 13 rfl rfl
theorem dL_kinds_16 : decode cL_kinds 16 = .ok (.astore 5, 2) := e_58 (x := 5) drcL_kinds_0 16 rfl rfl
theorem dL_kinds_18 : decode cL_kinds 18 = .ok (.iconst 1, 1) := dec_4 (gB drcL_kinds_0 18 rfl rfl)
theorem dL_kinds_19 : decode cL_kinds 19 = .ok (.ireturn, 1) := dec_172 (gB drcL_kinds_0 19 rfl rfl)
theorem dL_kinds_20 : decode cL_kinds 20 = .ok (.astore 5, 2) := e_58 (x := 5) drcL_kinds_0 20 rfl rfl
theorem dL_kinds_22 : decode cL_kinds 22 = .ok (.iconst 2, 1) := dec_5 (gB drcL_kinds_0 22 rfl rfl)
theorem dL_kinds_23 : decode cL_kinds 23 = .ok (.ireturn, 1) := dec_172 (gB drcL_kinds_0 23 rfl rfl)
theorem dL_kinds_24 : decode cL_kinds 24 = .ok (.iconst 0, 1) := dec_3 (gB drcL_kinds_0 24 rfl rfl)
theorem dL_kinds_25 : decode cL_kinds 25 = .ok (.ireturn, 1) := dec_172 (gB drcL_kinds_0 25 rfl rfl)
def lkcL_times_0 : List UInt8 := [0x2c, 0x2a, 0x1b, 0xb6, 0x00, 0x7f, 0x85, 0xb5, 0x00, 0x0d, 0xa7, 0x00, 0x06, 0x4e, 0x04, 0xac, 0x03, 0xac]
def tkcL_times_0 : List UInt8 := lkcL_times_0 ++ []
theorem drcL_times_0 : (cL_times).data.toList.drop 0 = lkcL_times_0 ++ [] := by decide +kernel
theorem dL_times_0 : decode cL_times 0 = .ok (.aload_n 2, 1) := dec_44 (gB drcL_times_0 0 rfl rfl)
theorem dL_times_1 : decode cL_times 1 = .ok (.aload_n 0, 1) := dec_42 (gB drcL_times_0 1 rfl rfl)
theorem dL_times_2 : decode cL_times 2 = .ok (.iload_n 1, 1) := dec_27 (gB drcL_times_0 2 rfl rfl)
theorem dL_times_3 : decode cL_times 3 = .ok (.invokevirtual 127, 3) := e_182 (x := 0) (y := 127) drcL_times_0 3 rfl rfl
theorem dL_times_6 : decode cL_times 6 = .ok (.i2l, 1) := dec_133 (gB drcL_times_0 6 rfl rfl)
theorem dL_times_7 : decode cL_times 7 = .ok (.putfield 13, 3) := e_181 (x := 0) (y := 13) drcL_times_0 7 rfl rfl
theorem dL_times_10 : decode cL_times 10 = .ok (.goto 6, 3) := e_167 (x := 0) (y := 6) drcL_times_0 10 rfl rfl
theorem dL_times_13 : decode cL_times 13 = .ok (.astore_n 3, 1) := dec_78 (gB drcL_times_0 13 rfl rfl)
theorem dL_times_14 : decode cL_times 14 = .ok (.iconst 1, 1) := dec_4 (gB drcL_times_0 14 rfl rfl)
theorem dL_times_15 : decode cL_times 15 = .ok (.ireturn, 1) := dec_172 (gB drcL_times_0 15 rfl rfl)
theorem dL_times_16 : decode cL_times 16 = .ok (.iconst 0, 1) := dec_3 (gB drcL_times_0 16 rfl rfl)
theorem dL_times_17 : decode cL_times 17 = .ok (.ireturn, 1) := dec_172 (gB drcL_times_0 17 rfl rfl)
def lkcL_overlaps_0 : List UInt8 := [0x2c, 0x2a, 0x1b, 0xb6, 0x00, 0x82, 0x85, 0xb5, 0x00, 0x0d, 0xa7, 0x00, 0x06, 0x4e, 0x04, 0xac, 0x03, 0xac]
def tkcL_overlaps_0 : List UInt8 := lkcL_overlaps_0 ++ []
theorem drcL_overlaps_0 : (cL_overlaps).data.toList.drop 0 = lkcL_overlaps_0 ++ [] := by decide +kernel
theorem dL_overlaps_0 : decode cL_overlaps 0 = .ok (.aload_n 2, 1) := dec_44 (gB drcL_overlaps_0 0 rfl rfl)
theorem dL_overlaps_1 : decode cL_overlaps 1 = .ok (.aload_n 0, 1) := dec_42 (gB drcL_overlaps_0 1 rfl rfl)
theorem dL_overlaps_2 : decode cL_overlaps 2 = .ok (.iload_n 1, 1) := dec_27 (gB drcL_overlaps_0 2 rfl rfl)
theorem dL_overlaps_3 : decode cL_overlaps 3 = .ok (.invokevirtual 130, 3) := e_182 (x := 0) (y := 130) drcL_overlaps_0 3 rfl rfl
theorem dL_overlaps_6 : decode cL_overlaps 6 = .ok (.i2l, 1) := dec_133 (gB drcL_overlaps_0 6 rfl rfl)
theorem dL_overlaps_7 : decode cL_overlaps 7 = .ok (.putfield 13, 3) := e_181 (x := 0) (y := 13) drcL_overlaps_0 7 rfl rfl
theorem dL_overlaps_10 : decode cL_overlaps 10 = .ok (.goto 6, 3) := e_167 (x := 0) (y := 6) drcL_overlaps_0 10 rfl rfl
theorem dL_overlaps_13 : decode cL_overlaps 13 = .ok (.astore_n 3, 1) := dec_78 (gB drcL_overlaps_0 13 rfl rfl)
theorem dL_overlaps_14 : decode cL_overlaps 14 = .ok (.iconst 1, 1) := dec_4 (gB drcL_overlaps_0 14 rfl rfl)
theorem dL_overlaps_15 : decode cL_overlaps 15 = .ok (.ireturn, 1) := dec_172 (gB drcL_overlaps_0 15 rfl rfl)
theorem dL_overlaps_16 : decode cL_overlaps 16 = .ok (.iconst 0, 1) := dec_3 (gB drcL_overlaps_0 16 rfl rfl)
theorem dL_overlaps_17 : decode cL_overlaps 17 = .ok (.ireturn, 1) := dec_172 (gB drcL_overlaps_0 17 rfl rfl)
def lkcL_mirrors_0 : List UInt8 := [0x2c, 0x2a, 0x1b, 0xb6, 0x00, 0x85, 0x85, 0xb5, 0x00, 0x0d, 0xa7, 0x00, 0x06, 0x4e, 0x04, 0xac, 0x03, 0xac]
def tkcL_mirrors_0 : List UInt8 := lkcL_mirrors_0 ++ []
theorem drcL_mirrors_0 : (cL_mirrors).data.toList.drop 0 = lkcL_mirrors_0 ++ [] := by decide +kernel
theorem dL_mirrors_0 : decode cL_mirrors 0 = .ok (.aload_n 2, 1) := dec_44 (gB drcL_mirrors_0 0 rfl rfl)
theorem dL_mirrors_1 : decode cL_mirrors 1 = .ok (.aload_n 0, 1) := dec_42 (gB drcL_mirrors_0 1 rfl rfl)
theorem dL_mirrors_2 : decode cL_mirrors 2 = .ok (.iload_n 1, 1) := dec_27 (gB drcL_mirrors_0 2 rfl rfl)
theorem dL_mirrors_3 : decode cL_mirrors 3 = .ok (.invokevirtual 133, 3) := e_182 (x := 0) (y := 133) drcL_mirrors_0 3 rfl rfl
theorem dL_mirrors_6 : decode cL_mirrors 6 = .ok (.i2l, 1) := dec_133 (gB drcL_mirrors_0 6 rfl rfl)
theorem dL_mirrors_7 : decode cL_mirrors 7 = .ok (.putfield 13, 3) := e_181 (x := 0) (y := 13) drcL_mirrors_0 7 rfl rfl
theorem dL_mirrors_10 : decode cL_mirrors 10 = .ok (.goto 6, 3) := e_167 (x := 0) (y := 6) drcL_mirrors_0 10 rfl rfl
theorem dL_mirrors_13 : decode cL_mirrors 13 = .ok (.astore_n 3, 1) := dec_78 (gB drcL_mirrors_0 13 rfl rfl)
theorem dL_mirrors_14 : decode cL_mirrors 14 = .ok (.iconst 1, 1) := dec_4 (gB drcL_mirrors_0 14 rfl rfl)
theorem dL_mirrors_15 : decode cL_mirrors 15 = .ok (.ireturn, 1) := dec_172 (gB drcL_mirrors_0 15 rfl rfl)
theorem dL_mirrors_16 : decode cL_mirrors 16 = .ok (.iconst 0, 1) := dec_3 (gB drcL_mirrors_0 16 rfl rfl)
theorem dL_mirrors_17 : decode cL_mirrors 17 = .ok (.ireturn, 1) := dec_172 (gB drcL_mirrors_0 17 rfl rfl)
def lkcL_folds_0 : List UInt8 := [0x2c, 0x2a, 0x1b, 0xb6, 0x00, 0x88, 0x85, 0xb5, 0x00, 0x0d, 0xa7, 0x00, 0x06, 0x4e, 0x04, 0xac, 0x03, 0xac]
def tkcL_folds_0 : List UInt8 := lkcL_folds_0 ++ []
theorem drcL_folds_0 : (cL_folds).data.toList.drop 0 = lkcL_folds_0 ++ [] := by decide +kernel
theorem dL_folds_0 : decode cL_folds 0 = .ok (.aload_n 2, 1) := dec_44 (gB drcL_folds_0 0 rfl rfl)
theorem dL_folds_1 : decode cL_folds 1 = .ok (.aload_n 0, 1) := dec_42 (gB drcL_folds_0 1 rfl rfl)
theorem dL_folds_2 : decode cL_folds 2 = .ok (.iload_n 1, 1) := dec_27 (gB drcL_folds_0 2 rfl rfl)
theorem dL_folds_3 : decode cL_folds 3 = .ok (.invokevirtual 136, 3) := e_182 (x := 0) (y := 136) drcL_folds_0 3 rfl rfl
theorem dL_folds_6 : decode cL_folds 6 = .ok (.i2l, 1) := dec_133 (gB drcL_folds_0 6 rfl rfl)
theorem dL_folds_7 : decode cL_folds 7 = .ok (.putfield 13, 3) := e_181 (x := 0) (y := 13) drcL_folds_0 7 rfl rfl
theorem dL_folds_10 : decode cL_folds 10 = .ok (.goto 6, 3) := e_167 (x := 0) (y := 6) drcL_folds_0 10 rfl rfl
theorem dL_folds_13 : decode cL_folds 13 = .ok (.astore_n 3, 1) := dec_78 (gB drcL_folds_0 13 rfl rfl)
theorem dL_folds_14 : decode cL_folds 14 = .ok (.iconst 1, 1) := dec_4 (gB drcL_folds_0 14 rfl rfl)
theorem dL_folds_15 : decode cL_folds 15 = .ok (.ireturn, 1) := dec_172 (gB drcL_folds_0 15 rfl rfl)
theorem dL_folds_16 : decode cL_folds 16 = .ok (.iconst 0, 1) := dec_3 (gB drcL_folds_0 16 rfl rfl)
theorem dL_folds_17 : decode cL_folds 17 = .ok (.ireturn, 1) := dec_172 (gB drcL_folds_0 17 rfl rfl)
def lkcL_least_0 : List UInt8 := [0x2c, 0x2a, 0x1b, 0xb6, 0x00, 0x8b, 0x85, 0xb5, 0x00, 0x0d, 0xa7, 0x00, 0x06, 0x4e, 0x04, 0xac, 0x03, 0xac]
def tkcL_least_0 : List UInt8 := lkcL_least_0 ++ []
theorem drcL_least_0 : (cL_least).data.toList.drop 0 = lkcL_least_0 ++ [] := by decide +kernel
theorem dL_least_0 : decode cL_least 0 = .ok (.aload_n 2, 1) := dec_44 (gB drcL_least_0 0 rfl rfl)
theorem dL_least_1 : decode cL_least 1 = .ok (.aload_n 0, 1) := dec_42 (gB drcL_least_0 1 rfl rfl)
theorem dL_least_2 : decode cL_least 2 = .ok (.iload_n 1, 1) := dec_27 (gB drcL_least_0 2 rfl rfl)
theorem dL_least_3 : decode cL_least 3 = .ok (.invokevirtual 139, 3) := e_182 (x := 0) (y := 139) drcL_least_0 3 rfl rfl
theorem dL_least_6 : decode cL_least 6 = .ok (.i2l, 1) := dec_133 (gB drcL_least_0 6 rfl rfl)
theorem dL_least_7 : decode cL_least 7 = .ok (.putfield 13, 3) := e_181 (x := 0) (y := 13) drcL_least_0 7 rfl rfl
theorem dL_least_10 : decode cL_least 10 = .ok (.goto 6, 3) := e_167 (x := 0) (y := 6) drcL_least_0 10 rfl rfl
theorem dL_least_13 : decode cL_least 13 = .ok (.astore_n 3, 1) := dec_78 (gB drcL_least_0 13 rfl rfl)
theorem dL_least_14 : decode cL_least 14 = .ok (.iconst 1, 1) := dec_4 (gB drcL_least_0 14 rfl rfl)
theorem dL_least_15 : decode cL_least 15 = .ok (.ireturn, 1) := dec_172 (gB drcL_least_0 15 rfl rfl)
theorem dL_least_16 : decode cL_least 16 = .ok (.iconst 0, 1) := dec_3 (gB drcL_least_0 16 rfl rfl)
theorem dL_least_17 : decode cL_least 17 = .ok (.ireturn, 1) := dec_172 (gB drcL_least_0 17 rfl rfl)
def lkcL_isApart_0 : List UInt8 := [0x2d, 0x2a, 0x1b, 0x1c, 0xb6, 0x00, 0x8e, 0x99, 0x00, 0x07, 0x0a, 0xa7, 0x00, 0x04, 0x09, 0xb5, 0x00, 0x0d, 0xa7, 0x00, 0x07, 0x3a, 0x04, 0x04, 0xac, 0x03, 0xac]
def tkcL_isApart_0 : List UInt8 := lkcL_isApart_0 ++ []
theorem drcL_isApart_0 : (cL_isApart).data.toList.drop 0 = lkcL_isApart_0 ++ [] := by decide +kernel
theorem dL_isApart_0 : decode cL_isApart 0 = .ok (.aload_n 3, 1) := dec_45 (gB drcL_isApart_0 0 rfl rfl)
theorem dL_isApart_1 : decode cL_isApart 1 = .ok (.aload_n 0, 1) := dec_42 (gB drcL_isApart_0 1 rfl rfl)
theorem dL_isApart_2 : decode cL_isApart 2 = .ok (.iload_n 1, 1) := dec_27 (gB drcL_isApart_0 2 rfl rfl)
theorem dL_isApart_3 : decode cL_isApart 3 = .ok (.iload_n 2, 1) := dec_28 (gB drcL_isApart_0 3 rfl rfl)
theorem dL_isApart_4 : decode cL_isApart 4 = .ok (.invokevirtual 142, 3) := e_182 (x := 0) (y := 142) drcL_isApart_0 4 rfl rfl
theorem dL_isApart_7 : decode cL_isApart 7 = .ok (.ifCond .eq 7, 3) := e_153 (x := 0) (y := 7) drcL_isApart_0 7 rfl rfl
theorem dL_isApart_10 : decode cL_isApart 10 = .ok (.lconst 1, 1) := dec_10 (gB drcL_isApart_0 10 rfl rfl)
theorem dL_isApart_11 : decode cL_isApart 11 = .ok (.goto 4, 3) := e_167 (x := 0) (y := 4) drcL_isApart_0 11 rfl rfl
theorem dL_isApart_14 : decode cL_isApart 14 = .ok (.lconst 0, 1) := dec_9 (gB drcL_isApart_0 14 rfl rfl)
theorem dL_isApart_15 : decode cL_isApart 15 = .ok (.putfield 13, 3) := e_181 (x := 0) (y := 13) drcL_isApart_0 15 rfl rfl
theorem dL_isApart_18 : decode cL_isApart 18 = .ok (.goto 7, 3) := e_167 (x := 0) (y := 7) drcL_isApart_0 18 rfl rfl
theorem dL_isApart_21 : decode cL_isApart 21 = .ok (.astore 4, 2) := e_58 (x := 4) drcL_isApart_0 21 rfl rfl
theorem dL_isApart_23 : decode cL_isApart 23 = .ok (.iconst 1, 1) := dec_4 (gB drcL_isApart_0 23 rfl rfl)
theorem dL_isApart_24 : decode cL_isApart 24 = .ok (.ireturn, 1) := dec_172 (gB drcL_isApart_0 24 rfl rfl)
theorem dL_isApart_25 : decode cL_isApart 25 = .ok (.iconst 0, 1) := dec_3 (gB drcL_isApart_0 25 rfl rfl)
theorem dL_isApart_26 : decode cL_isApart 26 = .ok (.ireturn, 1) := dec_172 (gB drcL_isApart_0 26 rfl rfl)
def lkcL_turns_0 : List UInt8 := [0x2c, 0x2a, 0x1b, 0xb6, 0x00, 0x91, 0xb5, 0x00, 0x64, 0xa7, 0x00, 0x06, 0x4e, 0x04, 0xac, 0x03, 0xac]
def tkcL_turns_0 : List UInt8 := lkcL_turns_0 ++ []
theorem drcL_turns_0 : (cL_turns).data.toList.drop 0 = lkcL_turns_0 ++ [] := by decide +kernel
theorem dL_turns_0 : decode cL_turns 0 = .ok (.aload_n 2, 1) := dec_44 (gB drcL_turns_0 0 rfl rfl)
theorem dL_turns_1 : decode cL_turns 1 = .ok (.aload_n 0, 1) := dec_42 (gB drcL_turns_0 1 rfl rfl)
theorem dL_turns_2 : decode cL_turns 2 = .ok (.iload_n 1, 1) := dec_27 (gB drcL_turns_0 2 rfl rfl)
theorem dL_turns_3 : decode cL_turns 3 = .ok (.invokevirtual 145, 3) := e_182 (x := 0) (y := 145) drcL_turns_0 3 rfl rfl
theorem dL_turns_6 : decode cL_turns 6 = .ok (.putfield 100, 3) := e_181 (x := 0) (y := 100) drcL_turns_0 6 rfl rfl
theorem dL_turns_9 : decode cL_turns 9 = .ok (.goto 6, 3) := e_167 (x := 0) (y := 6) drcL_turns_0 9 rfl rfl
theorem dL_turns_12 : decode cL_turns 12 = .ok (.astore_n 3, 1) := dec_78 (gB drcL_turns_0 12 rfl rfl)
theorem dL_turns_13 : decode cL_turns 13 = .ok (.iconst 1, 1) := dec_4 (gB drcL_turns_0 13 rfl rfl)
theorem dL_turns_14 : decode cL_turns 14 = .ok (.ireturn, 1) := dec_172 (gB drcL_turns_0 14 rfl rfl)
theorem dL_turns_15 : decode cL_turns 15 = .ok (.iconst 0, 1) := dec_3 (gB drcL_turns_0 15 rfl rfl)
theorem dL_turns_16 : decode cL_turns 16 = .ok (.ireturn, 1) := dec_172 (gB drcL_turns_0 16 rfl rfl)
def lkcL_grown_0 : List UInt8 := [0x2d, 0x2a, 0x1b, 0x1c, 0xb6, 0x00, 0x94, 0xb5, 0x00, 0x64, 0xa7, 0x00, 0x07, 0x3a, 0x04, 0x04, 0xac, 0x03, 0xac]
def tkcL_grown_0 : List UInt8 := lkcL_grown_0 ++ []
theorem drcL_grown_0 : (cL_grown).data.toList.drop 0 = lkcL_grown_0 ++ [] := by decide +kernel
theorem dL_grown_0 : decode cL_grown 0 = .ok (.aload_n 3, 1) := dec_45 (gB drcL_grown_0 0 rfl rfl)
theorem dL_grown_1 : decode cL_grown 1 = .ok (.aload_n 0, 1) := dec_42 (gB drcL_grown_0 1 rfl rfl)
theorem dL_grown_2 : decode cL_grown 2 = .ok (.iload_n 1, 1) := dec_27 (gB drcL_grown_0 2 rfl rfl)
theorem dL_grown_3 : decode cL_grown 3 = .ok (.iload_n 2, 1) := dec_28 (gB drcL_grown_0 3 rfl rfl)
theorem dL_grown_4 : decode cL_grown 4 = .ok (.invokevirtual 148, 3) := e_182 (x := 0) (y := 148) drcL_grown_0 4 rfl rfl
theorem dL_grown_7 : decode cL_grown 7 = .ok (.putfield 100, 3) := e_181 (x := 0) (y := 100) drcL_grown_0 7 rfl rfl
theorem dL_grown_10 : decode cL_grown 10 = .ok (.goto 7, 3) := e_167 (x := 0) (y := 7) drcL_grown_0 10 rfl rfl
theorem dL_grown_13 : decode cL_grown 13 = .ok (.astore 4, 2) := e_58 (x := 4) drcL_grown_0 13 rfl rfl
theorem dL_grown_15 : decode cL_grown 15 = .ok (.iconst 1, 1) := dec_4 (gB drcL_grown_0 15 rfl rfl)
theorem dL_grown_16 : decode cL_grown 16 = .ok (.ireturn, 1) := dec_172 (gB drcL_grown_0 16 rfl rfl)
theorem dL_grown_17 : decode cL_grown 17 = .ok (.iconst 0, 1) := dec_3 (gB drcL_grown_0 17 rfl rfl)
theorem dL_grown_18 : decode cL_grown 18 = .ok (.ireturn, 1) := dec_172 (gB drcL_grown_0 18 rfl rfl)
def lkcL_size_0 : List UInt8 := [0x2d, 0x2a, 0x1b, 0x1c, 0xb6, 0x00, 0x98, 0x85, 0xb5, 0x00, 0x0d, 0xa7, 0x00, 0x07, 0x3a, 0x04, 0x04, 0xac, 0x03, 0xac]
def tkcL_size_0 : List UInt8 := lkcL_size_0 ++ []
theorem drcL_size_0 : (cL_size).data.toList.drop 0 = lkcL_size_0 ++ [] := by decide +kernel
theorem dL_size_0 : decode cL_size 0 = .ok (.aload_n 3, 1) := dec_45 (gB drcL_size_0 0 rfl rfl)
theorem dL_size_1 : decode cL_size 1 = .ok (.aload_n 0, 1) := dec_42 (gB drcL_size_0 1 rfl rfl)
theorem dL_size_2 : decode cL_size 2 = .ok (.iload_n 1, 1) := dec_27 (gB drcL_size_0 2 rfl rfl)
theorem dL_size_3 : decode cL_size 3 = .ok (.iload_n 2, 1) := dec_28 (gB drcL_size_0 3 rfl rfl)
theorem dL_size_4 : decode cL_size 4 = .ok (.invokevirtual 152, 3) := e_182 (x := 0) (y := 152) drcL_size_0 4 rfl rfl
theorem dL_size_7 : decode cL_size 7 = .ok (.i2l, 1) := dec_133 (gB drcL_size_0 7 rfl rfl)
theorem dL_size_8 : decode cL_size 8 = .ok (.putfield 13, 3) := e_181 (x := 0) (y := 13) drcL_size_0 8 rfl rfl
theorem dL_size_11 : decode cL_size 11 = .ok (.goto 7, 3) := e_167 (x := 0) (y := 7) drcL_size_0 11 rfl rfl
theorem dL_size_14 : decode cL_size 14 = .ok (.astore 4, 2) := e_58 (x := 4) drcL_size_0 14 rfl rfl
theorem dL_size_16 : decode cL_size 16 = .ok (.iconst 1, 1) := dec_4 (gB drcL_size_0 16 rfl rfl)
theorem dL_size_17 : decode cL_size 17 = .ok (.ireturn, 1) := dec_172 (gB drcL_size_0 17 rfl rfl)
theorem dL_size_18 : decode cL_size 18 = .ok (.iconst 0, 1) := dec_3 (gB drcL_size_0 18 rfl rfl)
theorem dL_size_19 : decode cL_size 19 = .ok (.ireturn, 1) := dec_172 (gB drcL_size_0 19 rfl rfl)
def lkcL_ups_0 : List UInt8 := [0x2d, 0x2a, 0x1b, 0x1c, 0xb6, 0x00, 0x9b, 0x85, 0xb5, 0x00, 0x0d, 0xa7, 0x00, 0x07, 0x3a, 0x04, 0x04, 0xac, 0x03, 0xac]
def tkcL_ups_0 : List UInt8 := lkcL_ups_0 ++ []
theorem drcL_ups_0 : (cL_ups).data.toList.drop 0 = lkcL_ups_0 ++ [] := by decide +kernel
theorem dL_ups_0 : decode cL_ups 0 = .ok (.aload_n 3, 1) := dec_45 (gB drcL_ups_0 0 rfl rfl)
theorem dL_ups_1 : decode cL_ups 1 = .ok (.aload_n 0, 1) := dec_42 (gB drcL_ups_0 1 rfl rfl)
theorem dL_ups_2 : decode cL_ups 2 = .ok (.iload_n 1, 1) := dec_27 (gB drcL_ups_0 2 rfl rfl)
theorem dL_ups_3 : decode cL_ups 3 = .ok (.iload_n 2, 1) := dec_28 (gB drcL_ups_0 3 rfl rfl)
theorem dL_ups_4 : decode cL_ups 4 = .ok (.invokevirtual 155, 3) := e_182 (x := 0) (y := 155) drcL_ups_0 4 rfl rfl
theorem dL_ups_7 : decode cL_ups 7 = .ok (.i2l, 1) := dec_133 (gB drcL_ups_0 7 rfl rfl)
theorem dL_ups_8 : decode cL_ups 8 = .ok (.putfield 13, 3) := e_181 (x := 0) (y := 13) drcL_ups_0 8 rfl rfl
theorem dL_ups_11 : decode cL_ups 11 = .ok (.goto 7, 3) := e_167 (x := 0) (y := 7) drcL_ups_0 11 rfl rfl
theorem dL_ups_14 : decode cL_ups 14 = .ok (.astore 4, 2) := e_58 (x := 4) drcL_ups_0 14 rfl rfl
theorem dL_ups_16 : decode cL_ups 16 = .ok (.iconst 1, 1) := dec_4 (gB drcL_ups_0 16 rfl rfl)
theorem dL_ups_17 : decode cL_ups 17 = .ok (.ireturn, 1) := dec_172 (gB drcL_ups_0 17 rfl rfl)
theorem dL_ups_18 : decode cL_ups 18 = .ok (.iconst 0, 1) := dec_3 (gB drcL_ups_0 18 rfl rfl)
theorem dL_ups_19 : decode cL_ups 19 = .ok (.ireturn, 1) := dec_172 (gB drcL_ups_0 19 rfl rfl)
def lkcL_cross_0 : List UInt8 := [0x2c, 0x2a, 0x1b, 0xb6, 0x00, 0x9e, 0x85, 0xb5, 0x00, 0x0d, 0xa7, 0x00, 0x06, 0x4e, 0x04, 0xac, 0x03, 0xac]
def tkcL_cross_0 : List UInt8 := lkcL_cross_0 ++ []
theorem drcL_cross_0 : (cL_cross).data.toList.drop 0 = lkcL_cross_0 ++ [] := by decide +kernel
theorem dL_cross_0 : decode cL_cross 0 = .ok (.aload_n 2, 1) := dec_44 (gB drcL_cross_0 0 rfl rfl)
theorem dL_cross_1 : decode cL_cross 1 = .ok (.aload_n 0, 1) := dec_42 (gB drcL_cross_0 1 rfl rfl)
theorem dL_cross_2 : decode cL_cross 2 = .ok (.iload_n 1, 1) := dec_27 (gB drcL_cross_0 2 rfl rfl)
theorem dL_cross_3 : decode cL_cross 3 = .ok (.invokevirtual 158, 3) := e_182 (x := 0) (y := 158) drcL_cross_0 3 rfl rfl
theorem dL_cross_6 : decode cL_cross 6 = .ok (.i2l, 1) := dec_133 (gB drcL_cross_0 6 rfl rfl)
theorem dL_cross_7 : decode cL_cross 7 = .ok (.putfield 13, 3) := e_181 (x := 0) (y := 13) drcL_cross_0 7 rfl rfl
theorem dL_cross_10 : decode cL_cross 10 = .ok (.goto 6, 3) := e_167 (x := 0) (y := 6) drcL_cross_0 10 rfl rfl
theorem dL_cross_13 : decode cL_cross 13 = .ok (.astore_n 3, 1) := dec_78 (gB drcL_cross_0 13 rfl rfl)
theorem dL_cross_14 : decode cL_cross 14 = .ok (.iconst 1, 1) := dec_4 (gB drcL_cross_0 14 rfl rfl)
theorem dL_cross_15 : decode cL_cross 15 = .ok (.ireturn, 1) := dec_172 (gB drcL_cross_0 15 rfl rfl)
theorem dL_cross_16 : decode cL_cross 16 = .ok (.iconst 0, 1) := dec_3 (gB drcL_cross_0 16 rfl rfl)
theorem dL_cross_17 : decode cL_cross 17 = .ok (.ireturn, 1) := dec_172 (gB drcL_cross_0 17 rfl rfl)
def lkcL_alike_0 : List UInt8 := [0x2c, 0x2a, 0x1b, 0xb6, 0x00, 0xa1, 0x85, 0xb5, 0x00, 0x0d, 0xa7, 0x00, 0x06, 0x4e, 0x04, 0xac, 0x03, 0xac]
def tkcL_alike_0 : List UInt8 := lkcL_alike_0 ++ []
theorem drcL_alike_0 : (cL_alike).data.toList.drop 0 = lkcL_alike_0 ++ [] := by decide +kernel
theorem dL_alike_0 : decode cL_alike 0 = .ok (.aload_n 2, 1) := dec_44 (gB drcL_alike_0 0 rfl rfl)
theorem dL_alike_1 : decode cL_alike 1 = .ok (.aload_n 0, 1) := dec_42 (gB drcL_alike_0 1 rfl rfl)
theorem dL_alike_2 : decode cL_alike 2 = .ok (.iload_n 1, 1) := dec_27 (gB drcL_alike_0 2 rfl rfl)
theorem dL_alike_3 : decode cL_alike 3 = .ok (.invokevirtual 161, 3) := e_182 (x := 0) (y := 161) drcL_alike_0 3 rfl rfl
theorem dL_alike_6 : decode cL_alike 6 = .ok (.i2l, 1) := dec_133 (gB drcL_alike_0 6 rfl rfl)
theorem dL_alike_7 : decode cL_alike 7 = .ok (.putfield 13, 3) := e_181 (x := 0) (y := 13) drcL_alike_0 7 rfl rfl
theorem dL_alike_10 : decode cL_alike 10 = .ok (.goto 6, 3) := e_167 (x := 0) (y := 6) drcL_alike_0 10 rfl rfl
theorem dL_alike_13 : decode cL_alike 13 = .ok (.astore_n 3, 1) := dec_78 (gB drcL_alike_0 13 rfl rfl)
theorem dL_alike_14 : decode cL_alike 14 = .ok (.iconst 1, 1) := dec_4 (gB drcL_alike_0 14 rfl rfl)
theorem dL_alike_15 : decode cL_alike 15 = .ok (.ireturn, 1) := dec_172 (gB drcL_alike_0 15 rfl rfl)
theorem dL_alike_16 : decode cL_alike 16 = .ok (.iconst 0, 1) := dec_3 (gB drcL_alike_0 16 rfl rfl)
theorem dL_alike_17 : decode cL_alike 17 = .ok (.ireturn, 1) := dec_172 (gB drcL_alike_0 17 rfl rfl)
def lkcL_house_0 : List UInt8 := [0x2c, 0x2a, 0x1b, 0xb6, 0x00, 0xa4, 0x85, 0xb5, 0x00, 0x0d, 0xa7, 0x00, 0x06, 0x4e, 0x04, 0xac, 0x03, 0xac]
def tkcL_house_0 : List UInt8 := lkcL_house_0 ++ []
theorem drcL_house_0 : (cL_house).data.toList.drop 0 = lkcL_house_0 ++ [] := by decide +kernel
theorem dL_house_0 : decode cL_house 0 = .ok (.aload_n 2, 1) := dec_44 (gB drcL_house_0 0 rfl rfl)
theorem dL_house_1 : decode cL_house 1 = .ok (.aload_n 0, 1) := dec_42 (gB drcL_house_0 1 rfl rfl)
theorem dL_house_2 : decode cL_house 2 = .ok (.iload_n 1, 1) := dec_27 (gB drcL_house_0 2 rfl rfl)
theorem dL_house_3 : decode cL_house 3 = .ok (.invokevirtual 164, 3) := e_182 (x := 0) (y := 164) drcL_house_0 3 rfl rfl
theorem dL_house_6 : decode cL_house 6 = .ok (.i2l, 1) := dec_133 (gB drcL_house_0 6 rfl rfl)
theorem dL_house_7 : decode cL_house 7 = .ok (.putfield 13, 3) := e_181 (x := 0) (y := 13) drcL_house_0 7 rfl rfl
theorem dL_house_10 : decode cL_house 10 = .ok (.goto 6, 3) := e_167 (x := 0) (y := 6) drcL_house_0 10 rfl rfl
theorem dL_house_13 : decode cL_house 13 = .ok (.astore_n 3, 1) := dec_78 (gB drcL_house_0 13 rfl rfl)
theorem dL_house_14 : decode cL_house 14 = .ok (.iconst 1, 1) := dec_4 (gB drcL_house_0 14 rfl rfl)
theorem dL_house_15 : decode cL_house 15 = .ok (.ireturn, 1) := dec_172 (gB drcL_house_0 15 rfl rfl)
theorem dL_house_16 : decode cL_house 16 = .ok (.iconst 0, 1) := dec_3 (gB drcL_house_0 16 rfl rfl)
theorem dL_house_17 : decode cL_house 17 = .ok (.ireturn, 1) := dec_172 (gB drcL_house_0 17 rfl rfl)
def lkcJ5_init_d00df_0 : List UInt8 := [0x2a, 0xb7, 0x00, 0x03, 0xb2, 0x00, 0x12, 0x99, 0x00, 0x12, 0x2a, 0x1b, 0xbc, 0x08, 0xb5, 0x00, 0x0f, 0x2a, 0x03, 0xb5, 0x00, 0x16, 0xa7, 0x00, 0x10, 0x2a, 0x1b, 0xb8, 0x00, 0x1a, 0xb5, 0x00, 0x0f, 0x2a, 0x04, 0xb5, 0x00, 0x16, 0xb1]
def tkcJ5_init_d00df_0 : List UInt8 := lkcJ5_init_d00df_0 ++ []
theorem drcJ5_init_d00df_0 : (cJ5_init_d00df).data.toList.drop 0 = lkcJ5_init_d00df_0 ++ [] := by decide +kernel
theorem dJ5_init_d00df_0 : decode cJ5_init_d00df 0 = .ok (.aload_n 0, 1) := dec_42 (gB drcJ5_init_d00df_0 0 rfl rfl)
theorem dJ5_init_d00df_1 : decode cJ5_init_d00df 1 = .ok (.invokespecial 3, 3) := e_183 (x := 0) (y := 3) drcJ5_init_d00df_0 1 rfl rfl
theorem dJ5_init_d00df_4 : decode cJ5_init_d00df 4 = .ok (.getstatic 18, 3) := e_178 (x := 0) (y := 18) drcJ5_init_d00df_0 4 rfl rfl
theorem dJ5_init_d00df_7 : decode cJ5_init_d00df 7 = .ok (.ifCond .eq 18, 3) := e_153 (x := 0) (y := 18) drcJ5_init_d00df_0 7 rfl rfl
theorem dJ5_init_d00df_10 : decode cJ5_init_d00df 10 = .ok (.aload_n 0, 1) := dec_42 (gB drcJ5_init_d00df_0 10 rfl rfl)
theorem dJ5_init_d00df_11 : decode cJ5_init_d00df 11 = .ok (.iload_n 1, 1) := dec_27 (gB drcJ5_init_d00df_0 11 rfl rfl)
theorem dJ5_init_d00df_12 : decode cJ5_init_d00df 12 = .ok (.newarray .byte, 2) := by decide +kernel
theorem dJ5_init_d00df_14 : decode cJ5_init_d00df 14 = .ok (.putfield 15, 3) := e_181 (x := 0) (y := 15) drcJ5_init_d00df_0 14 rfl rfl
theorem dJ5_init_d00df_17 : decode cJ5_init_d00df 17 = .ok (.aload_n 0, 1) := dec_42 (gB drcJ5_init_d00df_0 17 rfl rfl)
theorem dJ5_init_d00df_18 : decode cJ5_init_d00df 18 = .ok (.iconst 0, 1) := dec_3 (gB drcJ5_init_d00df_0 18 rfl rfl)
theorem dJ5_init_d00df_19 : decode cJ5_init_d00df 19 = .ok (.putfield 22, 3) := e_181 (x := 0) (y := 22) drcJ5_init_d00df_0 19 rfl rfl
theorem dJ5_init_d00df_22 : decode cJ5_init_d00df 22 = .ok (.goto 16, 3) := e_167 (x := 0) (y := 16) drcJ5_init_d00df_0 22 rfl rfl
theorem dJ5_init_d00df_38 : decode cJ5_init_d00df 38 = .ok (.return_, 1) := dec_177 (gB drcJ5_init_d00df_0 38 rfl rfl)
def lkcJ5_length_8abf5_0 : List UInt8 := [0x2a, 0xb4, 0x00, 0x4f, 0xac]
def tkcJ5_length_8abf5_0 : List UInt8 := lkcJ5_length_8abf5_0 ++ []
theorem drcJ5_length_8abf5_0 : (cJ5_length_8abf5).data.toList.drop 0 = lkcJ5_length_8abf5_0 ++ [] := by decide +kernel
theorem dJ5_length_8abf5_0 : decode cJ5_length_8abf5 0 = .ok (.aload_n 0, 1) := dec_42 (gB drcJ5_length_8abf5_0 0 rfl rfl)
theorem dJ5_length_8abf5_1 : decode cJ5_length_8abf5 1 = .ok (.getfield 79, 3) := e_180 (x := 0) (y := 79) drcJ5_length_8abf5_0 1 rfl rfl
theorem dJ5_length_8abf5_4 : decode cJ5_length_8abf5 4 = .ok (.ireturn, 1) := dec_172 (gB drcJ5_length_8abf5_0 4 rfl rfl)
def lkcJ5_ensureCapacityInternal_d00df_0 : List UInt8 := [0x2a, 0xb4, 0x00, 0x0f, 0xbe, 0x2a, 0xb4, 0x00, 0x16, 0x7a, 0x3d, 0x1b, 0x1c, 0x64, 0x9e, 0x00, 0x18, 0x2a, 0x2a, 0xb4, 0x00, 0x0f, 0x2a, 0x1b, 0xb6, 0x00, 0x68, 0x2a, 0xb4, 0x00, 0x16, 0x78, 0xb8, 0x00, 0x6c, 0xb5, 0x00, 0x0f, 0xb1]
def tkcJ5_ensureCapacityInternal_d00df_0 : List UInt8 := lkcJ5_ensureCapacityInternal_d00df_0 ++ []
theorem drcJ5_ensureCapacityInternal_d00df_0 : (cJ5_ensureCapacityInternal_d00df).data.toList.drop 0 = lkcJ5_ensureCapacityInternal_d00df_0 ++ [] := by decide +kernel
theorem dJ5_ensureCapacityInternal_d00df_0 : decode cJ5_ensureCapacityInternal_d00df 0 = .ok (.aload_n 0, 1) := dec_42 (gB drcJ5_ensureCapacityInternal_d00df_0 0 rfl rfl)
theorem dJ5_ensureCapacityInternal_d00df_1 : decode cJ5_ensureCapacityInternal_d00df 1 = .ok (.getfield 15, 3) := e_180 (x := 0) (y := 15) drcJ5_ensureCapacityInternal_d00df_0 1 rfl rfl
theorem dJ5_ensureCapacityInternal_d00df_4 : decode cJ5_ensureCapacityInternal_d00df 4 = .ok (.arraylength, 1) := dec_190 (gB drcJ5_ensureCapacityInternal_d00df_0 4 rfl rfl)
theorem dJ5_ensureCapacityInternal_d00df_5 : decode cJ5_ensureCapacityInternal_d00df 5 = .ok (.aload_n 0, 1) := dec_42 (gB drcJ5_ensureCapacityInternal_d00df_0 5 rfl rfl)
theorem dJ5_ensureCapacityInternal_d00df_6 : decode cJ5_ensureCapacityInternal_d00df 6 = .ok (.getfield 22, 3) := e_180 (x := 0) (y := 22) drcJ5_ensureCapacityInternal_d00df_0 6 rfl rfl
theorem dJ5_ensureCapacityInternal_d00df_9 : decode cJ5_ensureCapacityInternal_d00df 9 = .ok (.ishr, 1) := dec_122 (gB drcJ5_ensureCapacityInternal_d00df_0 9 rfl rfl)
theorem dJ5_ensureCapacityInternal_d00df_10 : decode cJ5_ensureCapacityInternal_d00df 10 = .ok (.istore_n 2, 1) := dec_61 (gB drcJ5_ensureCapacityInternal_d00df_0 10 rfl rfl)
theorem dJ5_ensureCapacityInternal_d00df_11 : decode cJ5_ensureCapacityInternal_d00df 11 = .ok (.iload_n 1, 1) := dec_27 (gB drcJ5_ensureCapacityInternal_d00df_0 11 rfl rfl)
theorem dJ5_ensureCapacityInternal_d00df_12 : decode cJ5_ensureCapacityInternal_d00df 12 = .ok (.iload_n 2, 1) := dec_28 (gB drcJ5_ensureCapacityInternal_d00df_0 12 rfl rfl)
theorem dJ5_ensureCapacityInternal_d00df_13 : decode cJ5_ensureCapacityInternal_d00df 13 = .ok (.isub, 1) := dec_100 (gB drcJ5_ensureCapacityInternal_d00df_0 13 rfl rfl)
theorem dJ5_ensureCapacityInternal_d00df_14 : decode cJ5_ensureCapacityInternal_d00df 14 = .ok (.ifCond .le 24, 3) := e_158 (x := 0) (y := 24) drcJ5_ensureCapacityInternal_d00df_0 14 rfl rfl
theorem dJ5_ensureCapacityInternal_d00df_17 : decode cJ5_ensureCapacityInternal_d00df 17 = .ok (.aload_n 0, 1) := dec_42 (gB drcJ5_ensureCapacityInternal_d00df_0 17 rfl rfl)
theorem dJ5_ensureCapacityInternal_d00df_18 : decode cJ5_ensureCapacityInternal_d00df 18 = .ok (.aload_n 0, 1) := dec_42 (gB drcJ5_ensureCapacityInternal_d00df_0 18 rfl rfl)
theorem dJ5_ensureCapacityInternal_d00df_19 : decode cJ5_ensureCapacityInternal_d00df 19 = .ok (.getfield 15, 3) := e_180 (x := 0) (y := 15) drcJ5_ensureCapacityInternal_d00df_0 19 rfl rfl
theorem dJ5_ensureCapacityInternal_d00df_22 : decode cJ5_ensureCapacityInternal_d00df 22 = .ok (.aload_n 0, 1) := dec_42 (gB drcJ5_ensureCapacityInternal_d00df_0 22 rfl rfl)
theorem dJ5_ensureCapacityInternal_d00df_23 : decode cJ5_ensureCapacityInternal_d00df 23 = .ok (.iload_n 1, 1) := dec_27 (gB drcJ5_ensureCapacityInternal_d00df_0 23 rfl rfl)
theorem dJ5_ensureCapacityInternal_d00df_24 : decode cJ5_ensureCapacityInternal_d00df 24 = .ok (.invokevirtual 104, 3) := e_182 (x := 0) (y := 104) drcJ5_ensureCapacityInternal_d00df_0 24 rfl rfl
theorem dJ5_ensureCapacityInternal_d00df_27 : decode cJ5_ensureCapacityInternal_d00df 27 = .ok (.aload_n 0, 1) := dec_42 (gB drcJ5_ensureCapacityInternal_d00df_0 27 rfl rfl)
theorem dJ5_ensureCapacityInternal_d00df_28 : decode cJ5_ensureCapacityInternal_d00df 28 = .ok (.getfield 22, 3) := e_180 (x := 0) (y := 22) drcJ5_ensureCapacityInternal_d00df_0 28 rfl rfl
theorem dJ5_ensureCapacityInternal_d00df_31 : decode cJ5_ensureCapacityInternal_d00df 31 = .ok (.ishl, 1) := dec_120 (gB drcJ5_ensureCapacityInternal_d00df_0 31 rfl rfl)
theorem dJ5_ensureCapacityInternal_d00df_32 : decode cJ5_ensureCapacityInternal_d00df 32 = .ok (.invokestatic 108, 3) := e_184 (x := 0) (y := 108) drcJ5_ensureCapacityInternal_d00df_0 32 rfl rfl
theorem dJ5_ensureCapacityInternal_d00df_35 : decode cJ5_ensureCapacityInternal_d00df 35 = .ok (.putfield 15, 3) := e_181 (x := 0) (y := 15) drcJ5_ensureCapacityInternal_d00df_0 35 rfl rfl
theorem dJ5_ensureCapacityInternal_d00df_38 : decode cJ5_ensureCapacityInternal_d00df 38 = .ok (.return_, 1) := dec_177 (gB drcJ5_ensureCapacityInternal_d00df_0 38 rfl rfl)
def lkcJ5_newCapacity_0f7a4_0 : List UInt8 := [0x2a, 0xb4, 0x00, 0x0f, 0xbe, 0x3d, 0x1b, 0x2a, 0xb4, 0x00, 0x16, 0x78, 0x3e, 0x1d, 0x1c, 0x64, 0x36, 0x04, 0x1c, 0x15, 0x04, 0x1c, 0x05, 0x2a, 0xb4, 0x00, 0x16, 0x78, 0x60, 0xb8, 0x00, 0x72, 0x36, 0x05, 0x15, 0x05, 0x12, 0x27, 0xa0, 0x00, 0x0d, 0xbb, 0x00, 0x78, 0x59, 0x12, 0x7a, 0xb7, 0x00, 0x7c, 0xbf, 0x15, 0x05, 0x2a, 0xb4, 0x00, 0x16, 0x7a, 0xac]
def tkcJ5_newCapacity_0f7a4_0 : List UInt8 := lkcJ5_newCapacity_0f7a4_0 ++ []
theorem drcJ5_newCapacity_0f7a4_0 : (cJ5_newCapacity_0f7a4).data.toList.drop 0 = lkcJ5_newCapacity_0f7a4_0 ++ [] := by decide +kernel
theorem dJ5_newCapacity_0f7a4_0 : decode cJ5_newCapacity_0f7a4 0 = .ok (.aload_n 0, 1) := dec_42 (gB drcJ5_newCapacity_0f7a4_0 0 rfl rfl)
theorem dJ5_newCapacity_0f7a4_1 : decode cJ5_newCapacity_0f7a4 1 = .ok (.getfield 15, 3) := e_180 (x := 0) (y := 15) drcJ5_newCapacity_0f7a4_0 1 rfl rfl
theorem dJ5_newCapacity_0f7a4_4 : decode cJ5_newCapacity_0f7a4 4 = .ok (.arraylength, 1) := dec_190 (gB drcJ5_newCapacity_0f7a4_0 4 rfl rfl)
theorem dJ5_newCapacity_0f7a4_5 : decode cJ5_newCapacity_0f7a4 5 = .ok (.istore_n 2, 1) := dec_61 (gB drcJ5_newCapacity_0f7a4_0 5 rfl rfl)
theorem dJ5_newCapacity_0f7a4_6 : decode cJ5_newCapacity_0f7a4 6 = .ok (.iload_n 1, 1) := dec_27 (gB drcJ5_newCapacity_0f7a4_0 6 rfl rfl)
theorem dJ5_newCapacity_0f7a4_7 : decode cJ5_newCapacity_0f7a4 7 = .ok (.aload_n 0, 1) := dec_42 (gB drcJ5_newCapacity_0f7a4_0 7 rfl rfl)
theorem dJ5_newCapacity_0f7a4_8 : decode cJ5_newCapacity_0f7a4 8 = .ok (.getfield 22, 3) := e_180 (x := 0) (y := 22) drcJ5_newCapacity_0f7a4_0 8 rfl rfl
theorem dJ5_newCapacity_0f7a4_11 : decode cJ5_newCapacity_0f7a4 11 = .ok (.ishl, 1) := dec_120 (gB drcJ5_newCapacity_0f7a4_0 11 rfl rfl)
theorem dJ5_newCapacity_0f7a4_12 : decode cJ5_newCapacity_0f7a4 12 = .ok (.istore_n 3, 1) := dec_62 (gB drcJ5_newCapacity_0f7a4_0 12 rfl rfl)
theorem dJ5_newCapacity_0f7a4_13 : decode cJ5_newCapacity_0f7a4 13 = .ok (.iload_n 3, 1) := dec_29 (gB drcJ5_newCapacity_0f7a4_0 13 rfl rfl)
theorem dJ5_newCapacity_0f7a4_14 : decode cJ5_newCapacity_0f7a4 14 = .ok (.iload_n 2, 1) := dec_28 (gB drcJ5_newCapacity_0f7a4_0 14 rfl rfl)
theorem dJ5_newCapacity_0f7a4_15 : decode cJ5_newCapacity_0f7a4 15 = .ok (.isub, 1) := dec_100 (gB drcJ5_newCapacity_0f7a4_0 15 rfl rfl)
theorem dJ5_newCapacity_0f7a4_16 : decode cJ5_newCapacity_0f7a4 16 = .ok (.istore 4, 2) := e_54 (x := 4) drcJ5_newCapacity_0f7a4_0 16 rfl rfl
theorem dJ5_newCapacity_0f7a4_18 : decode cJ5_newCapacity_0f7a4 18 = .ok (.iload_n 2, 1) := dec_28 (gB drcJ5_newCapacity_0f7a4_0 18 rfl rfl)
theorem dJ5_newCapacity_0f7a4_19 : decode cJ5_newCapacity_0f7a4 19 = .ok (.iload 4, 2) := e_21 (x := 4) drcJ5_newCapacity_0f7a4_0 19 rfl rfl
theorem dJ5_newCapacity_0f7a4_21 : decode cJ5_newCapacity_0f7a4 21 = .ok (.iload_n 2, 1) := dec_28 (gB drcJ5_newCapacity_0f7a4_0 21 rfl rfl)
theorem dJ5_newCapacity_0f7a4_22 : decode cJ5_newCapacity_0f7a4 22 = .ok (.iconst 2, 1) := dec_5 (gB drcJ5_newCapacity_0f7a4_0 22 rfl rfl)
theorem dJ5_newCapacity_0f7a4_23 : decode cJ5_newCapacity_0f7a4 23 = .ok (.aload_n 0, 1) := dec_42 (gB drcJ5_newCapacity_0f7a4_0 23 rfl rfl)
theorem dJ5_newCapacity_0f7a4_24 : decode cJ5_newCapacity_0f7a4 24 = .ok (.getfield 22, 3) := e_180 (x := 0) (y := 22) drcJ5_newCapacity_0f7a4_0 24 rfl rfl
theorem dJ5_newCapacity_0f7a4_27 : decode cJ5_newCapacity_0f7a4 27 = .ok (.ishl, 1) := dec_120 (gB drcJ5_newCapacity_0f7a4_0 27 rfl rfl)
theorem dJ5_newCapacity_0f7a4_28 : decode cJ5_newCapacity_0f7a4 28 = .ok (.iadd, 1) := dec_96 (gB drcJ5_newCapacity_0f7a4_0 28 rfl rfl)
theorem dJ5_newCapacity_0f7a4_29 : decode cJ5_newCapacity_0f7a4 29 = .ok (.invokestatic 114, 3) := e_184 (x := 0) (y := 114) drcJ5_newCapacity_0f7a4_0 29 rfl rfl
theorem dJ5_newCapacity_0f7a4_32 : decode cJ5_newCapacity_0f7a4 32 = .ok (.istore 5, 2) := e_54 (x := 5) drcJ5_newCapacity_0f7a4_0 32 rfl rfl
theorem dJ5_newCapacity_0f7a4_34 : decode cJ5_newCapacity_0f7a4 34 = .ok (.iload 5, 2) := e_21 (x := 5) drcJ5_newCapacity_0f7a4_0 34 rfl rfl
theorem dJ5_newCapacity_0f7a4_36 : decode cJ5_newCapacity_0f7a4 36 = .ok (.ldc 39, 2) := e_18 (x := 39) drcJ5_newCapacity_0f7a4_0 36 rfl rfl
theorem dJ5_newCapacity_0f7a4_38 : decode cJ5_newCapacity_0f7a4 38 = .ok (.if_icmp .ne 13, 3) := e_160 (x := 0) (y := 13) drcJ5_newCapacity_0f7a4_0 38 rfl rfl
theorem dJ5_newCapacity_0f7a4_51 : decode cJ5_newCapacity_0f7a4 51 = .ok (.iload 5, 2) := e_21 (x := 5) drcJ5_newCapacity_0f7a4_0 51 rfl rfl
theorem dJ5_newCapacity_0f7a4_53 : decode cJ5_newCapacity_0f7a4 53 = .ok (.aload_n 0, 1) := dec_42 (gB drcJ5_newCapacity_0f7a4_0 53 rfl rfl)
theorem dJ5_newCapacity_0f7a4_54 : decode cJ5_newCapacity_0f7a4 54 = .ok (.getfield 22, 3) := e_180 (x := 0) (y := 22) drcJ5_newCapacity_0f7a4_0 54 rfl rfl
theorem dJ5_newCapacity_0f7a4_57 : decode cJ5_newCapacity_0f7a4 57 = .ok (.ishr, 1) := dec_122 (gB drcJ5_newCapacity_0f7a4_0 57 rfl rfl)
theorem dJ5_newCapacity_0f7a4_58 : decode cJ5_newCapacity_0f7a4 58 = .ok (.ireturn, 1) := dec_172 (gB drcJ5_newCapacity_0f7a4_0 58 rfl rfl)
def lkcJ5_inflate_da8c8_0 : List UInt8 := [0x2a, 0xb6, 0x00, 0x53, 0x9a, 0x00, 0x04, 0xb1, 0x2a, 0xb4, 0x00, 0x0f, 0xbe, 0xb8, 0x00, 0x1a, 0x4c, 0x2a, 0xb4, 0x00, 0x0f, 0x03, 0x2b, 0x03, 0x2a, 0xb4, 0x00, 0x4f, 0xb8, 0x00, 0x7d, 0x2a, 0x2b, 0xb5, 0x00, 0x0f, 0x2a, 0x04, 0xb5, 0x00, 0x16, 0xb1]
def tkcJ5_inflate_da8c8_0 : List UInt8 := lkcJ5_inflate_da8c8_0 ++ []
theorem drcJ5_inflate_da8c8_0 : (cJ5_inflate_da8c8).data.toList.drop 0 = lkcJ5_inflate_da8c8_0 ++ [] := by decide +kernel
def lkcJ5_append_cf1ce_0 : List UInt8 := [0x2b, 0xc7, 0x00, 0x08, 0x2a, 0xb6, 0x00, 0xcc, 0xb0, 0x2b, 0xb6, 0x00, 0x20, 0x3d, 0x2a, 0x2a, 0xb4, 0x00, 0x4f, 0x1c, 0x60, 0xb6, 0x00, 0x64, 0x2a, 0x2a, 0xb4, 0x00, 0x4f, 0x2b, 0xb6, 0x00, 0xd0, 0x2a, 0x59, 0xb4, 0x00, 0x4f, 0x1c, 0x60, 0xb5, 0x00, 0x4f, 0x2a, 0xb0]
def tkcJ5_append_cf1ce_0 : List UInt8 := lkcJ5_append_cf1ce_0 ++ []
theorem drcJ5_append_cf1ce_0 : (cJ5_append_cf1ce).data.toList.drop 0 = lkcJ5_append_cf1ce_0 ++ [] := by decide +kernel
def lkcJ5_appendNull_278bc_0 : List UInt8 := [0x2a, 0x2a, 0xb4, 0x00, 0x4f, 0x07, 0x60, 0xb6, 0x00, 0x64, 0x2a, 0xb4, 0x00, 0x4f, 0x3c, 0x2a, 0xb4, 0x00, 0x0f, 0x4d, 0x2a, 0xb6, 0x00, 0x53, 0x99, 0x00, 0x26, 0x2c, 0x1b, 0x84, 0x01, 0x01, 0x10, 0x6e, 0x54, 0x2c, 0x1b, 0x84, 0x01, 0x01, 0x10, 0x75, 0x54, 0x2c, 0x1b, 0x84, 0x01, 0x01, 0x10, 0x6c, 0x54, 0x2c, 0x1b, 0x84, 0x01, 0x01, 0x10, 0x6c, 0x54, 0xa7, 0x00, 0x11, 0x2c, 0x1b]
def lkcJ5_appendNull_278bc_1 : List UInt8 := [0x10, 0x6e, 0x10, 0x75, 0x10, 0x6c, 0x10, 0x6c, 0xb8, 0x00, 0xe2, 0x3c, 0x2a, 0x1b, 0xb5, 0x00, 0x4f, 0x2a, 0xb0]
def tkcJ5_appendNull_278bc_1 : List UInt8 := lkcJ5_appendNull_278bc_1 ++ []
def tkcJ5_appendNull_278bc_0 : List UInt8 := lkcJ5_appendNull_278bc_0 ++ tkcJ5_appendNull_278bc_1
theorem drcJ5_appendNull_278bc_0 : (cJ5_appendNull_278bc).data.toList.drop 0 = lkcJ5_appendNull_278bc_0 ++ tkcJ5_appendNull_278bc_1 := by decide +kernel
theorem drcJ5_appendNull_278bc_1 : (cJ5_appendNull_278bc).data.toList.drop 64 = lkcJ5_appendNull_278bc_1 ++ [] := dr_step drcJ5_appendNull_278bc_0 rfl
def lkcJ5_append_3fe6f_0 : List UInt8 := [0x2a, 0x2a, 0xb4, 0x00, 0x4f, 0x04, 0x60, 0xb6, 0x00, 0x64, 0x2a, 0xb6, 0x00, 0x53, 0x99, 0x00, 0x1f, 0x1b, 0xb8, 0x00, 0xbf, 0x99, 0x00, 0x18, 0x2a, 0xb4, 0x00, 0x0f, 0x2a, 0x59, 0xb4, 0x00, 0x4f, 0x5a, 0x04, 0x60, 0xb5, 0x00, 0x4f, 0x1b, 0x91, 0x54, 0xa7, 0x00, 0x21, 0x2a, 0xb6, 0x00, 0x53, 0x99, 0x00, 0x07, 0x2a, 0xb6, 0x00, 0xc3, 0x2a, 0xb4, 0x00, 0x0f, 0x2a, 0x59, 0xb4, 0x00]
def lkcJ5_append_3fe6f_1 : List UInt8 := [0x4f, 0x5a, 0x04, 0x60, 0xb5, 0x00, 0x4f, 0x1b, 0xb8, 0x00, 0xc5, 0x2a, 0xb0]
def tkcJ5_append_3fe6f_1 : List UInt8 := lkcJ5_append_3fe6f_1 ++ []
def tkcJ5_append_3fe6f_0 : List UInt8 := lkcJ5_append_3fe6f_0 ++ tkcJ5_append_3fe6f_1
theorem drcJ5_append_3fe6f_0 : (cJ5_append_3fe6f).data.toList.drop 0 = lkcJ5_append_3fe6f_0 ++ tkcJ5_append_3fe6f_1 := by decide +kernel
theorem drcJ5_append_3fe6f_1 : (cJ5_append_3fe6f).data.toList.drop 64 = lkcJ5_append_3fe6f_1 ++ [] := dr_step drcJ5_append_3fe6f_0 rfl
theorem dJ5_append_3fe6f_0 : decode cJ5_append_3fe6f 0 = .ok (.aload_n 0, 1) := dec_42 (gB drcJ5_append_3fe6f_0 0 rfl rfl)
theorem dJ5_append_3fe6f_1 : decode cJ5_append_3fe6f 1 = .ok (.aload_n 0, 1) := dec_42 (gB drcJ5_append_3fe6f_0 1 rfl rfl)
theorem dJ5_append_3fe6f_2 : decode cJ5_append_3fe6f 2 = .ok (.getfield 79, 3) := e_180 (x := 0) (y := 79) drcJ5_append_3fe6f_0 2 rfl rfl
theorem dJ5_append_3fe6f_5 : decode cJ5_append_3fe6f 5 = .ok (.iconst 1, 1) := dec_4 (gB drcJ5_append_3fe6f_0 5 rfl rfl)
theorem dJ5_append_3fe6f_6 : decode cJ5_append_3fe6f 6 = .ok (.iadd, 1) := dec_96 (gB drcJ5_append_3fe6f_0 6 rfl rfl)
theorem dJ5_append_3fe6f_7 : decode cJ5_append_3fe6f 7 = .ok (.invokevirtual 100, 3) := e_182 (x := 0) (y := 100) drcJ5_append_3fe6f_0 7 rfl rfl
theorem dJ5_append_3fe6f_10 : decode cJ5_append_3fe6f 10 = .ok (.aload_n 0, 1) := dec_42 (gB drcJ5_append_3fe6f_0 10 rfl rfl)
theorem dJ5_append_3fe6f_11 : decode cJ5_append_3fe6f 11 = .ok (.invokevirtual 83, 3) := e_182 (x := 0) (y := 83) drcJ5_append_3fe6f_0 11 rfl rfl
theorem dJ5_append_3fe6f_14 : decode cJ5_append_3fe6f 14 = .ok (.ifCond .eq 31, 3) := e_153 (x := 0) (y := 31) drcJ5_append_3fe6f_0 14 rfl rfl
theorem dJ5_append_3fe6f_17 : decode cJ5_append_3fe6f 17 = .ok (.iload_n 1, 1) := dec_27 (gB drcJ5_append_3fe6f_0 17 rfl rfl)
theorem dJ5_append_3fe6f_18 : decode cJ5_append_3fe6f 18 = .ok (.invokestatic 191, 3) := e_184 (x := 0) (y := 191) drcJ5_append_3fe6f_0 18 rfl rfl
theorem dJ5_append_3fe6f_21 : decode cJ5_append_3fe6f 21 = .ok (.ifCond .eq 24, 3) := e_153 (x := 0) (y := 24) drcJ5_append_3fe6f_0 21 rfl rfl
theorem dJ5_append_3fe6f_24 : decode cJ5_append_3fe6f 24 = .ok (.aload_n 0, 1) := dec_42 (gB drcJ5_append_3fe6f_0 24 rfl rfl)
theorem dJ5_append_3fe6f_25 : decode cJ5_append_3fe6f 25 = .ok (.getfield 15, 3) := e_180 (x := 0) (y := 15) drcJ5_append_3fe6f_0 25 rfl rfl
theorem dJ5_append_3fe6f_28 : decode cJ5_append_3fe6f 28 = .ok (.aload_n 0, 1) := dec_42 (gB drcJ5_append_3fe6f_0 28 rfl rfl)
theorem dJ5_append_3fe6f_29 : decode cJ5_append_3fe6f 29 = .ok (.dup, 1) := dec_89 (gB drcJ5_append_3fe6f_0 29 rfl rfl)
theorem dJ5_append_3fe6f_30 : decode cJ5_append_3fe6f 30 = .ok (.getfield 79, 3) := e_180 (x := 0) (y := 79) drcJ5_append_3fe6f_0 30 rfl rfl
theorem dJ5_append_3fe6f_33 : decode cJ5_append_3fe6f 33 = .ok (.dup_x1, 1) := dec_90 (gB drcJ5_append_3fe6f_0 33 rfl rfl)
theorem dJ5_append_3fe6f_34 : decode cJ5_append_3fe6f 34 = .ok (.iconst 1, 1) := dec_4 (gB drcJ5_append_3fe6f_0 34 rfl rfl)
theorem dJ5_append_3fe6f_35 : decode cJ5_append_3fe6f 35 = .ok (.iadd, 1) := dec_96 (gB drcJ5_append_3fe6f_0 35 rfl rfl)
theorem dJ5_append_3fe6f_36 : decode cJ5_append_3fe6f 36 = .ok (.putfield 79, 3) := e_181 (x := 0) (y := 79) drcJ5_append_3fe6f_0 36 rfl rfl
theorem dJ5_append_3fe6f_39 : decode cJ5_append_3fe6f 39 = .ok (.iload_n 1, 1) := dec_27 (gB drcJ5_append_3fe6f_0 39 rfl rfl)
theorem dJ5_append_3fe6f_40 : decode cJ5_append_3fe6f 40 = .ok (.i2b, 1) := dec_145 (gB drcJ5_append_3fe6f_0 40 rfl rfl)
theorem dJ5_append_3fe6f_41 : decode cJ5_append_3fe6f 41 = .ok (.bastore, 1) := dec_84 (gB drcJ5_append_3fe6f_0 41 rfl rfl)
theorem dJ5_append_3fe6f_42 : decode cJ5_append_3fe6f 42 = .ok (.goto 33, 3) := e_167 (x := 0) (y := 33) drcJ5_append_3fe6f_0 42 rfl rfl
theorem dJ5_append_3fe6f_45 : decode cJ5_append_3fe6f 45 = .ok (.aload_n 0, 1) := dec_42 (gB drcJ5_append_3fe6f_0 45 rfl rfl)
theorem dJ5_append_3fe6f_46 : decode cJ5_append_3fe6f 46 = .ok (.invokevirtual 83, 3) := e_182 (x := 0) (y := 83) drcJ5_append_3fe6f_0 46 rfl rfl
theorem dJ5_append_3fe6f_49 : decode cJ5_append_3fe6f 49 = .ok (.ifCond .eq 7, 3) := e_153 (x := 0) (y := 7) drcJ5_append_3fe6f_0 49 rfl rfl
theorem dJ5_append_3fe6f_52 : decode cJ5_append_3fe6f 52 = .ok (.aload_n 0, 1) := dec_42 (gB drcJ5_append_3fe6f_0 52 rfl rfl)
theorem dJ5_append_3fe6f_56 : decode cJ5_append_3fe6f 56 = .ok (.aload_n 0, 1) := dec_42 (gB drcJ5_append_3fe6f_0 56 rfl rfl)
theorem dJ5_append_3fe6f_57 : decode cJ5_append_3fe6f 57 = .ok (.getfield 15, 3) := e_180 (x := 0) (y := 15) drcJ5_append_3fe6f_0 57 rfl rfl
theorem dJ5_append_3fe6f_60 : decode cJ5_append_3fe6f 60 = .ok (.aload_n 0, 1) := dec_42 (gB drcJ5_append_3fe6f_0 60 rfl rfl)
theorem dJ5_append_3fe6f_61 : decode cJ5_append_3fe6f 61 = .ok (.dup, 1) := dec_89 (gB drcJ5_append_3fe6f_0 61 rfl rfl)
theorem dJ5_append_3fe6f_62 : decode cJ5_append_3fe6f 62 = .ok (.getfield 79, 3) := dec_180 (a := 0) (b := 79) (gB drcJ5_append_3fe6f_0 62 rfl rfl) (gB drcJ5_append_3fe6f_0 63 rfl rfl) (gB drcJ5_append_3fe6f_1 0 rfl rfl)
theorem dJ5_append_3fe6f_65 : decode cJ5_append_3fe6f 65 = .ok (.dup_x1, 1) := dec_90 (gB drcJ5_append_3fe6f_1 1 rfl rfl)
theorem dJ5_append_3fe6f_66 : decode cJ5_append_3fe6f 66 = .ok (.iconst 1, 1) := dec_4 (gB drcJ5_append_3fe6f_1 2 rfl rfl)
theorem dJ5_append_3fe6f_67 : decode cJ5_append_3fe6f 67 = .ok (.iadd, 1) := dec_96 (gB drcJ5_append_3fe6f_1 3 rfl rfl)
theorem dJ5_append_3fe6f_68 : decode cJ5_append_3fe6f 68 = .ok (.putfield 79, 3) := e_181 (x := 0) (y := 79) drcJ5_append_3fe6f_1 4 rfl rfl
theorem dJ5_append_3fe6f_71 : decode cJ5_append_3fe6f 71 = .ok (.iload_n 1, 1) := dec_27 (gB drcJ5_append_3fe6f_1 7 rfl rfl)
theorem dJ5_append_3fe6f_75 : decode cJ5_append_3fe6f 75 = .ok (.aload_n 0, 1) := dec_42 (gB drcJ5_append_3fe6f_1 11 rfl rfl)
theorem dJ5_append_3fe6f_76 : decode cJ5_append_3fe6f 76 = .ok (.areturn, 1) := dec_176 (gB drcJ5_append_3fe6f_1 12 rfl rfl)
def lkcJ5_append_c97b9_0 : List UInt8 := [0x2a, 0xb4, 0x00, 0x4f, 0x3d, 0x1c, 0x1b, 0xb8, 0x00, 0xf5, 0x60, 0x3e, 0x2a, 0x1d, 0xb6, 0x00, 0x64, 0x2a, 0xb6, 0x00, 0x53, 0x99, 0x00, 0x10, 0x1b, 0x1d, 0x2a, 0xb4, 0x00, 0x0f, 0xb8, 0x00, 0xf8, 0x57, 0xa7, 0x00, 0x0e, 0x1b, 0x1c, 0x1d, 0x2a, 0xb4, 0x00, 0x0f, 0xb8, 0x00, 0xfb, 0x57, 0x2a, 0x1d, 0xb5, 0x00, 0x4f, 0x2a, 0xb0]
def tkcJ5_append_c97b9_0 : List UInt8 := lkcJ5_append_c97b9_0 ++ []
theorem drcJ5_append_c97b9_0 : (cJ5_append_c97b9).data.toList.drop 0 = lkcJ5_append_c97b9_0 ++ [] := by decide +kernel
theorem dJ5_append_c97b9_0 : decode cJ5_append_c97b9 0 = .ok (.aload_n 0, 1) := dec_42 (gB drcJ5_append_c97b9_0 0 rfl rfl)
theorem dJ5_append_c97b9_1 : decode cJ5_append_c97b9 1 = .ok (.getfield 79, 3) := e_180 (x := 0) (y := 79) drcJ5_append_c97b9_0 1 rfl rfl
theorem dJ5_append_c97b9_4 : decode cJ5_append_c97b9 4 = .ok (.istore_n 2, 1) := dec_61 (gB drcJ5_append_c97b9_0 4 rfl rfl)
theorem dJ5_append_c97b9_5 : decode cJ5_append_c97b9 5 = .ok (.iload_n 2, 1) := dec_28 (gB drcJ5_append_c97b9_0 5 rfl rfl)
theorem dJ5_append_c97b9_6 : decode cJ5_append_c97b9 6 = .ok (.iload_n 1, 1) := dec_27 (gB drcJ5_append_c97b9_0 6 rfl rfl)
theorem dJ5_append_c97b9_7 : decode cJ5_append_c97b9 7 = .ok (.invokestatic 245, 3) := e_184 (x := 0) (y := 245) drcJ5_append_c97b9_0 7 rfl rfl
theorem dJ5_append_c97b9_10 : decode cJ5_append_c97b9 10 = .ok (.iadd, 1) := dec_96 (gB drcJ5_append_c97b9_0 10 rfl rfl)
theorem dJ5_append_c97b9_11 : decode cJ5_append_c97b9 11 = .ok (.istore_n 3, 1) := dec_62 (gB drcJ5_append_c97b9_0 11 rfl rfl)
theorem dJ5_append_c97b9_12 : decode cJ5_append_c97b9 12 = .ok (.aload_n 0, 1) := dec_42 (gB drcJ5_append_c97b9_0 12 rfl rfl)
theorem dJ5_append_c97b9_13 : decode cJ5_append_c97b9 13 = .ok (.iload_n 3, 1) := dec_29 (gB drcJ5_append_c97b9_0 13 rfl rfl)
theorem dJ5_append_c97b9_14 : decode cJ5_append_c97b9 14 = .ok (.invokevirtual 100, 3) := e_182 (x := 0) (y := 100) drcJ5_append_c97b9_0 14 rfl rfl
theorem dJ5_append_c97b9_17 : decode cJ5_append_c97b9 17 = .ok (.aload_n 0, 1) := dec_42 (gB drcJ5_append_c97b9_0 17 rfl rfl)
theorem dJ5_append_c97b9_18 : decode cJ5_append_c97b9 18 = .ok (.invokevirtual 83, 3) := e_182 (x := 0) (y := 83) drcJ5_append_c97b9_0 18 rfl rfl
theorem dJ5_append_c97b9_21 : decode cJ5_append_c97b9 21 = .ok (.ifCond .eq 16, 3) := e_153 (x := 0) (y := 16) drcJ5_append_c97b9_0 21 rfl rfl
theorem dJ5_append_c97b9_24 : decode cJ5_append_c97b9 24 = .ok (.iload_n 1, 1) := dec_27 (gB drcJ5_append_c97b9_0 24 rfl rfl)
theorem dJ5_append_c97b9_25 : decode cJ5_append_c97b9 25 = .ok (.iload_n 3, 1) := dec_29 (gB drcJ5_append_c97b9_0 25 rfl rfl)
theorem dJ5_append_c97b9_26 : decode cJ5_append_c97b9 26 = .ok (.aload_n 0, 1) := dec_42 (gB drcJ5_append_c97b9_0 26 rfl rfl)
theorem dJ5_append_c97b9_27 : decode cJ5_append_c97b9 27 = .ok (.getfield 15, 3) := e_180 (x := 0) (y := 15) drcJ5_append_c97b9_0 27 rfl rfl
theorem dJ5_append_c97b9_30 : decode cJ5_append_c97b9 30 = .ok (.invokestatic 248, 3) := e_184 (x := 0) (y := 248) drcJ5_append_c97b9_0 30 rfl rfl
theorem dJ5_append_c97b9_33 : decode cJ5_append_c97b9 33 = .ok (.pop, 1) := dec_87 (gB drcJ5_append_c97b9_0 33 rfl rfl)
theorem dJ5_append_c97b9_34 : decode cJ5_append_c97b9 34 = .ok (.goto 14, 3) := e_167 (x := 0) (y := 14) drcJ5_append_c97b9_0 34 rfl rfl
theorem dJ5_append_c97b9_37 : decode cJ5_append_c97b9 37 = .ok (.iload_n 1, 1) := dec_27 (gB drcJ5_append_c97b9_0 37 rfl rfl)
theorem dJ5_append_c97b9_38 : decode cJ5_append_c97b9 38 = .ok (.iload_n 2, 1) := dec_28 (gB drcJ5_append_c97b9_0 38 rfl rfl)
theorem dJ5_append_c97b9_39 : decode cJ5_append_c97b9 39 = .ok (.iload_n 3, 1) := dec_29 (gB drcJ5_append_c97b9_0 39 rfl rfl)
theorem dJ5_append_c97b9_40 : decode cJ5_append_c97b9 40 = .ok (.aload_n 0, 1) := dec_42 (gB drcJ5_append_c97b9_0 40 rfl rfl)
theorem dJ5_append_c97b9_41 : decode cJ5_append_c97b9 41 = .ok (.getfield 15, 3) := e_180 (x := 0) (y := 15) drcJ5_append_c97b9_0 41 rfl rfl
theorem dJ5_append_c97b9_48 : decode cJ5_append_c97b9 48 = .ok (.aload_n 0, 1) := dec_42 (gB drcJ5_append_c97b9_0 48 rfl rfl)
theorem dJ5_append_c97b9_49 : decode cJ5_append_c97b9 49 = .ok (.iload_n 3, 1) := dec_29 (gB drcJ5_append_c97b9_0 49 rfl rfl)
theorem dJ5_append_c97b9_50 : decode cJ5_append_c97b9 50 = .ok (.putfield 79, 3) := e_181 (x := 0) (y := 79) drcJ5_append_c97b9_0 50 rfl rfl
theorem dJ5_append_c97b9_53 : decode cJ5_append_c97b9 53 = .ok (.aload_n 0, 1) := dec_42 (gB drcJ5_append_c97b9_0 53 rfl rfl)
theorem dJ5_append_c97b9_54 : decode cJ5_append_c97b9 54 = .ok (.areturn, 1) := dec_176 (gB drcJ5_append_c97b9_0 54 rfl rfl)
def lkcJ5_getValue_6d5f1_0 : List UInt8 := [0x2a, 0xb4, 0x00, 0x0f, 0xb0]
def tkcJ5_getValue_6d5f1_0 : List UInt8 := lkcJ5_getValue_6d5f1_0 ++ []
theorem drcJ5_getValue_6d5f1_0 : (cJ5_getValue_6d5f1).data.toList.drop 0 = lkcJ5_getValue_6d5f1_0 ++ [] := by decide +kernel
theorem dJ5_getValue_6d5f1_0 : decode cJ5_getValue_6d5f1 0 = .ok (.aload_n 0, 1) := dec_42 (gB drcJ5_getValue_6d5f1_0 0 rfl rfl)
theorem dJ5_getValue_6d5f1_1 : decode cJ5_getValue_6d5f1 1 = .ok (.getfield 15, 3) := e_180 (x := 0) (y := 15) drcJ5_getValue_6d5f1_0 1 rfl rfl
theorem dJ5_getValue_6d5f1_4 : decode cJ5_getValue_6d5f1 4 = .ok (.areturn, 1) := dec_176 (gB drcJ5_getValue_6d5f1_0 4 rfl rfl)
def lkcJ5_isLatin1_aae02_0 : List UInt8 := [0xb2, 0x00, 0x12, 0x99, 0x00, 0x0e, 0x2a, 0xb4, 0x00, 0x16, 0x9a, 0x00, 0x07, 0x04, 0xa7, 0x00, 0x04, 0x03, 0xac]
def tkcJ5_isLatin1_aae02_0 : List UInt8 := lkcJ5_isLatin1_aae02_0 ++ []
theorem drcJ5_isLatin1_aae02_0 : (cJ5_isLatin1_aae02).data.toList.drop 0 = lkcJ5_isLatin1_aae02_0 ++ [] := by decide +kernel
theorem dJ5_isLatin1_aae02_0 : decode cJ5_isLatin1_aae02 0 = .ok (.getstatic 18, 3) := e_178 (x := 0) (y := 18) drcJ5_isLatin1_aae02_0 0 rfl rfl
theorem dJ5_isLatin1_aae02_3 : decode cJ5_isLatin1_aae02 3 = .ok (.ifCond .eq 14, 3) := e_153 (x := 0) (y := 14) drcJ5_isLatin1_aae02_0 3 rfl rfl
theorem dJ5_isLatin1_aae02_6 : decode cJ5_isLatin1_aae02 6 = .ok (.aload_n 0, 1) := dec_42 (gB drcJ5_isLatin1_aae02_0 6 rfl rfl)
theorem dJ5_isLatin1_aae02_7 : decode cJ5_isLatin1_aae02 7 = .ok (.getfield 22, 3) := e_180 (x := 0) (y := 22) drcJ5_isLatin1_aae02_0 7 rfl rfl
theorem dJ5_isLatin1_aae02_10 : decode cJ5_isLatin1_aae02 10 = .ok (.ifCond .ne 7, 3) := e_154 (x := 0) (y := 7) drcJ5_isLatin1_aae02_0 10 rfl rfl
theorem dJ5_isLatin1_aae02_13 : decode cJ5_isLatin1_aae02 13 = .ok (.iconst 1, 1) := dec_4 (gB drcJ5_isLatin1_aae02_0 13 rfl rfl)
theorem dJ5_isLatin1_aae02_14 : decode cJ5_isLatin1_aae02 14 = .ok (.goto 4, 3) := e_167 (x := 0) (y := 4) drcJ5_isLatin1_aae02_0 14 rfl rfl
theorem dJ5_isLatin1_aae02_17 : decode cJ5_isLatin1_aae02 17 = .ok (.iconst 0, 1) := dec_3 (gB drcJ5_isLatin1_aae02_0 17 rfl rfl)
theorem dJ5_isLatin1_aae02_18 : decode cJ5_isLatin1_aae02 18 = .ok (.ireturn, 1) := dec_172 (gB drcJ5_isLatin1_aae02_0 18 rfl rfl)
def lkcJ5_inflateIfNeededFor_a7421_0 : List UInt8 := [0xb2, 0x00, 0x12, 0x99, 0x00, 0x12, 0x2a, 0xb4, 0x00, 0x16, 0x2b, 0xb6, 0x00, 0x28, 0x9f, 0x00, 0x07, 0x2a, 0xb6, 0x00, 0xc3, 0xb1]
def tkcJ5_inflateIfNeededFor_a7421_0 : List UInt8 := lkcJ5_inflateIfNeededFor_a7421_0 ++ []
theorem drcJ5_inflateIfNeededFor_a7421_0 : (cJ5_inflateIfNeededFor_a7421).data.toList.drop 0 = lkcJ5_inflateIfNeededFor_a7421_0 ++ [] := by decide +kernel
def lkcJ5_putStringAt_47b60_0 : List UInt8 := [0x2a, 0x2c, 0xb6, 0x01, 0x8d, 0x2c, 0x2a, 0xb4, 0x00, 0x0f, 0x1b, 0x2a, 0xb4, 0x00, 0x16, 0xb6, 0x01, 0x8f, 0xb1]
def tkcJ5_putStringAt_47b60_0 : List UInt8 := lkcJ5_putStringAt_47b60_0 ++ []
theorem drcJ5_putStringAt_47b60_0 : (cJ5_putStringAt_47b60).data.toList.drop 0 = lkcJ5_putStringAt_47b60_0 ++ [] := by decide +kernel
def lkcJ6_getChars_ba4f3_0 : List UInt8 := [0x1b, 0x36, 0x05, 0x1a, 0x9c, 0x00, 0x07, 0x04, 0xa7, 0x00, 0x04, 0x03, 0x36, 0x06, 0x15, 0x06, 0x9a, 0x00, 0x06, 0x1a, 0x74, 0x3b, 0x1a, 0x10, 0x9c, 0xa3, 0x00, 0x2f, 0x1a, 0x10, 0x64, 0x6c, 0x3e, 0x1d, 0x10, 0x64, 0x68, 0x1a, 0x64, 0x36, 0x04, 0x1d, 0x3b, 0x2c, 0x84, 0x05, 0xff, 0x15, 0x05, 0xb2, 0x00, 0x53, 0x15, 0x04, 0x33, 0x54, 0x2c, 0x84, 0x05, 0xff, 0x15, 0x05, 0xb2, 0x00]
def lkcJ6_getChars_ba4f3_1 : List UInt8 := [0x57, 0x15, 0x04, 0x33, 0x54, 0xa7, 0xff, 0xd1, 0x2c, 0x84, 0x05, 0xff, 0x15, 0x05, 0xb2, 0x00, 0x53, 0x1a, 0x74, 0x33, 0x54, 0x1a, 0x10, 0xf7, 0xa2, 0x00, 0x10, 0x2c, 0x84, 0x05, 0xff, 0x15, 0x05, 0xb2, 0x00, 0x57, 0x1a, 0x74, 0x33, 0x54, 0x15, 0x06, 0x99, 0x00, 0x0c, 0x2c, 0x84, 0x05, 0xff, 0x15, 0x05, 0x10, 0x2d, 0x54, 0x15, 0x05, 0xac]
def tkcJ6_getChars_ba4f3_1 : List UInt8 := lkcJ6_getChars_ba4f3_1 ++ []
def tkcJ6_getChars_ba4f3_0 : List UInt8 := lkcJ6_getChars_ba4f3_0 ++ tkcJ6_getChars_ba4f3_1
theorem drcJ6_getChars_ba4f3_0 : (cJ6_getChars_ba4f3).data.toList.drop 0 = lkcJ6_getChars_ba4f3_0 ++ tkcJ6_getChars_ba4f3_1 := by decide +kernel
theorem drcJ6_getChars_ba4f3_1 : (cJ6_getChars_ba4f3).data.toList.drop 64 = lkcJ6_getChars_ba4f3_1 ++ [] := dr_step drcJ6_getChars_ba4f3_0 rfl
theorem dJ6_getChars_ba4f3_0 : decode cJ6_getChars_ba4f3 0 = .ok (.iload_n 1, 1) := dec_27 (gB drcJ6_getChars_ba4f3_0 0 rfl rfl)
theorem dJ6_getChars_ba4f3_1 : decode cJ6_getChars_ba4f3 1 = .ok (.istore 5, 2) := e_54 (x := 5) drcJ6_getChars_ba4f3_0 1 rfl rfl
theorem dJ6_getChars_ba4f3_3 : decode cJ6_getChars_ba4f3 3 = .ok (.iload_n 0, 1) := dec_26 (gB drcJ6_getChars_ba4f3_0 3 rfl rfl)
theorem dJ6_getChars_ba4f3_4 : decode cJ6_getChars_ba4f3 4 = .ok (.ifCond .ge 7, 3) := e_156 (x := 0) (y := 7) drcJ6_getChars_ba4f3_0 4 rfl rfl
theorem dJ6_getChars_ba4f3_7 : decode cJ6_getChars_ba4f3 7 = .ok (.iconst 1, 1) := dec_4 (gB drcJ6_getChars_ba4f3_0 7 rfl rfl)
theorem dJ6_getChars_ba4f3_8 : decode cJ6_getChars_ba4f3 8 = .ok (.goto 4, 3) := e_167 (x := 0) (y := 4) drcJ6_getChars_ba4f3_0 8 rfl rfl
theorem dJ6_getChars_ba4f3_11 : decode cJ6_getChars_ba4f3 11 = .ok (.iconst 0, 1) := dec_3 (gB drcJ6_getChars_ba4f3_0 11 rfl rfl)
theorem dJ6_getChars_ba4f3_12 : decode cJ6_getChars_ba4f3 12 = .ok (.istore 6, 2) := e_54 (x := 6) drcJ6_getChars_ba4f3_0 12 rfl rfl
theorem dJ6_getChars_ba4f3_14 : decode cJ6_getChars_ba4f3 14 = .ok (.iload 6, 2) := e_21 (x := 6) drcJ6_getChars_ba4f3_0 14 rfl rfl
theorem dJ6_getChars_ba4f3_16 : decode cJ6_getChars_ba4f3 16 = .ok (.ifCond .ne 6, 3) := e_154 (x := 0) (y := 6) drcJ6_getChars_ba4f3_0 16 rfl rfl
theorem dJ6_getChars_ba4f3_19 : decode cJ6_getChars_ba4f3 19 = .ok (.iload_n 0, 1) := dec_26 (gB drcJ6_getChars_ba4f3_0 19 rfl rfl)
theorem dJ6_getChars_ba4f3_20 : decode cJ6_getChars_ba4f3 20 = .ok (.ineg, 1) := dec_116 (gB drcJ6_getChars_ba4f3_0 20 rfl rfl)
theorem dJ6_getChars_ba4f3_21 : decode cJ6_getChars_ba4f3 21 = .ok (.istore_n 0, 1) := dec_59 (gB drcJ6_getChars_ba4f3_0 21 rfl rfl)
theorem dJ6_getChars_ba4f3_22 : decode cJ6_getChars_ba4f3 22 = .ok (.iload_n 0, 1) := dec_26 (gB drcJ6_getChars_ba4f3_0 22 rfl rfl)
theorem dJ6_getChars_ba4f3_23 : decode cJ6_getChars_ba4f3 23 = .ok (.bipush (-100), 2) := e_16 (x := 156) drcJ6_getChars_ba4f3_0 23 rfl rfl
theorem dJ6_getChars_ba4f3_25 : decode cJ6_getChars_ba4f3 25 = .ok (.if_icmp .gt 47, 3) := e_163 (x := 0) (y := 47) drcJ6_getChars_ba4f3_0 25 rfl rfl
theorem dJ6_getChars_ba4f3_28 : decode cJ6_getChars_ba4f3 28 = .ok (.iload_n 0, 1) := dec_26 (gB drcJ6_getChars_ba4f3_0 28 rfl rfl)
theorem dJ6_getChars_ba4f3_29 : decode cJ6_getChars_ba4f3 29 = .ok (.bipush 100, 2) := e_16 (x := 100) drcJ6_getChars_ba4f3_0 29 rfl rfl
theorem dJ6_getChars_ba4f3_31 : decode cJ6_getChars_ba4f3 31 = .ok (.idiv, 1) := dec_108 (gB drcJ6_getChars_ba4f3_0 31 rfl rfl)
theorem dJ6_getChars_ba4f3_32 : decode cJ6_getChars_ba4f3 32 = .ok (.istore_n 3, 1) := dec_62 (gB drcJ6_getChars_ba4f3_0 32 rfl rfl)
theorem dJ6_getChars_ba4f3_33 : decode cJ6_getChars_ba4f3 33 = .ok (.iload_n 3, 1) := dec_29 (gB drcJ6_getChars_ba4f3_0 33 rfl rfl)
theorem dJ6_getChars_ba4f3_34 : decode cJ6_getChars_ba4f3 34 = .ok (.bipush 100, 2) := e_16 (x := 100) drcJ6_getChars_ba4f3_0 34 rfl rfl
theorem dJ6_getChars_ba4f3_36 : decode cJ6_getChars_ba4f3 36 = .ok (.imul, 1) := dec_104 (gB drcJ6_getChars_ba4f3_0 36 rfl rfl)
theorem dJ6_getChars_ba4f3_37 : decode cJ6_getChars_ba4f3 37 = .ok (.iload_n 0, 1) := dec_26 (gB drcJ6_getChars_ba4f3_0 37 rfl rfl)
theorem dJ6_getChars_ba4f3_38 : decode cJ6_getChars_ba4f3 38 = .ok (.isub, 1) := dec_100 (gB drcJ6_getChars_ba4f3_0 38 rfl rfl)
theorem dJ6_getChars_ba4f3_39 : decode cJ6_getChars_ba4f3 39 = .ok (.istore 4, 2) := e_54 (x := 4) drcJ6_getChars_ba4f3_0 39 rfl rfl
theorem dJ6_getChars_ba4f3_41 : decode cJ6_getChars_ba4f3 41 = .ok (.iload_n 3, 1) := dec_29 (gB drcJ6_getChars_ba4f3_0 41 rfl rfl)
theorem dJ6_getChars_ba4f3_42 : decode cJ6_getChars_ba4f3 42 = .ok (.istore_n 0, 1) := dec_59 (gB drcJ6_getChars_ba4f3_0 42 rfl rfl)
theorem dJ6_getChars_ba4f3_43 : decode cJ6_getChars_ba4f3 43 = .ok (.aload_n 2, 1) := dec_44 (gB drcJ6_getChars_ba4f3_0 43 rfl rfl)
theorem dJ6_getChars_ba4f3_44 : decode cJ6_getChars_ba4f3 44 = .ok (.iinc 5 (-1), 3) := e_132 (x := 5) (y := 255) drcJ6_getChars_ba4f3_0 44 rfl rfl
theorem dJ6_getChars_ba4f3_47 : decode cJ6_getChars_ba4f3 47 = .ok (.iload 5, 2) := e_21 (x := 5) drcJ6_getChars_ba4f3_0 47 rfl rfl
theorem dJ6_getChars_ba4f3_49 : decode cJ6_getChars_ba4f3 49 = .ok (.getstatic 83, 3) := e_178 (x := 0) (y := 83) drcJ6_getChars_ba4f3_0 49 rfl rfl
theorem dJ6_getChars_ba4f3_52 : decode cJ6_getChars_ba4f3 52 = .ok (.iload 4, 2) := e_21 (x := 4) drcJ6_getChars_ba4f3_0 52 rfl rfl
theorem dJ6_getChars_ba4f3_54 : decode cJ6_getChars_ba4f3 54 = .ok (.baload, 1) := dec_51 (gB drcJ6_getChars_ba4f3_0 54 rfl rfl)
theorem dJ6_getChars_ba4f3_55 : decode cJ6_getChars_ba4f3 55 = .ok (.bastore, 1) := dec_84 (gB drcJ6_getChars_ba4f3_0 55 rfl rfl)
theorem dJ6_getChars_ba4f3_56 : decode cJ6_getChars_ba4f3 56 = .ok (.aload_n 2, 1) := dec_44 (gB drcJ6_getChars_ba4f3_0 56 rfl rfl)
theorem dJ6_getChars_ba4f3_57 : decode cJ6_getChars_ba4f3 57 = .ok (.iinc 5 (-1), 3) := e_132 (x := 5) (y := 255) drcJ6_getChars_ba4f3_0 57 rfl rfl
theorem dJ6_getChars_ba4f3_60 : decode cJ6_getChars_ba4f3 60 = .ok (.iload 5, 2) := e_21 (x := 5) drcJ6_getChars_ba4f3_0 60 rfl rfl
theorem dJ6_getChars_ba4f3_62 : decode cJ6_getChars_ba4f3 62 = .ok (.getstatic 87, 3) := dec_178 (a := 0) (b := 87) (gB drcJ6_getChars_ba4f3_0 62 rfl rfl) (gB drcJ6_getChars_ba4f3_0 63 rfl rfl) (gB drcJ6_getChars_ba4f3_1 0 rfl rfl)
theorem dJ6_getChars_ba4f3_65 : decode cJ6_getChars_ba4f3 65 = .ok (.iload 4, 2) := e_21 (x := 4) drcJ6_getChars_ba4f3_1 1 rfl rfl
theorem dJ6_getChars_ba4f3_67 : decode cJ6_getChars_ba4f3 67 = .ok (.baload, 1) := dec_51 (gB drcJ6_getChars_ba4f3_1 3 rfl rfl)
theorem dJ6_getChars_ba4f3_68 : decode cJ6_getChars_ba4f3 68 = .ok (.bastore, 1) := dec_84 (gB drcJ6_getChars_ba4f3_1 4 rfl rfl)
theorem dJ6_getChars_ba4f3_69 : decode cJ6_getChars_ba4f3 69 = .ok (.goto (-47), 3) := e_167 (x := 255) (y := 209) drcJ6_getChars_ba4f3_1 5 rfl rfl
theorem dJ6_getChars_ba4f3_72 : decode cJ6_getChars_ba4f3 72 = .ok (.aload_n 2, 1) := dec_44 (gB drcJ6_getChars_ba4f3_1 8 rfl rfl)
theorem dJ6_getChars_ba4f3_73 : decode cJ6_getChars_ba4f3 73 = .ok (.iinc 5 (-1), 3) := e_132 (x := 5) (y := 255) drcJ6_getChars_ba4f3_1 9 rfl rfl
theorem dJ6_getChars_ba4f3_76 : decode cJ6_getChars_ba4f3 76 = .ok (.iload 5, 2) := e_21 (x := 5) drcJ6_getChars_ba4f3_1 12 rfl rfl
theorem dJ6_getChars_ba4f3_78 : decode cJ6_getChars_ba4f3 78 = .ok (.getstatic 83, 3) := e_178 (x := 0) (y := 83) drcJ6_getChars_ba4f3_1 14 rfl rfl
theorem dJ6_getChars_ba4f3_81 : decode cJ6_getChars_ba4f3 81 = .ok (.iload_n 0, 1) := dec_26 (gB drcJ6_getChars_ba4f3_1 17 rfl rfl)
theorem dJ6_getChars_ba4f3_82 : decode cJ6_getChars_ba4f3 82 = .ok (.ineg, 1) := dec_116 (gB drcJ6_getChars_ba4f3_1 18 rfl rfl)
theorem dJ6_getChars_ba4f3_83 : decode cJ6_getChars_ba4f3 83 = .ok (.baload, 1) := dec_51 (gB drcJ6_getChars_ba4f3_1 19 rfl rfl)
theorem dJ6_getChars_ba4f3_84 : decode cJ6_getChars_ba4f3 84 = .ok (.bastore, 1) := dec_84 (gB drcJ6_getChars_ba4f3_1 20 rfl rfl)
theorem dJ6_getChars_ba4f3_85 : decode cJ6_getChars_ba4f3 85 = .ok (.iload_n 0, 1) := dec_26 (gB drcJ6_getChars_ba4f3_1 21 rfl rfl)
theorem dJ6_getChars_ba4f3_86 : decode cJ6_getChars_ba4f3 86 = .ok (.bipush (-9), 2) := e_16 (x := 247) drcJ6_getChars_ba4f3_1 22 rfl rfl
theorem dJ6_getChars_ba4f3_88 : decode cJ6_getChars_ba4f3 88 = .ok (.if_icmp .ge 16, 3) := e_162 (x := 0) (y := 16) drcJ6_getChars_ba4f3_1 24 rfl rfl
theorem dJ6_getChars_ba4f3_91 : decode cJ6_getChars_ba4f3 91 = .ok (.aload_n 2, 1) := dec_44 (gB drcJ6_getChars_ba4f3_1 27 rfl rfl)
theorem dJ6_getChars_ba4f3_92 : decode cJ6_getChars_ba4f3 92 = .ok (.iinc 5 (-1), 3) := e_132 (x := 5) (y := 255) drcJ6_getChars_ba4f3_1 28 rfl rfl
theorem dJ6_getChars_ba4f3_95 : decode cJ6_getChars_ba4f3 95 = .ok (.iload 5, 2) := e_21 (x := 5) drcJ6_getChars_ba4f3_1 31 rfl rfl
theorem dJ6_getChars_ba4f3_97 : decode cJ6_getChars_ba4f3 97 = .ok (.getstatic 87, 3) := e_178 (x := 0) (y := 87) drcJ6_getChars_ba4f3_1 33 rfl rfl
theorem dJ6_getChars_ba4f3_100 : decode cJ6_getChars_ba4f3 100 = .ok (.iload_n 0, 1) := dec_26 (gB drcJ6_getChars_ba4f3_1 36 rfl rfl)
theorem dJ6_getChars_ba4f3_101 : decode cJ6_getChars_ba4f3 101 = .ok (.ineg, 1) := dec_116 (gB drcJ6_getChars_ba4f3_1 37 rfl rfl)
theorem dJ6_getChars_ba4f3_102 : decode cJ6_getChars_ba4f3 102 = .ok (.baload, 1) := dec_51 (gB drcJ6_getChars_ba4f3_1 38 rfl rfl)
theorem dJ6_getChars_ba4f3_103 : decode cJ6_getChars_ba4f3 103 = .ok (.bastore, 1) := dec_84 (gB drcJ6_getChars_ba4f3_1 39 rfl rfl)
theorem dJ6_getChars_ba4f3_104 : decode cJ6_getChars_ba4f3 104 = .ok (.iload 6, 2) := e_21 (x := 6) drcJ6_getChars_ba4f3_1 40 rfl rfl
theorem dJ6_getChars_ba4f3_106 : decode cJ6_getChars_ba4f3 106 = .ok (.ifCond .eq 12, 3) := e_153 (x := 0) (y := 12) drcJ6_getChars_ba4f3_1 42 rfl rfl
theorem dJ6_getChars_ba4f3_109 : decode cJ6_getChars_ba4f3 109 = .ok (.aload_n 2, 1) := dec_44 (gB drcJ6_getChars_ba4f3_1 45 rfl rfl)
theorem dJ6_getChars_ba4f3_110 : decode cJ6_getChars_ba4f3 110 = .ok (.iinc 5 (-1), 3) := e_132 (x := 5) (y := 255) drcJ6_getChars_ba4f3_1 46 rfl rfl
theorem dJ6_getChars_ba4f3_113 : decode cJ6_getChars_ba4f3 113 = .ok (.iload 5, 2) := e_21 (x := 5) drcJ6_getChars_ba4f3_1 49 rfl rfl
theorem dJ6_getChars_ba4f3_115 : decode cJ6_getChars_ba4f3 115 = .ok (.bipush 45, 2) := e_16 (x := 45) drcJ6_getChars_ba4f3_1 51 rfl rfl
theorem dJ6_getChars_ba4f3_117 : decode cJ6_getChars_ba4f3 117 = .ok (.bastore, 1) := dec_84 (gB drcJ6_getChars_ba4f3_1 53 rfl rfl)
theorem dJ6_getChars_ba4f3_118 : decode cJ6_getChars_ba4f3 118 = .ok (.iload 5, 2) := e_21 (x := 5) drcJ6_getChars_ba4f3_1 54 rfl rfl
theorem dJ6_getChars_ba4f3_120 : decode cJ6_getChars_ba4f3 120 = .ok (.ireturn, 1) := dec_172 (gB drcJ6_getChars_ba4f3_1 56 rfl rfl)
def lkcJ6_stringSize_0f7a4_0 : List UInt8 := [0x04, 0x3c, 0x1a, 0x9b, 0x00, 0x08, 0x03, 0x3c, 0x1a, 0x74, 0x3b, 0x10, 0xf6, 0x3d, 0x04, 0x3e, 0x1d, 0x10, 0x0a, 0xa2, 0x00, 0x17, 0x1a, 0x1c, 0xa4, 0x00, 0x07, 0x1d, 0x1b, 0x60, 0xac, 0x10, 0x0a, 0x1c, 0x68, 0x3d, 0x84, 0x03, 0x01, 0xa7, 0xff, 0xe9, 0x10, 0x0a, 0x1b, 0x60, 0xac]
def tkcJ6_stringSize_0f7a4_0 : List UInt8 := lkcJ6_stringSize_0f7a4_0 ++ []
theorem drcJ6_stringSize_0f7a4_0 : (cJ6_stringSize_0f7a4).data.toList.drop 0 = lkcJ6_stringSize_0f7a4_0 ++ [] := by decide +kernel
theorem dJ6_stringSize_0f7a4_0 : decode cJ6_stringSize_0f7a4 0 = .ok (.iconst 1, 1) := dec_4 (gB drcJ6_stringSize_0f7a4_0 0 rfl rfl)
theorem dJ6_stringSize_0f7a4_1 : decode cJ6_stringSize_0f7a4 1 = .ok (.istore_n 1, 1) := dec_60 (gB drcJ6_stringSize_0f7a4_0 1 rfl rfl)
theorem dJ6_stringSize_0f7a4_2 : decode cJ6_stringSize_0f7a4 2 = .ok (.iload_n 0, 1) := dec_26 (gB drcJ6_stringSize_0f7a4_0 2 rfl rfl)
theorem dJ6_stringSize_0f7a4_3 : decode cJ6_stringSize_0f7a4 3 = .ok (.ifCond .lt 8, 3) := e_155 (x := 0) (y := 8) drcJ6_stringSize_0f7a4_0 3 rfl rfl
theorem dJ6_stringSize_0f7a4_6 : decode cJ6_stringSize_0f7a4 6 = .ok (.iconst 0, 1) := dec_3 (gB drcJ6_stringSize_0f7a4_0 6 rfl rfl)
theorem dJ6_stringSize_0f7a4_7 : decode cJ6_stringSize_0f7a4 7 = .ok (.istore_n 1, 1) := dec_60 (gB drcJ6_stringSize_0f7a4_0 7 rfl rfl)
theorem dJ6_stringSize_0f7a4_8 : decode cJ6_stringSize_0f7a4 8 = .ok (.iload_n 0, 1) := dec_26 (gB drcJ6_stringSize_0f7a4_0 8 rfl rfl)
theorem dJ6_stringSize_0f7a4_9 : decode cJ6_stringSize_0f7a4 9 = .ok (.ineg, 1) := dec_116 (gB drcJ6_stringSize_0f7a4_0 9 rfl rfl)
theorem dJ6_stringSize_0f7a4_10 : decode cJ6_stringSize_0f7a4 10 = .ok (.istore_n 0, 1) := dec_59 (gB drcJ6_stringSize_0f7a4_0 10 rfl rfl)
theorem dJ6_stringSize_0f7a4_11 : decode cJ6_stringSize_0f7a4 11 = .ok (.bipush (-10), 2) := e_16 (x := 246) drcJ6_stringSize_0f7a4_0 11 rfl rfl
theorem dJ6_stringSize_0f7a4_13 : decode cJ6_stringSize_0f7a4 13 = .ok (.istore_n 2, 1) := dec_61 (gB drcJ6_stringSize_0f7a4_0 13 rfl rfl)
theorem dJ6_stringSize_0f7a4_14 : decode cJ6_stringSize_0f7a4 14 = .ok (.iconst 1, 1) := dec_4 (gB drcJ6_stringSize_0f7a4_0 14 rfl rfl)
theorem dJ6_stringSize_0f7a4_15 : decode cJ6_stringSize_0f7a4 15 = .ok (.istore_n 3, 1) := dec_62 (gB drcJ6_stringSize_0f7a4_0 15 rfl rfl)
theorem dJ6_stringSize_0f7a4_16 : decode cJ6_stringSize_0f7a4 16 = .ok (.iload_n 3, 1) := dec_29 (gB drcJ6_stringSize_0f7a4_0 16 rfl rfl)
theorem dJ6_stringSize_0f7a4_17 : decode cJ6_stringSize_0f7a4 17 = .ok (.bipush 10, 2) := e_16 (x := 10) drcJ6_stringSize_0f7a4_0 17 rfl rfl
theorem dJ6_stringSize_0f7a4_19 : decode cJ6_stringSize_0f7a4 19 = .ok (.if_icmp .ge 23, 3) := e_162 (x := 0) (y := 23) drcJ6_stringSize_0f7a4_0 19 rfl rfl
theorem dJ6_stringSize_0f7a4_22 : decode cJ6_stringSize_0f7a4 22 = .ok (.iload_n 0, 1) := dec_26 (gB drcJ6_stringSize_0f7a4_0 22 rfl rfl)
theorem dJ6_stringSize_0f7a4_23 : decode cJ6_stringSize_0f7a4 23 = .ok (.iload_n 2, 1) := dec_28 (gB drcJ6_stringSize_0f7a4_0 23 rfl rfl)
theorem dJ6_stringSize_0f7a4_24 : decode cJ6_stringSize_0f7a4 24 = .ok (.if_icmp .le 7, 3) := e_164 (x := 0) (y := 7) drcJ6_stringSize_0f7a4_0 24 rfl rfl
theorem dJ6_stringSize_0f7a4_27 : decode cJ6_stringSize_0f7a4 27 = .ok (.iload_n 3, 1) := dec_29 (gB drcJ6_stringSize_0f7a4_0 27 rfl rfl)
theorem dJ6_stringSize_0f7a4_28 : decode cJ6_stringSize_0f7a4 28 = .ok (.iload_n 1, 1) := dec_27 (gB drcJ6_stringSize_0f7a4_0 28 rfl rfl)
theorem dJ6_stringSize_0f7a4_29 : decode cJ6_stringSize_0f7a4 29 = .ok (.iadd, 1) := dec_96 (gB drcJ6_stringSize_0f7a4_0 29 rfl rfl)
theorem dJ6_stringSize_0f7a4_30 : decode cJ6_stringSize_0f7a4 30 = .ok (.ireturn, 1) := dec_172 (gB drcJ6_stringSize_0f7a4_0 30 rfl rfl)
theorem dJ6_stringSize_0f7a4_31 : decode cJ6_stringSize_0f7a4 31 = .ok (.bipush 10, 2) := e_16 (x := 10) drcJ6_stringSize_0f7a4_0 31 rfl rfl
theorem dJ6_stringSize_0f7a4_33 : decode cJ6_stringSize_0f7a4 33 = .ok (.iload_n 2, 1) := dec_28 (gB drcJ6_stringSize_0f7a4_0 33 rfl rfl)
theorem dJ6_stringSize_0f7a4_34 : decode cJ6_stringSize_0f7a4 34 = .ok (.imul, 1) := dec_104 (gB drcJ6_stringSize_0f7a4_0 34 rfl rfl)
theorem dJ6_stringSize_0f7a4_35 : decode cJ6_stringSize_0f7a4 35 = .ok (.istore_n 2, 1) := dec_61 (gB drcJ6_stringSize_0f7a4_0 35 rfl rfl)
theorem dJ6_stringSize_0f7a4_36 : decode cJ6_stringSize_0f7a4 36 = .ok (.iinc 3 1, 3) := e_132 (x := 3) (y := 1) drcJ6_stringSize_0f7a4_0 36 rfl rfl
theorem dJ6_stringSize_0f7a4_39 : decode cJ6_stringSize_0f7a4 39 = .ok (.goto (-23), 3) := e_167 (x := 255) (y := 233) drcJ6_stringSize_0f7a4_0 39 rfl rfl
theorem dJ6_stringSize_0f7a4_42 : decode cJ6_stringSize_0f7a4 42 = .ok (.bipush 10, 2) := e_16 (x := 10) drcJ6_stringSize_0f7a4_0 42 rfl rfl
theorem dJ6_stringSize_0f7a4_44 : decode cJ6_stringSize_0f7a4 44 = .ok (.iload_n 1, 1) := dec_27 (gB drcJ6_stringSize_0f7a4_0 44 rfl rfl)
theorem dJ6_stringSize_0f7a4_45 : decode cJ6_stringSize_0f7a4 45 = .ok (.iadd, 1) := dec_96 (gB drcJ6_stringSize_0f7a4_0 45 rfl rfl)
theorem dJ6_stringSize_0f7a4_46 : decode cJ6_stringSize_0f7a4 46 = .ok (.ireturn, 1) := dec_172 (gB drcJ6_stringSize_0f7a4_0 46 rfl rfl)
def lkcJ6_compare_7cf53_0 : List UInt8 := [0x1a, 0x1b, 0xa2, 0x00, 0x07, 0x02, 0xa7, 0x00, 0x0d, 0x1a, 0x1b, 0xa0, 0x00, 0x07, 0x03, 0xa7, 0x00, 0x04, 0x04, 0xac]
def tkcJ6_compare_7cf53_0 : List UInt8 := lkcJ6_compare_7cf53_0 ++ []
theorem drcJ6_compare_7cf53_0 : (cJ6_compare_7cf53).data.toList.drop 0 = lkcJ6_compare_7cf53_0 ++ [] := by decide +kernel
theorem dJ6_compare_7cf53_0 : decode cJ6_compare_7cf53 0 = .ok (.iload_n 0, 1) := dec_26 (gB drcJ6_compare_7cf53_0 0 rfl rfl)
theorem dJ6_compare_7cf53_1 : decode cJ6_compare_7cf53 1 = .ok (.iload_n 1, 1) := dec_27 (gB drcJ6_compare_7cf53_0 1 rfl rfl)
theorem dJ6_compare_7cf53_2 : decode cJ6_compare_7cf53 2 = .ok (.if_icmp .ge 7, 3) := e_162 (x := 0) (y := 7) drcJ6_compare_7cf53_0 2 rfl rfl
theorem dJ6_compare_7cf53_5 : decode cJ6_compare_7cf53 5 = .ok (.iconst (-1), 1) := dec_2 (gB drcJ6_compare_7cf53_0 5 rfl rfl)
theorem dJ6_compare_7cf53_6 : decode cJ6_compare_7cf53 6 = .ok (.goto 13, 3) := e_167 (x := 0) (y := 13) drcJ6_compare_7cf53_0 6 rfl rfl
theorem dJ6_compare_7cf53_9 : decode cJ6_compare_7cf53 9 = .ok (.iload_n 0, 1) := dec_26 (gB drcJ6_compare_7cf53_0 9 rfl rfl)
theorem dJ6_compare_7cf53_10 : decode cJ6_compare_7cf53 10 = .ok (.iload_n 1, 1) := dec_27 (gB drcJ6_compare_7cf53_0 10 rfl rfl)
theorem dJ6_compare_7cf53_11 : decode cJ6_compare_7cf53 11 = .ok (.if_icmp .ne 7, 3) := e_160 (x := 0) (y := 7) drcJ6_compare_7cf53_0 11 rfl rfl
theorem dJ6_compare_7cf53_14 : decode cJ6_compare_7cf53 14 = .ok (.iconst 0, 1) := dec_3 (gB drcJ6_compare_7cf53_0 14 rfl rfl)
theorem dJ6_compare_7cf53_15 : decode cJ6_compare_7cf53 15 = .ok (.goto 4, 3) := e_167 (x := 0) (y := 4) drcJ6_compare_7cf53_0 15 rfl rfl
theorem dJ6_compare_7cf53_18 : decode cJ6_compare_7cf53 18 = .ok (.iconst 1, 1) := dec_4 (gB drcJ6_compare_7cf53_0 18 rfl rfl)
theorem dJ6_compare_7cf53_19 : decode cJ6_compare_7cf53 19 = .ok (.ireturn, 1) := dec_172 (gB drcJ6_compare_7cf53_0 19 rfl rfl)
def lkcJ6_bitCount_0f7a4_0 : List UInt8 := [0x1a, 0x1a, 0x04, 0x7c, 0x13, 0x01, 0x09, 0x7e, 0x64, 0x3b, 0x1a, 0x13, 0x01, 0x0a, 0x7e, 0x1a, 0x05, 0x7c, 0x13, 0x01, 0x0a, 0x7e, 0x60, 0x3b, 0x1a, 0x1a, 0x07, 0x7c, 0x60, 0x13, 0x01, 0x0b, 0x7e, 0x3b, 0x1a, 0x1a, 0x10, 0x08, 0x7c, 0x60, 0x3b, 0x1a, 0x1a, 0x10, 0x10, 0x7c, 0x60, 0x3b, 0x1a, 0x10, 0x3f, 0x7e, 0xac]
def tkcJ6_bitCount_0f7a4_0 : List UInt8 := lkcJ6_bitCount_0f7a4_0 ++ []
theorem drcJ6_bitCount_0f7a4_0 : (cJ6_bitCount_0f7a4).data.toList.drop 0 = lkcJ6_bitCount_0f7a4_0 ++ [] := by decide +kernel
theorem dJ6_bitCount_0f7a4_0 : decode cJ6_bitCount_0f7a4 0 = .ok (.iload_n 0, 1) := dec_26 (gB drcJ6_bitCount_0f7a4_0 0 rfl rfl)
theorem dJ6_bitCount_0f7a4_1 : decode cJ6_bitCount_0f7a4 1 = .ok (.iload_n 0, 1) := dec_26 (gB drcJ6_bitCount_0f7a4_0 1 rfl rfl)
theorem dJ6_bitCount_0f7a4_2 : decode cJ6_bitCount_0f7a4 2 = .ok (.iconst 1, 1) := dec_4 (gB drcJ6_bitCount_0f7a4_0 2 rfl rfl)
theorem dJ6_bitCount_0f7a4_3 : decode cJ6_bitCount_0f7a4 3 = .ok (.iushr, 1) := dec_124 (gB drcJ6_bitCount_0f7a4_0 3 rfl rfl)
theorem dJ6_bitCount_0f7a4_4 : decode cJ6_bitCount_0f7a4 4 = .ok (.ldc_w 265, 3) := e_19 (x := 1) (y := 9) drcJ6_bitCount_0f7a4_0 4 rfl rfl
theorem dJ6_bitCount_0f7a4_7 : decode cJ6_bitCount_0f7a4 7 = .ok (.iand, 1) := dec_126 (gB drcJ6_bitCount_0f7a4_0 7 rfl rfl)
theorem dJ6_bitCount_0f7a4_8 : decode cJ6_bitCount_0f7a4 8 = .ok (.isub, 1) := dec_100 (gB drcJ6_bitCount_0f7a4_0 8 rfl rfl)
theorem dJ6_bitCount_0f7a4_9 : decode cJ6_bitCount_0f7a4 9 = .ok (.istore_n 0, 1) := dec_59 (gB drcJ6_bitCount_0f7a4_0 9 rfl rfl)
theorem dJ6_bitCount_0f7a4_10 : decode cJ6_bitCount_0f7a4 10 = .ok (.iload_n 0, 1) := dec_26 (gB drcJ6_bitCount_0f7a4_0 10 rfl rfl)
theorem dJ6_bitCount_0f7a4_11 : decode cJ6_bitCount_0f7a4 11 = .ok (.ldc_w 266, 3) := e_19 (x := 1) (y := 10) drcJ6_bitCount_0f7a4_0 11 rfl rfl
theorem dJ6_bitCount_0f7a4_14 : decode cJ6_bitCount_0f7a4 14 = .ok (.iand, 1) := dec_126 (gB drcJ6_bitCount_0f7a4_0 14 rfl rfl)
theorem dJ6_bitCount_0f7a4_15 : decode cJ6_bitCount_0f7a4 15 = .ok (.iload_n 0, 1) := dec_26 (gB drcJ6_bitCount_0f7a4_0 15 rfl rfl)
theorem dJ6_bitCount_0f7a4_16 : decode cJ6_bitCount_0f7a4 16 = .ok (.iconst 2, 1) := dec_5 (gB drcJ6_bitCount_0f7a4_0 16 rfl rfl)
theorem dJ6_bitCount_0f7a4_17 : decode cJ6_bitCount_0f7a4 17 = .ok (.iushr, 1) := dec_124 (gB drcJ6_bitCount_0f7a4_0 17 rfl rfl)
theorem dJ6_bitCount_0f7a4_18 : decode cJ6_bitCount_0f7a4 18 = .ok (.ldc_w 266, 3) := e_19 (x := 1) (y := 10) drcJ6_bitCount_0f7a4_0 18 rfl rfl
theorem dJ6_bitCount_0f7a4_21 : decode cJ6_bitCount_0f7a4 21 = .ok (.iand, 1) := dec_126 (gB drcJ6_bitCount_0f7a4_0 21 rfl rfl)
theorem dJ6_bitCount_0f7a4_22 : decode cJ6_bitCount_0f7a4 22 = .ok (.iadd, 1) := dec_96 (gB drcJ6_bitCount_0f7a4_0 22 rfl rfl)
theorem dJ6_bitCount_0f7a4_23 : decode cJ6_bitCount_0f7a4 23 = .ok (.istore_n 0, 1) := dec_59 (gB drcJ6_bitCount_0f7a4_0 23 rfl rfl)
theorem dJ6_bitCount_0f7a4_24 : decode cJ6_bitCount_0f7a4 24 = .ok (.iload_n 0, 1) := dec_26 (gB drcJ6_bitCount_0f7a4_0 24 rfl rfl)
theorem dJ6_bitCount_0f7a4_25 : decode cJ6_bitCount_0f7a4 25 = .ok (.iload_n 0, 1) := dec_26 (gB drcJ6_bitCount_0f7a4_0 25 rfl rfl)
theorem dJ6_bitCount_0f7a4_26 : decode cJ6_bitCount_0f7a4 26 = .ok (.iconst 4, 1) := dec_7 (gB drcJ6_bitCount_0f7a4_0 26 rfl rfl)
theorem dJ6_bitCount_0f7a4_27 : decode cJ6_bitCount_0f7a4 27 = .ok (.iushr, 1) := dec_124 (gB drcJ6_bitCount_0f7a4_0 27 rfl rfl)
theorem dJ6_bitCount_0f7a4_28 : decode cJ6_bitCount_0f7a4 28 = .ok (.iadd, 1) := dec_96 (gB drcJ6_bitCount_0f7a4_0 28 rfl rfl)
theorem dJ6_bitCount_0f7a4_29 : decode cJ6_bitCount_0f7a4 29 = .ok (.ldc_w 267, 3) := e_19 (x := 1) (y := 11) drcJ6_bitCount_0f7a4_0 29 rfl rfl
theorem dJ6_bitCount_0f7a4_32 : decode cJ6_bitCount_0f7a4 32 = .ok (.iand, 1) := dec_126 (gB drcJ6_bitCount_0f7a4_0 32 rfl rfl)
theorem dJ6_bitCount_0f7a4_33 : decode cJ6_bitCount_0f7a4 33 = .ok (.istore_n 0, 1) := dec_59 (gB drcJ6_bitCount_0f7a4_0 33 rfl rfl)
theorem dJ6_bitCount_0f7a4_34 : decode cJ6_bitCount_0f7a4 34 = .ok (.iload_n 0, 1) := dec_26 (gB drcJ6_bitCount_0f7a4_0 34 rfl rfl)
theorem dJ6_bitCount_0f7a4_35 : decode cJ6_bitCount_0f7a4 35 = .ok (.iload_n 0, 1) := dec_26 (gB drcJ6_bitCount_0f7a4_0 35 rfl rfl)
theorem dJ6_bitCount_0f7a4_36 : decode cJ6_bitCount_0f7a4 36 = .ok (.bipush 8, 2) := e_16 (x := 8) drcJ6_bitCount_0f7a4_0 36 rfl rfl
theorem dJ6_bitCount_0f7a4_38 : decode cJ6_bitCount_0f7a4 38 = .ok (.iushr, 1) := dec_124 (gB drcJ6_bitCount_0f7a4_0 38 rfl rfl)
theorem dJ6_bitCount_0f7a4_39 : decode cJ6_bitCount_0f7a4 39 = .ok (.iadd, 1) := dec_96 (gB drcJ6_bitCount_0f7a4_0 39 rfl rfl)
theorem dJ6_bitCount_0f7a4_40 : decode cJ6_bitCount_0f7a4 40 = .ok (.istore_n 0, 1) := dec_59 (gB drcJ6_bitCount_0f7a4_0 40 rfl rfl)
theorem dJ6_bitCount_0f7a4_41 : decode cJ6_bitCount_0f7a4 41 = .ok (.iload_n 0, 1) := dec_26 (gB drcJ6_bitCount_0f7a4_0 41 rfl rfl)
theorem dJ6_bitCount_0f7a4_42 : decode cJ6_bitCount_0f7a4 42 = .ok (.iload_n 0, 1) := dec_26 (gB drcJ6_bitCount_0f7a4_0 42 rfl rfl)
theorem dJ6_bitCount_0f7a4_43 : decode cJ6_bitCount_0f7a4 43 = .ok (.bipush 16, 2) := e_16 (x := 16) drcJ6_bitCount_0f7a4_0 43 rfl rfl
theorem dJ6_bitCount_0f7a4_45 : decode cJ6_bitCount_0f7a4 45 = .ok (.iushr, 1) := dec_124 (gB drcJ6_bitCount_0f7a4_0 45 rfl rfl)
theorem dJ6_bitCount_0f7a4_46 : decode cJ6_bitCount_0f7a4 46 = .ok (.iadd, 1) := dec_96 (gB drcJ6_bitCount_0f7a4_0 46 rfl rfl)
theorem dJ6_bitCount_0f7a4_47 : decode cJ6_bitCount_0f7a4 47 = .ok (.istore_n 0, 1) := dec_59 (gB drcJ6_bitCount_0f7a4_0 47 rfl rfl)
theorem dJ6_bitCount_0f7a4_48 : decode cJ6_bitCount_0f7a4 48 = .ok (.iload_n 0, 1) := dec_26 (gB drcJ6_bitCount_0f7a4_0 48 rfl rfl)
theorem dJ6_bitCount_0f7a4_49 : decode cJ6_bitCount_0f7a4 49 = .ok (.bipush 63, 2) := e_16 (x := 63) drcJ6_bitCount_0f7a4_0 49 rfl rfl
theorem dJ6_bitCount_0f7a4_51 : decode cJ6_bitCount_0f7a4 51 = .ok (.iand, 1) := dec_126 (gB drcJ6_bitCount_0f7a4_0 51 rfl rfl)
theorem dJ6_bitCount_0f7a4_52 : decode cJ6_bitCount_0f7a4 52 = .ok (.ireturn, 1) := dec_172 (gB drcJ6_bitCount_0f7a4_0 52 rfl rfl)
def lkcJ9_max_7cf53_0 : List UInt8 := [0x1a, 0x1b, 0xa1, 0x00, 0x07, 0x1a, 0xa7, 0x00, 0x04, 0x1b, 0xac]
def tkcJ9_max_7cf53_0 : List UInt8 := lkcJ9_max_7cf53_0 ++ []
theorem drcJ9_max_7cf53_0 : (cJ9_max_7cf53).data.toList.drop 0 = lkcJ9_max_7cf53_0 ++ [] := by decide +kernel
def lkcJ9_min_7cf53_0 : List UInt8 := [0x1a, 0x1b, 0xa3, 0x00, 0x07, 0x1a, 0xa7, 0x00, 0x04, 0x1b, 0xac]
def tkcJ9_min_7cf53_0 : List UInt8 := lkcJ9_min_7cf53_0 ++ []
theorem drcJ9_min_7cf53_0 : (cJ9_min_7cf53).data.toList.drop 0 = lkcJ9_min_7cf53_0 ++ [] := by decide +kernel
def lkcJ0_init_81219_0 : List UInt8 := [0x2a, 0x2b, 0x01, 0xb7, 0x01, 0xe9, 0xb1]
def tkcJ0_init_81219_0 : List UInt8 := lkcJ0_init_81219_0 ++ []
theorem drcJ0_init_81219_0 : (cJ0_init_81219).data.toList.drop 0 = lkcJ0_init_81219_0 ++ [] := by decide +kernel
theorem dJ0_init_81219_0 : decode cJ0_init_81219 0 = .ok (.aload_n 0, 1) := dec_42 (gB drcJ0_init_81219_0 0 rfl rfl)
theorem dJ0_init_81219_1 : decode cJ0_init_81219 1 = .ok (.aload_n 1, 1) := dec_43 (gB drcJ0_init_81219_0 1 rfl rfl)
theorem dJ0_init_81219_2 : decode cJ0_init_81219 2 = .ok (.aconst_null, 1) := by decide +kernel
theorem dJ0_init_81219_3 : decode cJ0_init_81219 3 = .ok (.invokespecial 489, 3) := e_183 (x := 1) (y := 233) drcJ0_init_81219_0 3 rfl rfl
theorem dJ0_init_81219_6 : decode cJ0_init_81219 6 = .ok (.return_, 1) := dec_177 (gB drcJ0_init_81219_0 6 rfl rfl)
def lkcJ0_length_8abf5_0 : List UInt8 := [0x2a, 0xb4, 0x00, 0x09, 0xbe, 0x2a, 0xb6, 0x01, 0x4f, 0x7a, 0xac]
def tkcJ0_length_8abf5_0 : List UInt8 := lkcJ0_length_8abf5_0 ++ []
theorem drcJ0_length_8abf5_0 : (cJ0_length_8abf5).data.toList.drop 0 = lkcJ0_length_8abf5_0 ++ [] := by decide +kernel
def lkcJ0_equals_9ea2d_0 : List UInt8 := [0x2a, 0x2b, 0xa6, 0x00, 0x05, 0x04, 0xac, 0x2b, 0xc1, 0x00, 0x0a, 0x99, 0x00, 0x2b, 0x2b, 0xc0, 0x00, 0x0a, 0x4d, 0xb2, 0x00, 0x26, 0x99, 0x00, 0x0e, 0x2a, 0xb4, 0x00, 0x0f, 0x2c, 0xb4, 0x00, 0x0f, 0xa0, 0x00, 0x15, 0x2a, 0xb4, 0x00, 0x09, 0x2c, 0xb4, 0x00, 0x09, 0xb8, 0x02, 0x1d, 0x99, 0x00, 0x07, 0x04, 0xa7, 0x00, 0x04, 0x03, 0xac]
def tkcJ0_equals_9ea2d_0 : List UInt8 := lkcJ0_equals_9ea2d_0 ++ []
theorem drcJ0_equals_9ea2d_0 : (cJ0_equals_9ea2d).data.toList.drop 0 = lkcJ0_equals_9ea2d_0 ++ [] := by decide +kernel
theorem dJ0_equals_9ea2d_0 : decode cJ0_equals_9ea2d 0 = .ok (.aload_n 0, 1) := dec_42 (gB drcJ0_equals_9ea2d_0 0 rfl rfl)
theorem dJ0_equals_9ea2d_1 : decode cJ0_equals_9ea2d 1 = .ok (.aload_n 1, 1) := dec_43 (gB drcJ0_equals_9ea2d_0 1 rfl rfl)
theorem dJ0_equals_9ea2d_2 : decode cJ0_equals_9ea2d 2 = .ok (.if_acmp .ne 5, 3) := by decide +kernel
theorem dJ0_equals_9ea2d_5 : decode cJ0_equals_9ea2d 5 = .ok (.iconst 1, 1) := dec_4 (gB drcJ0_equals_9ea2d_0 5 rfl rfl)
theorem dJ0_equals_9ea2d_6 : decode cJ0_equals_9ea2d 6 = .ok (.ireturn, 1) := dec_172 (gB drcJ0_equals_9ea2d_0 6 rfl rfl)
theorem dJ0_equals_9ea2d_7 : decode cJ0_equals_9ea2d 7 = .ok (.aload_n 1, 1) := dec_43 (gB drcJ0_equals_9ea2d_0 7 rfl rfl)
theorem dJ0_equals_9ea2d_8 : decode cJ0_equals_9ea2d 8 = .ok (.instanceof 10, 3) := by decide +kernel
theorem dJ0_equals_9ea2d_11 : decode cJ0_equals_9ea2d 11 = .ok (.ifCond .eq 43, 3) := e_153 (x := 0) (y := 43) drcJ0_equals_9ea2d_0 11 rfl rfl
theorem dJ0_equals_9ea2d_14 : decode cJ0_equals_9ea2d 14 = .ok (.aload_n 1, 1) := dec_43 (gB drcJ0_equals_9ea2d_0 14 rfl rfl)
theorem dJ0_equals_9ea2d_15 : decode cJ0_equals_9ea2d 15 = .ok (.checkcast 10, 3) := e_192 (x := 0) (y := 10) drcJ0_equals_9ea2d_0 15 rfl rfl
theorem dJ0_equals_9ea2d_18 : decode cJ0_equals_9ea2d 18 = .ok (.astore_n 2, 1) := dec_77 (gB drcJ0_equals_9ea2d_0 18 rfl rfl)
theorem dJ0_equals_9ea2d_19 : decode cJ0_equals_9ea2d 19 = .ok (.getstatic 38, 3) := e_178 (x := 0) (y := 38) drcJ0_equals_9ea2d_0 19 rfl rfl
theorem dJ0_equals_9ea2d_22 : decode cJ0_equals_9ea2d 22 = .ok (.ifCond .eq 14, 3) := e_153 (x := 0) (y := 14) drcJ0_equals_9ea2d_0 22 rfl rfl
theorem dJ0_equals_9ea2d_25 : decode cJ0_equals_9ea2d 25 = .ok (.aload_n 0, 1) := dec_42 (gB drcJ0_equals_9ea2d_0 25 rfl rfl)
theorem dJ0_equals_9ea2d_26 : decode cJ0_equals_9ea2d 26 = .ok (.getfield 15, 3) := e_180 (x := 0) (y := 15) drcJ0_equals_9ea2d_0 26 rfl rfl
theorem dJ0_equals_9ea2d_29 : decode cJ0_equals_9ea2d 29 = .ok (.aload_n 2, 1) := dec_44 (gB drcJ0_equals_9ea2d_0 29 rfl rfl)
theorem dJ0_equals_9ea2d_30 : decode cJ0_equals_9ea2d 30 = .ok (.getfield 15, 3) := e_180 (x := 0) (y := 15) drcJ0_equals_9ea2d_0 30 rfl rfl
theorem dJ0_equals_9ea2d_33 : decode cJ0_equals_9ea2d 33 = .ok (.if_icmp .ne 21, 3) := e_160 (x := 0) (y := 21) drcJ0_equals_9ea2d_0 33 rfl rfl
theorem dJ0_equals_9ea2d_36 : decode cJ0_equals_9ea2d 36 = .ok (.aload_n 0, 1) := dec_42 (gB drcJ0_equals_9ea2d_0 36 rfl rfl)
theorem dJ0_equals_9ea2d_37 : decode cJ0_equals_9ea2d 37 = .ok (.getfield 9, 3) := e_180 (x := 0) (y := 9) drcJ0_equals_9ea2d_0 37 rfl rfl
theorem dJ0_equals_9ea2d_40 : decode cJ0_equals_9ea2d 40 = .ok (.aload_n 2, 1) := dec_44 (gB drcJ0_equals_9ea2d_0 40 rfl rfl)
theorem dJ0_equals_9ea2d_41 : decode cJ0_equals_9ea2d 41 = .ok (.getfield 9, 3) := e_180 (x := 0) (y := 9) drcJ0_equals_9ea2d_0 41 rfl rfl
theorem dJ0_equals_9ea2d_44 : decode cJ0_equals_9ea2d 44 = .ok (.invokestatic 541, 3) := e_184 (x := 2) (y := 29) drcJ0_equals_9ea2d_0 44 rfl rfl
theorem dJ0_equals_9ea2d_47 : decode cJ0_equals_9ea2d 47 = .ok (.ifCond .eq 7, 3) := e_153 (x := 0) (y := 7) drcJ0_equals_9ea2d_0 47 rfl rfl
theorem dJ0_equals_9ea2d_50 : decode cJ0_equals_9ea2d 50 = .ok (.iconst 1, 1) := dec_4 (gB drcJ0_equals_9ea2d_0 50 rfl rfl)
theorem dJ0_equals_9ea2d_51 : decode cJ0_equals_9ea2d 51 = .ok (.goto 4, 3) := e_167 (x := 0) (y := 4) drcJ0_equals_9ea2d_0 51 rfl rfl
theorem dJ0_equals_9ea2d_54 : decode cJ0_equals_9ea2d 54 = .ok (.iconst 0, 1) := dec_3 (gB drcJ0_equals_9ea2d_0 54 rfl rfl)
theorem dJ0_equals_9ea2d_55 : decode cJ0_equals_9ea2d 55 = .ok (.ireturn, 1) := dec_172 (gB drcJ0_equals_9ea2d_0 55 rfl rfl)
def lkcJ0_getBytes_840e7_0 : List UInt8 := [0x2a, 0xb6, 0x01, 0x4f, 0x1d, 0xa0, 0x00, 0x17, 0x2a, 0xb4, 0x00, 0x09, 0x03, 0x2b, 0x1c, 0x1d, 0x78, 0x2a, 0xb4, 0x00, 0x09, 0xbe, 0xb8, 0x00, 0xd4, 0xa7, 0x00, 0x12, 0x2a, 0xb4, 0x00, 0x09, 0x03, 0x2b, 0x1c, 0x2a, 0xb4, 0x00, 0x09, 0xbe, 0xb8, 0x00, 0x6a, 0xb1]
def tkcJ0_getBytes_840e7_0 : List UInt8 := lkcJ0_getBytes_840e7_0 ++ []
theorem drcJ0_getBytes_840e7_0 : (cJ0_getBytes_840e7).data.toList.drop 0 = lkcJ0_getBytes_840e7_0 ++ [] := by decide +kernel
def lkcJ0_init_db425_0 : List UInt8 := [0x2a, 0xb7, 0x00, 0x01, 0x2b, 0xb6, 0x02, 0x28, 0x4e, 0x2b, 0xb6, 0x02, 0x25, 0x36, 0x04, 0x2b, 0xb6, 0x04, 0x17, 0x99, 0x00, 0x16, 0x2a, 0x03, 0xb5, 0x00, 0x0f, 0x2a, 0x2d, 0x03, 0x15, 0x04, 0xb8, 0x00, 0x36, 0xb5, 0x00, 0x09, 0xa7, 0x00, 0x3b, 0xb2, 0x00, 0x26, 0x99, 0x00, 0x23, 0x2b, 0xb4, 0x04, 0x18, 0x99, 0x00, 0x1c, 0x2a, 0x2d, 0x03, 0x15, 0x04, 0xb8, 0x04, 0x1b, 0xb5, 0x00]
def lkcJ0_init_db425_1 : List UInt8 := [0x09, 0x2a, 0x2a, 0xb4, 0x00, 0x09, 0x15, 0x04, 0xb8, 0x00, 0x2f, 0xb5, 0x00, 0x0f, 0xb1, 0x2a, 0x04, 0xb5, 0x00, 0x0f, 0x2a, 0x2d, 0x03, 0x15, 0x04, 0x04, 0x78, 0xb8, 0x00, 0x36, 0xb5, 0x00, 0x09, 0xb1]
def tkcJ0_init_db425_1 : List UInt8 := lkcJ0_init_db425_1 ++ []
def tkcJ0_init_db425_0 : List UInt8 := lkcJ0_init_db425_0 ++ tkcJ0_init_db425_1
theorem drcJ0_init_db425_0 : (cJ0_init_db425).data.toList.drop 0 = lkcJ0_init_db425_0 ++ tkcJ0_init_db425_1 := by decide +kernel
theorem drcJ0_init_db425_1 : (cJ0_init_db425).data.toList.drop 64 = lkcJ0_init_db425_1 ++ [] := dr_step drcJ0_init_db425_0 rfl
theorem dJ0_init_db425_0 : decode cJ0_init_db425 0 = .ok (.aload_n 0, 1) := dec_42 (gB drcJ0_init_db425_0 0 rfl rfl)
theorem dJ0_init_db425_1 : decode cJ0_init_db425 1 = .ok (.invokespecial 1, 3) := e_183 (x := 0) (y := 1) drcJ0_init_db425_0 1 rfl rfl
theorem dJ0_init_db425_4 : decode cJ0_init_db425 4 = .ok (.aload_n 1, 1) := dec_43 (gB drcJ0_init_db425_0 4 rfl rfl)
theorem dJ0_init_db425_5 : decode cJ0_init_db425 5 = .ok (.invokevirtual 552, 3) := e_182 (x := 2) (y := 40) drcJ0_init_db425_0 5 rfl rfl
theorem dJ0_init_db425_8 : decode cJ0_init_db425 8 = .ok (.astore_n 3, 1) := dec_78 (gB drcJ0_init_db425_0 8 rfl rfl)
theorem dJ0_init_db425_9 : decode cJ0_init_db425 9 = .ok (.aload_n 1, 1) := dec_43 (gB drcJ0_init_db425_0 9 rfl rfl)
theorem dJ0_init_db425_10 : decode cJ0_init_db425 10 = .ok (.invokevirtual 549, 3) := e_182 (x := 2) (y := 37) drcJ0_init_db425_0 10 rfl rfl
theorem dJ0_init_db425_13 : decode cJ0_init_db425 13 = .ok (.istore 4, 2) := e_54 (x := 4) drcJ0_init_db425_0 13 rfl rfl
theorem dJ0_init_db425_15 : decode cJ0_init_db425 15 = .ok (.aload_n 1, 1) := dec_43 (gB drcJ0_init_db425_0 15 rfl rfl)
theorem dJ0_init_db425_16 : decode cJ0_init_db425 16 = .ok (.invokevirtual 1047, 3) := e_182 (x := 4) (y := 23) drcJ0_init_db425_0 16 rfl rfl
theorem dJ0_init_db425_19 : decode cJ0_init_db425 19 = .ok (.ifCond .eq 22, 3) := e_153 (x := 0) (y := 22) drcJ0_init_db425_0 19 rfl rfl
theorem dJ0_init_db425_22 : decode cJ0_init_db425 22 = .ok (.aload_n 0, 1) := dec_42 (gB drcJ0_init_db425_0 22 rfl rfl)
theorem dJ0_init_db425_23 : decode cJ0_init_db425 23 = .ok (.iconst 0, 1) := dec_3 (gB drcJ0_init_db425_0 23 rfl rfl)
theorem dJ0_init_db425_24 : decode cJ0_init_db425 24 = .ok (.putfield 15, 3) := e_181 (x := 0) (y := 15) drcJ0_init_db425_0 24 rfl rfl
theorem dJ0_init_db425_27 : decode cJ0_init_db425 27 = .ok (.aload_n 0, 1) := dec_42 (gB drcJ0_init_db425_0 27 rfl rfl)
theorem dJ0_init_db425_28 : decode cJ0_init_db425 28 = .ok (.aload_n 3, 1) := dec_45 (gB drcJ0_init_db425_0 28 rfl rfl)
theorem dJ0_init_db425_29 : decode cJ0_init_db425 29 = .ok (.iconst 0, 1) := dec_3 (gB drcJ0_init_db425_0 29 rfl rfl)
theorem dJ0_init_db425_30 : decode cJ0_init_db425 30 = .ok (.iload 4, 2) := e_21 (x := 4) drcJ0_init_db425_0 30 rfl rfl
theorem dJ0_init_db425_32 : decode cJ0_init_db425 32 = .ok (.invokestatic 54, 3) := e_184 (x := 0) (y := 54) drcJ0_init_db425_0 32 rfl rfl
theorem dJ0_init_db425_35 : decode cJ0_init_db425 35 = .ok (.putfield 9, 3) := e_181 (x := 0) (y := 9) drcJ0_init_db425_0 35 rfl rfl
theorem dJ0_init_db425_38 : decode cJ0_init_db425 38 = .ok (.goto 59, 3) := e_167 (x := 0) (y := 59) drcJ0_init_db425_0 38 rfl rfl
theorem dJ0_init_db425_41 : decode cJ0_init_db425 41 = .ok (.getstatic 38, 3) := e_178 (x := 0) (y := 38) drcJ0_init_db425_0 41 rfl rfl
theorem dJ0_init_db425_44 : decode cJ0_init_db425 44 = .ok (.ifCond .eq 35, 3) := e_153 (x := 0) (y := 35) drcJ0_init_db425_0 44 rfl rfl
theorem dJ0_init_db425_47 : decode cJ0_init_db425 47 = .ok (.aload_n 1, 1) := dec_43 (gB drcJ0_init_db425_0 47 rfl rfl)
theorem dJ0_init_db425_48 : decode cJ0_init_db425 48 = .ok (.getfield 1048, 3) := e_180 (x := 4) (y := 24) drcJ0_init_db425_0 48 rfl rfl
theorem dJ0_init_db425_51 : decode cJ0_init_db425 51 = .ok (.ifCond .eq 28, 3) := e_153 (x := 0) (y := 28) drcJ0_init_db425_0 51 rfl rfl
theorem dJ0_init_db425_54 : decode cJ0_init_db425 54 = .ok (.aload_n 0, 1) := dec_42 (gB drcJ0_init_db425_0 54 rfl rfl)
theorem dJ0_init_db425_55 : decode cJ0_init_db425 55 = .ok (.aload_n 3, 1) := dec_45 (gB drcJ0_init_db425_0 55 rfl rfl)
theorem dJ0_init_db425_56 : decode cJ0_init_db425 56 = .ok (.iconst 0, 1) := dec_3 (gB drcJ0_init_db425_0 56 rfl rfl)
theorem dJ0_init_db425_57 : decode cJ0_init_db425 57 = .ok (.iload 4, 2) := e_21 (x := 4) drcJ0_init_db425_0 57 rfl rfl
theorem dJ0_init_db425_79 : decode cJ0_init_db425 79 = .ok (.aload_n 0, 1) := dec_42 (gB drcJ0_init_db425_1 15 rfl rfl)
theorem dJ0_init_db425_80 : decode cJ0_init_db425 80 = .ok (.iconst 1, 1) := dec_4 (gB drcJ0_init_db425_1 16 rfl rfl)
theorem dJ0_init_db425_81 : decode cJ0_init_db425 81 = .ok (.putfield 15, 3) := e_181 (x := 0) (y := 15) drcJ0_init_db425_1 17 rfl rfl
theorem dJ0_init_db425_84 : decode cJ0_init_db425 84 = .ok (.aload_n 0, 1) := dec_42 (gB drcJ0_init_db425_1 20 rfl rfl)
theorem dJ0_init_db425_85 : decode cJ0_init_db425 85 = .ok (.aload_n 3, 1) := dec_45 (gB drcJ0_init_db425_1 21 rfl rfl)
theorem dJ0_init_db425_86 : decode cJ0_init_db425 86 = .ok (.iconst 0, 1) := dec_3 (gB drcJ0_init_db425_1 22 rfl rfl)
theorem dJ0_init_db425_87 : decode cJ0_init_db425 87 = .ok (.iload 4, 2) := e_21 (x := 4) drcJ0_init_db425_1 23 rfl rfl
theorem dJ0_init_db425_89 : decode cJ0_init_db425 89 = .ok (.iconst 1, 1) := dec_4 (gB drcJ0_init_db425_1 25 rfl rfl)
theorem dJ0_init_db425_90 : decode cJ0_init_db425 90 = .ok (.ishl, 1) := dec_120 (gB drcJ0_init_db425_1 26 rfl rfl)
theorem dJ0_init_db425_91 : decode cJ0_init_db425 91 = .ok (.invokestatic 54, 3) := e_184 (x := 0) (y := 54) drcJ0_init_db425_1 27 rfl rfl
theorem dJ0_init_db425_94 : decode cJ0_init_db425 94 = .ok (.putfield 9, 3) := e_181 (x := 0) (y := 9) drcJ0_init_db425_1 30 rfl rfl
theorem dJ0_init_db425_97 : decode cJ0_init_db425 97 = .ok (.return_, 1) := dec_177 (gB drcJ0_init_db425_1 33 rfl rfl)
def lkcJ0_coder_7d493_0 : List UInt8 := [0xb2, 0x00, 0x26, 0x99, 0x00, 0x0a, 0x2a, 0xb4, 0x00, 0x0f, 0xa7, 0x00, 0x04, 0x04, 0xac]
def tkcJ0_coder_7d493_0 : List UInt8 := lkcJ0_coder_7d493_0 ++ []
theorem drcJ0_coder_7d493_0 : (cJ0_coder_7d493).data.toList.drop 0 = lkcJ0_coder_7d493_0 ++ [] := by decide +kernel
def lkcJ0_checkIndex_df160_0 : List UInt8 := [0x1a, 0x1b, 0xb2, 0x04, 0x1d, 0xb8, 0x04, 0x23, 0x57, 0xb1]
def tkcJ0_checkIndex_df160_0 : List UInt8 := lkcJ0_checkIndex_df160_0 ++ []
theorem drcJ0_checkIndex_df160_0 : (cJ0_checkIndex_df160).data.toList.drop 0 = lkcJ0_checkIndex_df160_0 ++ [] := by decide +kernel
def lkcJ0_checkBoundsOffCount_cabcc_0 : List UInt8 := [0x1a, 0x1b, 0x1c, 0xb2, 0x04, 0x1d, 0xb8, 0x04, 0x29, 0xac]
def tkcJ0_checkBoundsOffCount_cabcc_0 : List UInt8 := lkcJ0_checkBoundsOffCount_cabcc_0 ++ []
theorem drcJ0_checkBoundsOffCount_cabcc_0 : (cJ0_checkBoundsOffCount_cabcc).data.toList.drop 0 = lkcJ0_checkBoundsOffCount_cabcc_0 ++ [] := by decide +kernel
def lkcJ0_checkBoundsBeginEnd_23922_0 : List UInt8 := [0x1a, 0x1b, 0x1c, 0xb2, 0x04, 0x1d, 0xb8, 0x04, 0x26, 0x57, 0xb1]
def tkcJ0_checkBoundsBeginEnd_23922_0 : List UInt8 := lkcJ0_checkBoundsBeginEnd_23922_0 ++ []
theorem drcJ0_checkBoundsBeginEnd_23922_0 : (cJ0_checkBoundsBeginEnd_23922).data.toList.drop 0 = lkcJ0_checkBoundsBeginEnd_23922_0 ++ [] := by decide +kernel
def lkcJ4_init_da8c8_0 : List UInt8 := [0x2a, 0x10, 0x10, 0xb7, 0x00, 0x01, 0xb1]
def tkcJ4_init_da8c8_0 : List UInt8 := lkcJ4_init_da8c8_0 ++ []
theorem drcJ4_init_da8c8_0 : (cJ4_init_da8c8).data.toList.drop 0 = lkcJ4_init_da8c8_0 ++ [] := by decide +kernel
theorem dJ4_init_da8c8_0 : decode cJ4_init_da8c8 0 = .ok (.aload_n 0, 1) := dec_42 (gB drcJ4_init_da8c8_0 0 rfl rfl)
theorem dJ4_init_da8c8_1 : decode cJ4_init_da8c8 1 = .ok (.bipush 16, 2) := e_16 (x := 16) drcJ4_init_da8c8_0 1 rfl rfl
theorem dJ4_init_da8c8_3 : decode cJ4_init_da8c8 3 = .ok (.invokespecial 1, 3) := e_183 (x := 0) (y := 1) drcJ4_init_da8c8_0 3 rfl rfl
theorem dJ4_init_da8c8_6 : decode cJ4_init_da8c8 6 = .ok (.return_, 1) := dec_177 (gB drcJ4_init_da8c8_0 6 rfl rfl)
def lkcJ4_append_15ec4_0 : List UInt8 := [0x2a, 0x2b, 0xb7, 0x00, 0x1d, 0x57, 0x2a, 0xb0]
def tkcJ4_append_15ec4_0 : List UInt8 := lkcJ4_append_15ec4_0 ++ []
theorem drcJ4_append_15ec4_0 : (cJ4_append_15ec4).data.toList.drop 0 = lkcJ4_append_15ec4_0 ++ [] := by decide +kernel
def lkcJ4_append_cf468_0 : List UInt8 := [0x2a, 0x1b, 0xb7, 0x00, 0x32, 0x57, 0x2a, 0xb0]
def tkcJ4_append_cf468_0 : List UInt8 := lkcJ4_append_cf468_0 ++ []
theorem drcJ4_append_cf468_0 : (cJ4_append_cf468).data.toList.drop 0 = lkcJ4_append_cf468_0 ++ [] := by decide +kernel
theorem dJ4_append_cf468_0 : decode cJ4_append_cf468 0 = .ok (.aload_n 0, 1) := dec_42 (gB drcJ4_append_cf468_0 0 rfl rfl)
theorem dJ4_append_cf468_1 : decode cJ4_append_cf468 1 = .ok (.iload_n 1, 1) := dec_27 (gB drcJ4_append_cf468_0 1 rfl rfl)
theorem dJ4_append_cf468_2 : decode cJ4_append_cf468 2 = .ok (.invokespecial 50, 3) := e_183 (x := 0) (y := 50) drcJ4_append_cf468_0 2 rfl rfl
theorem dJ4_append_cf468_5 : decode cJ4_append_cf468 5 = .ok (.pop, 1) := dec_87 (gB drcJ4_append_cf468_0 5 rfl rfl)
theorem dJ4_append_cf468_6 : decode cJ4_append_cf468 6 = .ok (.aload_n 0, 1) := dec_42 (gB drcJ4_append_cf468_0 6 rfl rfl)
theorem dJ4_append_cf468_7 : decode cJ4_append_cf468 7 = .ok (.areturn, 1) := dec_176 (gB drcJ4_append_cf468_0 7 rfl rfl)
def lkcJ4_append_bf812_0 : List UInt8 := [0x2a, 0x1b, 0xb7, 0x00, 0x35, 0x57, 0x2a, 0xb0]
def tkcJ4_append_bf812_0 : List UInt8 := lkcJ4_append_bf812_0 ++ []
theorem drcJ4_append_bf812_0 : (cJ4_append_bf812).data.toList.drop 0 = lkcJ4_append_bf812_0 ++ [] := by decide +kernel
theorem dJ4_append_bf812_0 : decode cJ4_append_bf812 0 = .ok (.aload_n 0, 1) := dec_42 (gB drcJ4_append_bf812_0 0 rfl rfl)
theorem dJ4_append_bf812_1 : decode cJ4_append_bf812 1 = .ok (.iload_n 1, 1) := dec_27 (gB drcJ4_append_bf812_0 1 rfl rfl)
theorem dJ4_append_bf812_2 : decode cJ4_append_bf812 2 = .ok (.invokespecial 53, 3) := e_183 (x := 0) (y := 53) drcJ4_append_bf812_0 2 rfl rfl
theorem dJ4_append_bf812_5 : decode cJ4_append_bf812 5 = .ok (.pop, 1) := dec_87 (gB drcJ4_append_bf812_0 5 rfl rfl)
theorem dJ4_append_bf812_6 : decode cJ4_append_bf812 6 = .ok (.aload_n 0, 1) := dec_42 (gB drcJ4_append_bf812_0 6 rfl rfl)
theorem dJ4_append_bf812_7 : decode cJ4_append_bf812 7 = .ok (.areturn, 1) := dec_176 (gB drcJ4_append_bf812_0 7 rfl rfl)
def lkcJ4_toString_0e30d_0 : List UInt8 := [0xbb, 0x00, 0x12, 0x59, 0x2a, 0xb7, 0x00, 0x89, 0xb0]
def tkcJ4_toString_0e30d_0 : List UInt8 := lkcJ4_toString_0e30d_0 ++ []
theorem drcJ4_toString_0e30d_0 : (cJ4_toString_0e30d).data.toList.drop 0 = lkcJ4_toString_0e30d_0 ++ [] := by decide +kernel
theorem dJ4_toString_0e30d_0 : decode cJ4_toString_0e30d 0 = .ok (.new 18, 3) := e_187 (x := 0) (y := 18) drcJ4_toString_0e30d_0 0 rfl rfl
theorem dJ4_toString_0e30d_3 : decode cJ4_toString_0e30d 3 = .ok (.dup, 1) := dec_89 (gB drcJ4_toString_0e30d_0 3 rfl rfl)
theorem dJ4_toString_0e30d_4 : decode cJ4_toString_0e30d 4 = .ok (.aload_n 0, 1) := dec_42 (gB drcJ4_toString_0e30d_0 4 rfl rfl)
theorem dJ4_toString_0e30d_5 : decode cJ4_toString_0e30d 5 = .ok (.invokespecial 137, 3) := e_183 (x := 0) (y := 137) drcJ4_toString_0e30d_0 5 rfl rfl
theorem dJ4_toString_0e30d_8 : decode cJ4_toString_0e30d 8 = .ok (.areturn, 1) := dec_176 (gB drcJ4_toString_0e30d_0 8 rfl rfl)
def lkcJ4_length_8abf5_0 : List UInt8 := [0x2a, 0xb7, 0x01, 0x57, 0xac]
def tkcJ4_length_8abf5_0 : List UInt8 := lkcJ4_length_8abf5_0 ++ []
theorem drcJ4_length_8abf5_0 : (cJ4_length_8abf5).data.toList.drop 0 = lkcJ4_length_8abf5_0 ++ [] := by decide +kernel
theorem dJ4_length_8abf5_0 : decode cJ4_length_8abf5 0 = .ok (.aload_n 0, 1) := dec_42 (gB drcJ4_length_8abf5_0 0 rfl rfl)
theorem dJ4_length_8abf5_1 : decode cJ4_length_8abf5 1 = .ok (.invokespecial 343, 3) := e_183 (x := 1) (y := 87) drcJ4_length_8abf5_0 1 rfl rfl
theorem dJ4_length_8abf5_4 : decode cJ4_length_8abf5 4 = .ok (.ireturn, 1) := dec_172 (gB drcJ4_length_8abf5_0 4 rfl rfl)
def lkcJ1_canEncode_fc78d_0 : List UInt8 := [0x1a, 0x11, 0x00, 0xff, 0xa3, 0x00, 0x07, 0x04, 0xa7, 0x00, 0x04, 0x03, 0xac]
def tkcJ1_canEncode_fc78d_0 : List UInt8 := lkcJ1_canEncode_fc78d_0 ++ []
theorem drcJ1_canEncode_fc78d_0 : (cJ1_canEncode_fc78d).data.toList.drop 0 = lkcJ1_canEncode_fc78d_0 ++ [] := by decide +kernel
theorem dJ1_canEncode_fc78d_0 : decode cJ1_canEncode_fc78d 0 = .ok (.iload_n 0, 1) := dec_26 (gB drcJ1_canEncode_fc78d_0 0 rfl rfl)
theorem dJ1_canEncode_fc78d_1 : decode cJ1_canEncode_fc78d 1 = .ok (.sipush 255, 3) := e_17 (x := 0) (y := 255) drcJ1_canEncode_fc78d_0 1 rfl rfl
theorem dJ1_canEncode_fc78d_4 : decode cJ1_canEncode_fc78d 4 = .ok (.if_icmp .gt 7, 3) := e_163 (x := 0) (y := 7) drcJ1_canEncode_fc78d_0 4 rfl rfl
theorem dJ1_canEncode_fc78d_7 : decode cJ1_canEncode_fc78d 7 = .ok (.iconst 1, 1) := dec_4 (gB drcJ1_canEncode_fc78d_0 7 rfl rfl)
theorem dJ1_canEncode_fc78d_8 : decode cJ1_canEncode_fc78d 8 = .ok (.goto 4, 3) := e_167 (x := 0) (y := 4) drcJ1_canEncode_fc78d_0 8 rfl rfl
theorem dJ1_canEncode_fc78d_11 : decode cJ1_canEncode_fc78d 11 = .ok (.iconst 0, 1) := dec_3 (gB drcJ1_canEncode_fc78d_0 11 rfl rfl)
theorem dJ1_canEncode_fc78d_12 : decode cJ1_canEncode_fc78d 12 = .ok (.ireturn, 1) := dec_172 (gB drcJ1_canEncode_fc78d_0 12 rfl rfl)
def lkcJ1_equals_b5fdf_0 : List UInt8 := [0x2a, 0xbe, 0x2b, 0xbe, 0xa0, 0x00, 0x1e, 0x03, 0x3d, 0x1c, 0x2a, 0xbe, 0xa2, 0x00, 0x14, 0x2a, 0x1c, 0x33, 0x2b, 0x1c, 0x33, 0x9f, 0x00, 0x05, 0x03, 0xac, 0x84, 0x02, 0x01, 0xa7, 0xff, 0xec, 0x04, 0xac, 0x03, 0xac]
def tkcJ1_equals_b5fdf_0 : List UInt8 := lkcJ1_equals_b5fdf_0 ++ []
theorem drcJ1_equals_b5fdf_0 : (cJ1_equals_b5fdf).data.toList.drop 0 = lkcJ1_equals_b5fdf_0 ++ [] := by decide +kernel
theorem dJ1_equals_b5fdf_0 : decode cJ1_equals_b5fdf 0 = .ok (.aload_n 0, 1) := dec_42 (gB drcJ1_equals_b5fdf_0 0 rfl rfl)
theorem dJ1_equals_b5fdf_1 : decode cJ1_equals_b5fdf 1 = .ok (.arraylength, 1) := dec_190 (gB drcJ1_equals_b5fdf_0 1 rfl rfl)
theorem dJ1_equals_b5fdf_2 : decode cJ1_equals_b5fdf 2 = .ok (.aload_n 1, 1) := dec_43 (gB drcJ1_equals_b5fdf_0 2 rfl rfl)
theorem dJ1_equals_b5fdf_3 : decode cJ1_equals_b5fdf 3 = .ok (.arraylength, 1) := dec_190 (gB drcJ1_equals_b5fdf_0 3 rfl rfl)
theorem dJ1_equals_b5fdf_4 : decode cJ1_equals_b5fdf 4 = .ok (.if_icmp .ne 30, 3) := e_160 (x := 0) (y := 30) drcJ1_equals_b5fdf_0 4 rfl rfl
theorem dJ1_equals_b5fdf_7 : decode cJ1_equals_b5fdf 7 = .ok (.iconst 0, 1) := dec_3 (gB drcJ1_equals_b5fdf_0 7 rfl rfl)
theorem dJ1_equals_b5fdf_8 : decode cJ1_equals_b5fdf 8 = .ok (.istore_n 2, 1) := dec_61 (gB drcJ1_equals_b5fdf_0 8 rfl rfl)
theorem dJ1_equals_b5fdf_9 : decode cJ1_equals_b5fdf 9 = .ok (.iload_n 2, 1) := dec_28 (gB drcJ1_equals_b5fdf_0 9 rfl rfl)
theorem dJ1_equals_b5fdf_10 : decode cJ1_equals_b5fdf 10 = .ok (.aload_n 0, 1) := dec_42 (gB drcJ1_equals_b5fdf_0 10 rfl rfl)
theorem dJ1_equals_b5fdf_11 : decode cJ1_equals_b5fdf 11 = .ok (.arraylength, 1) := dec_190 (gB drcJ1_equals_b5fdf_0 11 rfl rfl)
theorem dJ1_equals_b5fdf_12 : decode cJ1_equals_b5fdf 12 = .ok (.if_icmp .ge 20, 3) := e_162 (x := 0) (y := 20) drcJ1_equals_b5fdf_0 12 rfl rfl
theorem dJ1_equals_b5fdf_15 : decode cJ1_equals_b5fdf 15 = .ok (.aload_n 0, 1) := dec_42 (gB drcJ1_equals_b5fdf_0 15 rfl rfl)
theorem dJ1_equals_b5fdf_16 : decode cJ1_equals_b5fdf 16 = .ok (.iload_n 2, 1) := dec_28 (gB drcJ1_equals_b5fdf_0 16 rfl rfl)
theorem dJ1_equals_b5fdf_17 : decode cJ1_equals_b5fdf 17 = .ok (.baload, 1) := dec_51 (gB drcJ1_equals_b5fdf_0 17 rfl rfl)
theorem dJ1_equals_b5fdf_18 : decode cJ1_equals_b5fdf 18 = .ok (.aload_n 1, 1) := dec_43 (gB drcJ1_equals_b5fdf_0 18 rfl rfl)
theorem dJ1_equals_b5fdf_19 : decode cJ1_equals_b5fdf 19 = .ok (.iload_n 2, 1) := dec_28 (gB drcJ1_equals_b5fdf_0 19 rfl rfl)
theorem dJ1_equals_b5fdf_20 : decode cJ1_equals_b5fdf 20 = .ok (.baload, 1) := dec_51 (gB drcJ1_equals_b5fdf_0 20 rfl rfl)
theorem dJ1_equals_b5fdf_21 : decode cJ1_equals_b5fdf 21 = .ok (.if_icmp .eq 5, 3) := e_159 (x := 0) (y := 5) drcJ1_equals_b5fdf_0 21 rfl rfl
theorem dJ1_equals_b5fdf_24 : decode cJ1_equals_b5fdf 24 = .ok (.iconst 0, 1) := dec_3 (gB drcJ1_equals_b5fdf_0 24 rfl rfl)
theorem dJ1_equals_b5fdf_25 : decode cJ1_equals_b5fdf 25 = .ok (.ireturn, 1) := dec_172 (gB drcJ1_equals_b5fdf_0 25 rfl rfl)
theorem dJ1_equals_b5fdf_26 : decode cJ1_equals_b5fdf 26 = .ok (.iinc 2 1, 3) := e_132 (x := 2) (y := 1) drcJ1_equals_b5fdf_0 26 rfl rfl
theorem dJ1_equals_b5fdf_29 : decode cJ1_equals_b5fdf 29 = .ok (.goto (-20), 3) := e_167 (x := 255) (y := 236) drcJ1_equals_b5fdf_0 29 rfl rfl
theorem dJ1_equals_b5fdf_32 : decode cJ1_equals_b5fdf 32 = .ok (.iconst 1, 1) := dec_4 (gB drcJ1_equals_b5fdf_0 32 rfl rfl)
theorem dJ1_equals_b5fdf_33 : decode cJ1_equals_b5fdf 33 = .ok (.ireturn, 1) := dec_172 (gB drcJ1_equals_b5fdf_0 33 rfl rfl)
theorem dJ1_equals_b5fdf_34 : decode cJ1_equals_b5fdf 34 = .ok (.iconst 0, 1) := dec_3 (gB drcJ1_equals_b5fdf_0 34 rfl rfl)
theorem dJ1_equals_b5fdf_35 : decode cJ1_equals_b5fdf 35 = .ok (.ireturn, 1) := dec_172 (gB drcJ1_equals_b5fdf_0 35 rfl rfl)
def lkcJ1_inflate_0e8fd_0 : List UInt8 := [0x2a, 0x1b, 0x2c, 0x1d, 0x15, 0x04, 0xb8, 0x00, 0xf0, 0xb1]
def tkcJ1_inflate_0e8fd_0 : List UInt8 := lkcJ1_inflate_0e8fd_0 ++ []
theorem drcJ1_inflate_0e8fd_0 : (cJ1_inflate_0e8fd).data.toList.drop 0 = lkcJ1_inflate_0e8fd_0 ++ [] := by decide +kernel
def lkcJ2_newBytesFor_77867_0 : List UInt8 := [0x1a, 0xb8, 0x00, 0x0b, 0xbc, 0x08, 0xb0]
def tkcJ2_newBytesFor_77867_0 : List UInt8 := lkcJ2_newBytesFor_77867_0 ++ []
theorem drcJ2_newBytesFor_77867_0 : (cJ2_newBytesFor_77867).data.toList.drop 0 = lkcJ2_newBytesFor_77867_0 ++ [] := by decide +kernel
def lkcJ2_newBytesLength_0f7a4_0 : List UInt8 := [0x1a, 0x9c, 0x00, 0x0b, 0xbb, 0x00, 0x11, 0x59, 0xb7, 0x00, 0x13, 0xbf, 0x1a, 0x12, 0x14, 0xa1, 0x00, 0x28, 0xbb, 0x00, 0x15, 0x59, 0xbb, 0x00, 0x17, 0x59, 0xb7, 0x00, 0x19, 0x12, 0x1a, 0xb6, 0x00, 0x1c, 0x1a, 0xb6, 0x00, 0x20, 0x12, 0x23, 0xb6, 0x00, 0x1c, 0x12, 0x14, 0xb6, 0x00, 0x20, 0xb6, 0x00, 0x25, 0xb7, 0x00, 0x29, 0xbf, 0x1a, 0x04, 0x78, 0xac]
def tkcJ2_newBytesLength_0f7a4_0 : List UInt8 := lkcJ2_newBytesLength_0f7a4_0 ++ []
theorem drcJ2_newBytesLength_0f7a4_0 : (cJ2_newBytesLength_0f7a4).data.toList.drop 0 = lkcJ2_newBytesLength_0f7a4_0 ++ [] := by decide +kernel
def lkcJ2_putChar_b72d1_0 : List UInt8 := [0xb2, 0x00, 0x2c, 0x9a, 0x00, 0x19, 0x1b, 0x9b, 0x00, 0x0b, 0x1b, 0x2a, 0xb8, 0x00, 0x30, 0xa1, 0x00, 0x0d, 0xbb, 0x00, 0x34, 0x59, 0x12, 0x36, 0xb7, 0x00, 0x38, 0xbf, 0x1b, 0x04, 0x78, 0x3c, 0x2a, 0x1b, 0x84, 0x01, 0x01, 0x1c, 0xb2, 0x00, 0x3b, 0x7a, 0x91, 0x54, 0x2a, 0x1b, 0x1c, 0xb2, 0x00, 0x3f, 0x7a, 0x91, 0x54, 0xb1]
def tkcJ2_putChar_b72d1_0 : List UInt8 := lkcJ2_putChar_b72d1_0 ++ []
theorem drcJ2_putChar_b72d1_0 : (cJ2_putChar_b72d1).data.toList.drop 0 = lkcJ2_putChar_b72d1_0 ++ [] := by decide +kernel
def lkcJ2_getChar_3b067_0 : List UInt8 := [0xb2, 0x00, 0x2c, 0x9a, 0x00, 0x19, 0x1b, 0x9b, 0x00, 0x0b, 0x1b, 0x2a, 0xb8, 0x00, 0x30, 0xa1, 0x00, 0x0d, 0xbb, 0x00, 0x34, 0x59, 0x12, 0x36, 0xb7, 0x00, 0x38, 0xbf, 0x1b, 0x04, 0x78, 0x3c, 0x2a, 0x1b, 0x84, 0x01, 0x01, 0x33, 0x11, 0x00, 0xff, 0x7e, 0xb2, 0x00, 0x3b, 0x78, 0x2a, 0x1b, 0x33, 0x11, 0x00, 0xff, 0x7e, 0xb2, 0x00, 0x3f, 0x78, 0x80, 0x92, 0xac]
def tkcJ2_getChar_3b067_0 : List UInt8 := lkcJ2_getChar_3b067_0 ++ []
theorem drcJ2_getChar_3b067_0 : (cJ2_getChar_3b067).data.toList.drop 0 = lkcJ2_getChar_3b067_0 ++ [] := by decide +kernel
def lkcJ2_length_9d52b_0 : List UInt8 := [0x2a, 0xbe, 0x04, 0x7a, 0xac]
def tkcJ2_length_9d52b_0 : List UInt8 := lkcJ2_length_9d52b_0 ++ []
theorem drcJ2_length_9d52b_0 : (cJ2_length_9d52b).data.toList.drop 0 = lkcJ2_length_9d52b_0 ++ [] := by decide +kernel
def lkcJ2_coderFromArrayLen_85cad_0 : List UInt8 := [0x1b, 0x2a, 0xbe, 0x64, 0x10, 0x1f, 0x7c, 0x91, 0xac]
def tkcJ2_coderFromArrayLen_85cad_0 : List UInt8 := lkcJ2_coderFromArrayLen_85cad_0 ++ []
theorem drcJ2_coderFromArrayLen_85cad_0 : (cJ2_coderFromArrayLen_85cad).data.toList.drop 0 = lkcJ2_coderFromArrayLen_85cad_0 ++ [] := by decide +kernel
def lkcJ2_compress_39247_0 : List UInt8 := [0x1c, 0xbc, 0x08, 0x4e, 0x2a, 0x1b, 0x2d, 0x03, 0x1c, 0xb8, 0x00, 0x7b, 0x36, 0x04, 0x15, 0x04, 0x1c, 0x9f, 0x00, 0x2f, 0x2a, 0x1b, 0x04, 0x78, 0x1b, 0x1c, 0x60, 0xb8, 0x00, 0x0b, 0xb8, 0x00, 0x7e, 0x3a, 0x05, 0x19, 0x05, 0x15, 0x04, 0xb8, 0x00, 0x47, 0x11, 0x00, 0xff, 0xa3, 0x00, 0x10, 0x19, 0x05, 0x03, 0x2d, 0x03, 0x1c, 0xb8, 0x00, 0x7b, 0x1c, 0x9f, 0x00, 0x06, 0x19, 0x05, 0xb0]
def lkcJ2_compress_39247_1 : List UInt8 := [0x2d, 0xb0]
def tkcJ2_compress_39247_1 : List UInt8 := lkcJ2_compress_39247_1 ++ []
def tkcJ2_compress_39247_0 : List UInt8 := lkcJ2_compress_39247_0 ++ tkcJ2_compress_39247_1
theorem drcJ2_compress_39247_0 : (cJ2_compress_39247).data.toList.drop 0 = lkcJ2_compress_39247_0 ++ tkcJ2_compress_39247_1 := by decide +kernel
theorem drcJ2_compress_39247_1 : (cJ2_compress_39247).data.toList.drop 64 = lkcJ2_compress_39247_1 ++ [] := dr_step drcJ2_compress_39247_0 rfl
def lkcJ2_compress_5af95_0 : List UInt8 := [0x1b, 0x15, 0x04, 0x2a, 0xb8, 0x00, 0xad, 0x03, 0x36, 0x05, 0x15, 0x05, 0x15, 0x04, 0xa2, 0x00, 0x27, 0x2a, 0x1b, 0xb8, 0x00, 0x47, 0x36, 0x06, 0x15, 0x06, 0x11, 0x00, 0xff, 0xa4, 0x00, 0x06, 0x15, 0x05, 0xac, 0x2c, 0x1d, 0x15, 0x06, 0x91, 0x54, 0x84, 0x01, 0x01, 0x84, 0x03, 0x01, 0x84, 0x05, 0x01, 0xa7, 0xff, 0xd8, 0x15, 0x04, 0xac]
def tkcJ2_compress_5af95_0 : List UInt8 := lkcJ2_compress_5af95_0 ++ []
theorem drcJ2_compress_5af95_0 : (cJ2_compress_5af95).data.toList.drop 0 = lkcJ2_compress_5af95_0 ++ [] := by decide +kernel
def lkcJ2_putCharSB_b72d1_0 : List UInt8 := [0x1b, 0x2a, 0xb8, 0x00, 0x43, 0x2a, 0x1b, 0x1c, 0xb8, 0x00, 0x6f, 0xb1]
def tkcJ2_putCharSB_b72d1_0 : List UInt8 := lkcJ2_putCharSB_b72d1_0 ++ []
theorem drcJ2_putCharSB_b72d1_0 : (cJ2_putCharSB_b72d1).data.toList.drop 0 = lkcJ2_putCharSB_b72d1_0 ++ [] := by decide +kernel
def lkcJ2_getChars_46870_0 : List UInt8 := [0x1b, 0x1c, 0x2d, 0xb8, 0x00, 0x60, 0x1a, 0x1c, 0x2d, 0xb8, 0x01, 0x89, 0x36, 0x04, 0xb2, 0x00, 0x2c, 0x9a, 0x00, 0x11, 0x1b, 0x15, 0x04, 0x9f, 0x00, 0x0b, 0xbb, 0x00, 0x34, 0x59, 0xb7, 0x00, 0x42, 0xbf, 0x15, 0x04, 0xac]
def tkcJ2_getChars_46870_0 : List UInt8 := lkcJ2_getChars_46870_0 ++ []
theorem drcJ2_getChars_46870_0 : (cJ2_getChars_46870).data.toList.drop 0 = lkcJ2_getChars_46870_0 ++ [] := by decide +kernel
def lkcJ2_putCharsAt_cd4e5_0 : List UInt8 := [0x1b, 0x07, 0x60, 0x36, 0x06, 0x1b, 0x15, 0x06, 0x2a, 0xb8, 0x00, 0x60, 0x2a, 0x1b, 0x84, 0x01, 0x01, 0x1c, 0xb8, 0x00, 0x6f, 0x2a, 0x1b, 0x84, 0x01, 0x01, 0x1d, 0xb8, 0x00, 0x6f, 0x2a, 0x1b, 0x84, 0x01, 0x01, 0x15, 0x04, 0xb8, 0x00, 0x6f, 0x2a, 0x1b, 0x84, 0x01, 0x01, 0x15, 0x05, 0xb8, 0x00, 0x6f, 0xb2, 0x00, 0x2c, 0x9a, 0x00, 0x11, 0x1b, 0x15, 0x06, 0x9f, 0x00, 0x0b, 0xbb, 0x00]
def lkcJ2_putCharsAt_cd4e5_1 : List UInt8 := [0x34, 0x59, 0xb7, 0x00, 0x42, 0xbf, 0x15, 0x06, 0xac]
def tkcJ2_putCharsAt_cd4e5_1 : List UInt8 := lkcJ2_putCharsAt_cd4e5_1 ++ []
def tkcJ2_putCharsAt_cd4e5_0 : List UInt8 := lkcJ2_putCharsAt_cd4e5_0 ++ tkcJ2_putCharsAt_cd4e5_1
theorem drcJ2_putCharsAt_cd4e5_0 : (cJ2_putCharsAt_cd4e5).data.toList.drop 0 = lkcJ2_putCharsAt_cd4e5_0 ++ tkcJ2_putCharsAt_cd4e5_1 := by decide +kernel
theorem drcJ2_putCharsAt_cd4e5_1 : (cJ2_putCharsAt_cd4e5).data.toList.drop 64 = lkcJ2_putCharsAt_cd4e5_1 ++ [] := dr_step drcJ2_putCharsAt_cd4e5_0 rfl
def lkcJ2_inflate_0e8fd_0 : List UInt8 := [0x1d, 0x15, 0x04, 0x2c, 0xb8, 0x00, 0xad, 0x03, 0x36, 0x05, 0x15, 0x05, 0x15, 0x04, 0xa2, 0x00, 0x1b, 0x2c, 0x1d, 0x84, 0x03, 0x01, 0x2a, 0x1b, 0x84, 0x01, 0x01, 0x33, 0x11, 0x00, 0xff, 0x7e, 0xb8, 0x00, 0x6f, 0x84, 0x05, 0x01, 0xa7, 0xff, 0xe4, 0xb1]
def tkcJ2_inflate_0e8fd_0 : List UInt8 := lkcJ2_inflate_0e8fd_0 ++ []
theorem drcJ2_inflate_0e8fd_0 : (cJ2_inflate_0e8fd).data.toList.drop 0 = lkcJ2_inflate_0e8fd_0 ++ [] := by decide +kernel
def lkcJ2_getChars_ba4f3_0 : List UInt8 := [0x1b, 0x36, 0x05, 0x1a, 0x9c, 0x00, 0x07, 0x04, 0xa7, 0x00, 0x04, 0x03, 0x36, 0x06, 0x15, 0x06, 0x9a, 0x00, 0x06, 0x1a, 0x74, 0x3b, 0x1a, 0x10, 0x9c, 0xa3, 0x00, 0x33, 0x1a, 0x10, 0x64, 0x6c, 0x3e, 0x1d, 0x10, 0x64, 0x68, 0x1a, 0x64, 0x36, 0x04, 0x1d, 0x3b, 0x2c, 0x84, 0x05, 0xff, 0x15, 0x05, 0xb2, 0x01, 0x93, 0x15, 0x04, 0x33, 0xb8, 0x00, 0x6f, 0x2c, 0x84, 0x05, 0xff, 0x15, 0x05]
def lkcJ2_getChars_ba4f3_1 : List UInt8 := [0xb2, 0x01, 0x97, 0x15, 0x04, 0x33, 0xb8, 0x00, 0x6f, 0xa7, 0xff, 0xcd, 0x2c, 0x84, 0x05, 0xff, 0x15, 0x05, 0xb2, 0x01, 0x93, 0x1a, 0x74, 0x33, 0xb8, 0x00, 0x6f, 0x1a, 0x10, 0xf7, 0xa2, 0x00, 0x12, 0x2c, 0x84, 0x05, 0xff, 0x15, 0x05, 0xb2, 0x01, 0x97, 0x1a, 0x74, 0x33, 0xb8, 0x00, 0x6f, 0x15, 0x06, 0x99, 0x00, 0x0e, 0x2c, 0x84, 0x05, 0xff, 0x15, 0x05, 0x10, 0x2d, 0xb8, 0x00, 0x6f]
def lkcJ2_getChars_ba4f3_2 : List UInt8 := [0x15, 0x05, 0xac]
def tkcJ2_getChars_ba4f3_2 : List UInt8 := lkcJ2_getChars_ba4f3_2 ++ []
def tkcJ2_getChars_ba4f3_1 : List UInt8 := lkcJ2_getChars_ba4f3_1 ++ tkcJ2_getChars_ba4f3_2
def tkcJ2_getChars_ba4f3_0 : List UInt8 := lkcJ2_getChars_ba4f3_0 ++ tkcJ2_getChars_ba4f3_1
theorem drcJ2_getChars_ba4f3_0 : (cJ2_getChars_ba4f3).data.toList.drop 0 = lkcJ2_getChars_ba4f3_0 ++ tkcJ2_getChars_ba4f3_1 := by decide +kernel
theorem drcJ2_getChars_ba4f3_1 : (cJ2_getChars_ba4f3).data.toList.drop 64 = lkcJ2_getChars_ba4f3_1 ++ tkcJ2_getChars_ba4f3_2 := dr_step drcJ2_getChars_ba4f3_0 rfl
theorem drcJ2_getChars_ba4f3_2 : (cJ2_getChars_ba4f3).data.toList.drop 128 = lkcJ2_getChars_ba4f3_2 ++ [] := dr_step drcJ2_getChars_ba4f3_1 rfl
def lkcJ2_checkIndex_2214a_0 : List UInt8 := [0x1a, 0x2b, 0xb8, 0x00, 0x30, 0xb8, 0x01, 0x9e, 0xb1]
def tkcJ2_checkIndex_2214a_0 : List UInt8 := lkcJ2_checkIndex_2214a_0 ++ []
theorem drcJ2_checkIndex_2214a_0 : (cJ2_checkIndex_2214a).data.toList.drop 0 = lkcJ2_checkIndex_2214a_0 ++ [] := by decide +kernel
def lkcJ2_checkBoundsBeginEnd_d044e_0 : List UInt8 := [0x1a, 0x1b, 0x2c, 0xb8, 0x00, 0x30, 0xb8, 0x00, 0xf1, 0xb1]
def tkcJ2_checkBoundsBeginEnd_d044e_0 : List UInt8 := lkcJ2_checkBoundsBeginEnd_d044e_0 ++ []
theorem drcJ2_checkBoundsBeginEnd_d044e_0 : (cJ2_checkBoundsBeginEnd_d044e).data.toList.drop 0 = lkcJ2_checkBoundsBeginEnd_d044e_0 ++ [] := by decide +kernel
def lkcJ2_checkBoundsOffCount_d044e_0 : List UInt8 := [0x1a, 0x1b, 0x2c, 0xb8, 0x00, 0x30, 0xb8, 0x01, 0xa3, 0x57, 0xb1]
def tkcJ2_checkBoundsOffCount_d044e_0 : List UInt8 := lkcJ2_checkBoundsOffCount_d044e_0 ++ []
theorem drcJ2_checkBoundsOffCount_d044e_0 : (cJ2_checkBoundsOffCount_d044e).data.toList.drop 0 = lkcJ2_checkBoundsOffCount_d044e_0 ++ [] := by decide +kernel
def lkcJ7_copyOf_9075b_0 : List UInt8 := [0x1b, 0x2a, 0xbe, 0xa0, 0x00, 0x0b, 0x2a, 0xb6, 0x01, 0x36, 0xc0, 0x01, 0x37, 0xb0, 0x1b, 0xbc, 0x08, 0x4d, 0x2a, 0x03, 0x2c, 0x03, 0x2a, 0xbe, 0x1b, 0xb8, 0x01, 0x30, 0xb8, 0x00, 0x96, 0x2c, 0xb0]
def tkcJ7_copyOf_9075b_0 : List UInt8 := lkcJ7_copyOf_9075b_0 ++ []
theorem drcJ7_copyOf_9075b_0 : (cJ7_copyOf_9075b).data.toList.drop 0 = lkcJ7_copyOf_9075b_0 ++ [] := by decide +kernel
theorem dJ7_copyOf_9075b_0 : decode cJ7_copyOf_9075b 0 = .ok (.iload_n 1, 1) := dec_27 (gB drcJ7_copyOf_9075b_0 0 rfl rfl)
theorem dJ7_copyOf_9075b_1 : decode cJ7_copyOf_9075b 1 = .ok (.aload_n 0, 1) := dec_42 (gB drcJ7_copyOf_9075b_0 1 rfl rfl)
theorem dJ7_copyOf_9075b_2 : decode cJ7_copyOf_9075b 2 = .ok (.arraylength, 1) := dec_190 (gB drcJ7_copyOf_9075b_0 2 rfl rfl)
theorem dJ7_copyOf_9075b_3 : decode cJ7_copyOf_9075b 3 = .ok (.if_icmp .ne 11, 3) := e_160 (x := 0) (y := 11) drcJ7_copyOf_9075b_0 3 rfl rfl
theorem dJ7_copyOf_9075b_6 : decode cJ7_copyOf_9075b 6 = .ok (.aload_n 0, 1) := dec_42 (gB drcJ7_copyOf_9075b_0 6 rfl rfl)
theorem dJ7_copyOf_9075b_7 : decode cJ7_copyOf_9075b 7 = .ok (.invokevirtual 310, 3) := e_182 (x := 1) (y := 54) drcJ7_copyOf_9075b_0 7 rfl rfl
theorem dJ7_copyOf_9075b_10 : decode cJ7_copyOf_9075b 10 = .ok (.checkcast 311, 3) := e_192 (x := 1) (y := 55) drcJ7_copyOf_9075b_0 10 rfl rfl
theorem dJ7_copyOf_9075b_13 : decode cJ7_copyOf_9075b 13 = .ok (.areturn, 1) := dec_176 (gB drcJ7_copyOf_9075b_0 13 rfl rfl)
theorem dJ7_copyOf_9075b_14 : decode cJ7_copyOf_9075b 14 = .ok (.iload_n 1, 1) := dec_27 (gB drcJ7_copyOf_9075b_0 14 rfl rfl)
theorem dJ7_copyOf_9075b_15 : decode cJ7_copyOf_9075b 15 = .ok (.newarray .byte, 2) := by decide +kernel
theorem dJ7_copyOf_9075b_17 : decode cJ7_copyOf_9075b 17 = .ok (.astore_n 2, 1) := dec_77 (gB drcJ7_copyOf_9075b_0 17 rfl rfl)
theorem dJ7_copyOf_9075b_18 : decode cJ7_copyOf_9075b 18 = .ok (.aload_n 0, 1) := dec_42 (gB drcJ7_copyOf_9075b_0 18 rfl rfl)
theorem dJ7_copyOf_9075b_19 : decode cJ7_copyOf_9075b 19 = .ok (.iconst 0, 1) := dec_3 (gB drcJ7_copyOf_9075b_0 19 rfl rfl)
theorem dJ7_copyOf_9075b_20 : decode cJ7_copyOf_9075b 20 = .ok (.aload_n 2, 1) := dec_44 (gB drcJ7_copyOf_9075b_0 20 rfl rfl)
theorem dJ7_copyOf_9075b_21 : decode cJ7_copyOf_9075b 21 = .ok (.iconst 0, 1) := dec_3 (gB drcJ7_copyOf_9075b_0 21 rfl rfl)
theorem dJ7_copyOf_9075b_22 : decode cJ7_copyOf_9075b 22 = .ok (.aload_n 0, 1) := dec_42 (gB drcJ7_copyOf_9075b_0 22 rfl rfl)
theorem dJ7_copyOf_9075b_23 : decode cJ7_copyOf_9075b 23 = .ok (.arraylength, 1) := dec_190 (gB drcJ7_copyOf_9075b_0 23 rfl rfl)
theorem dJ7_copyOf_9075b_24 : decode cJ7_copyOf_9075b 24 = .ok (.iload_n 1, 1) := dec_27 (gB drcJ7_copyOf_9075b_0 24 rfl rfl)
theorem dJ7_copyOf_9075b_25 : decode cJ7_copyOf_9075b 25 = .ok (.invokestatic 304, 3) := e_184 (x := 1) (y := 48) drcJ7_copyOf_9075b_0 25 rfl rfl
theorem dJ7_copyOf_9075b_28 : decode cJ7_copyOf_9075b 28 = .ok (.invokestatic 150, 3) := e_184 (x := 0) (y := 150) drcJ7_copyOf_9075b_0 28 rfl rfl
theorem dJ7_copyOf_9075b_31 : decode cJ7_copyOf_9075b 31 = .ok (.aload_n 2, 1) := dec_44 (gB drcJ7_copyOf_9075b_0 31 rfl rfl)
theorem dJ7_copyOf_9075b_32 : decode cJ7_copyOf_9075b 32 = .ok (.areturn, 1) := dec_176 (gB drcJ7_copyOf_9075b_0 32 rfl rfl)
def lkcJ7_checkLength_df160_0 : List UInt8 := [0x1b, 0x1a, 0xa2, 0x00, 0x23, 0xbb, 0x00, 0x2b, 0x59, 0xbb, 0x00, 0x2d, 0x59, 0xb7, 0x00, 0x2f, 0x1a, 0xb6, 0x00, 0x36, 0x13, 0x01, 0x51, 0xb6, 0x00, 0x32, 0x1b, 0xb6, 0x00, 0x36, 0xb6, 0x00, 0x3d, 0xb7, 0x00, 0x41, 0xbf, 0xb1]
def tkcJ7_checkLength_df160_0 : List UInt8 := lkcJ7_checkLength_df160_0 ++ []
theorem drcJ7_checkLength_df160_0 : (cJ7_checkLength_df160).data.toList.drop 0 = lkcJ7_checkLength_df160_0 ++ [] := by decide +kernel
theorem dJ7_checkLength_df160_0 : decode cJ7_checkLength_df160 0 = .ok (.iload_n 1, 1) := dec_27 (gB drcJ7_checkLength_df160_0 0 rfl rfl)
theorem dJ7_checkLength_df160_1 : decode cJ7_checkLength_df160 1 = .ok (.iload_n 0, 1) := dec_26 (gB drcJ7_checkLength_df160_0 1 rfl rfl)
theorem dJ7_checkLength_df160_2 : decode cJ7_checkLength_df160 2 = .ok (.if_icmp .ge 35, 3) := e_162 (x := 0) (y := 35) drcJ7_checkLength_df160_0 2 rfl rfl
theorem dJ7_checkLength_df160_37 : decode cJ7_checkLength_df160 37 = .ok (.return_, 1) := dec_177 (gB drcJ7_checkLength_df160_0 37 rfl rfl)
def lkcJ7_copyOfRange_39247_0 : List UInt8 := [0x1b, 0x9a, 0x00, 0x09, 0x1c, 0x2a, 0xbe, 0x9f, 0x00, 0x0a, 0x2a, 0x1b, 0x1c, 0xb8, 0x01, 0x53, 0xb0, 0x2a, 0xb6, 0x01, 0x36, 0xc0, 0x01, 0x37, 0xb0]
def tkcJ7_copyOfRange_39247_0 : List UInt8 := lkcJ7_copyOfRange_39247_0 ++ []
theorem drcJ7_copyOfRange_39247_0 : (cJ7_copyOfRange_39247).data.toList.drop 0 = lkcJ7_copyOfRange_39247_0 ++ [] := by decide +kernel
theorem dJ7_copyOfRange_39247_0 : decode cJ7_copyOfRange_39247 0 = .ok (.iload_n 1, 1) := dec_27 (gB drcJ7_copyOfRange_39247_0 0 rfl rfl)
theorem dJ7_copyOfRange_39247_1 : decode cJ7_copyOfRange_39247 1 = .ok (.ifCond .ne 9, 3) := e_154 (x := 0) (y := 9) drcJ7_copyOfRange_39247_0 1 rfl rfl
theorem dJ7_copyOfRange_39247_4 : decode cJ7_copyOfRange_39247 4 = .ok (.iload_n 2, 1) := dec_28 (gB drcJ7_copyOfRange_39247_0 4 rfl rfl)
theorem dJ7_copyOfRange_39247_5 : decode cJ7_copyOfRange_39247 5 = .ok (.aload_n 0, 1) := dec_42 (gB drcJ7_copyOfRange_39247_0 5 rfl rfl)
theorem dJ7_copyOfRange_39247_6 : decode cJ7_copyOfRange_39247 6 = .ok (.arraylength, 1) := dec_190 (gB drcJ7_copyOfRange_39247_0 6 rfl rfl)
theorem dJ7_copyOfRange_39247_7 : decode cJ7_copyOfRange_39247 7 = .ok (.if_icmp .eq 10, 3) := e_159 (x := 0) (y := 10) drcJ7_copyOfRange_39247_0 7 rfl rfl
theorem dJ7_copyOfRange_39247_10 : decode cJ7_copyOfRange_39247 10 = .ok (.aload_n 0, 1) := dec_42 (gB drcJ7_copyOfRange_39247_0 10 rfl rfl)
theorem dJ7_copyOfRange_39247_11 : decode cJ7_copyOfRange_39247 11 = .ok (.iload_n 1, 1) := dec_27 (gB drcJ7_copyOfRange_39247_0 11 rfl rfl)
theorem dJ7_copyOfRange_39247_12 : decode cJ7_copyOfRange_39247 12 = .ok (.iload_n 2, 1) := dec_28 (gB drcJ7_copyOfRange_39247_0 12 rfl rfl)
theorem dJ7_copyOfRange_39247_13 : decode cJ7_copyOfRange_39247 13 = .ok (.invokestatic 339, 3) := e_184 (x := 1) (y := 83) drcJ7_copyOfRange_39247_0 13 rfl rfl
theorem dJ7_copyOfRange_39247_16 : decode cJ7_copyOfRange_39247 16 = .ok (.areturn, 1) := dec_176 (gB drcJ7_copyOfRange_39247_0 16 rfl rfl)
theorem dJ7_copyOfRange_39247_17 : decode cJ7_copyOfRange_39247 17 = .ok (.aload_n 0, 1) := dec_42 (gB drcJ7_copyOfRange_39247_0 17 rfl rfl)
theorem dJ7_copyOfRange_39247_18 : decode cJ7_copyOfRange_39247 18 = .ok (.invokevirtual 310, 3) := e_182 (x := 1) (y := 54) drcJ7_copyOfRange_39247_0 18 rfl rfl
theorem dJ7_copyOfRange_39247_21 : decode cJ7_copyOfRange_39247 21 = .ok (.checkcast 311, 3) := e_192 (x := 1) (y := 55) drcJ7_copyOfRange_39247_0 21 rfl rfl
theorem dJ7_copyOfRange_39247_24 : decode cJ7_copyOfRange_39247 24 = .ok (.areturn, 1) := dec_176 (gB drcJ7_copyOfRange_39247_0 24 rfl rfl)
def lkcJ7_copyOfRangeByte_39247_0 : List UInt8 := [0x1b, 0x1c, 0xb8, 0x01, 0x57, 0x1c, 0x1b, 0x64, 0x3e, 0x1d, 0xbc, 0x08, 0x3a, 0x04, 0x2a, 0x1b, 0x19, 0x04, 0x03, 0x2a, 0xbe, 0x1b, 0x64, 0x1d, 0xb8, 0x01, 0x30, 0xb8, 0x00, 0x96, 0x19, 0x04, 0xb0]
def tkcJ7_copyOfRangeByte_39247_0 : List UInt8 := lkcJ7_copyOfRangeByte_39247_0 ++ []
theorem drcJ7_copyOfRangeByte_39247_0 : (cJ7_copyOfRangeByte_39247).data.toList.drop 0 = lkcJ7_copyOfRangeByte_39247_0 ++ [] := by decide +kernel
theorem dJ7_copyOfRangeByte_39247_0 : decode cJ7_copyOfRangeByte_39247 0 = .ok (.iload_n 1, 1) := dec_27 (gB drcJ7_copyOfRangeByte_39247_0 0 rfl rfl)
theorem dJ7_copyOfRangeByte_39247_1 : decode cJ7_copyOfRangeByte_39247 1 = .ok (.iload_n 2, 1) := dec_28 (gB drcJ7_copyOfRangeByte_39247_0 1 rfl rfl)
theorem dJ7_copyOfRangeByte_39247_2 : decode cJ7_copyOfRangeByte_39247 2 = .ok (.invokestatic 343, 3) := e_184 (x := 1) (y := 87) drcJ7_copyOfRangeByte_39247_0 2 rfl rfl
theorem dJ7_copyOfRangeByte_39247_5 : decode cJ7_copyOfRangeByte_39247 5 = .ok (.iload_n 2, 1) := dec_28 (gB drcJ7_copyOfRangeByte_39247_0 5 rfl rfl)
theorem dJ7_copyOfRangeByte_39247_6 : decode cJ7_copyOfRangeByte_39247 6 = .ok (.iload_n 1, 1) := dec_27 (gB drcJ7_copyOfRangeByte_39247_0 6 rfl rfl)
theorem dJ7_copyOfRangeByte_39247_7 : decode cJ7_copyOfRangeByte_39247 7 = .ok (.isub, 1) := dec_100 (gB drcJ7_copyOfRangeByte_39247_0 7 rfl rfl)
theorem dJ7_copyOfRangeByte_39247_8 : decode cJ7_copyOfRangeByte_39247 8 = .ok (.istore_n 3, 1) := dec_62 (gB drcJ7_copyOfRangeByte_39247_0 8 rfl rfl)
theorem dJ7_copyOfRangeByte_39247_9 : decode cJ7_copyOfRangeByte_39247 9 = .ok (.iload_n 3, 1) := dec_29 (gB drcJ7_copyOfRangeByte_39247_0 9 rfl rfl)
theorem dJ7_copyOfRangeByte_39247_10 : decode cJ7_copyOfRangeByte_39247 10 = .ok (.newarray .byte, 2) := by decide +kernel
theorem dJ7_copyOfRangeByte_39247_12 : decode cJ7_copyOfRangeByte_39247 12 = .ok (.astore 4, 2) := e_58 (x := 4) drcJ7_copyOfRangeByte_39247_0 12 rfl rfl
theorem dJ7_copyOfRangeByte_39247_14 : decode cJ7_copyOfRangeByte_39247 14 = .ok (.aload_n 0, 1) := dec_42 (gB drcJ7_copyOfRangeByte_39247_0 14 rfl rfl)
theorem dJ7_copyOfRangeByte_39247_15 : decode cJ7_copyOfRangeByte_39247 15 = .ok (.iload_n 1, 1) := dec_27 (gB drcJ7_copyOfRangeByte_39247_0 15 rfl rfl)
theorem dJ7_copyOfRangeByte_39247_16 : decode cJ7_copyOfRangeByte_39247 16 = .ok (.aload 4, 2) := e_25 (x := 4) drcJ7_copyOfRangeByte_39247_0 16 rfl rfl
theorem dJ7_copyOfRangeByte_39247_18 : decode cJ7_copyOfRangeByte_39247 18 = .ok (.iconst 0, 1) := dec_3 (gB drcJ7_copyOfRangeByte_39247_0 18 rfl rfl)
theorem dJ7_copyOfRangeByte_39247_19 : decode cJ7_copyOfRangeByte_39247 19 = .ok (.aload_n 0, 1) := dec_42 (gB drcJ7_copyOfRangeByte_39247_0 19 rfl rfl)
theorem dJ7_copyOfRangeByte_39247_20 : decode cJ7_copyOfRangeByte_39247 20 = .ok (.arraylength, 1) := dec_190 (gB drcJ7_copyOfRangeByte_39247_0 20 rfl rfl)
theorem dJ7_copyOfRangeByte_39247_21 : decode cJ7_copyOfRangeByte_39247 21 = .ok (.iload_n 1, 1) := dec_27 (gB drcJ7_copyOfRangeByte_39247_0 21 rfl rfl)
theorem dJ7_copyOfRangeByte_39247_22 : decode cJ7_copyOfRangeByte_39247 22 = .ok (.isub, 1) := dec_100 (gB drcJ7_copyOfRangeByte_39247_0 22 rfl rfl)
theorem dJ7_copyOfRangeByte_39247_23 : decode cJ7_copyOfRangeByte_39247 23 = .ok (.iload_n 3, 1) := dec_29 (gB drcJ7_copyOfRangeByte_39247_0 23 rfl rfl)
theorem dJ7_copyOfRangeByte_39247_24 : decode cJ7_copyOfRangeByte_39247 24 = .ok (.invokestatic 304, 3) := e_184 (x := 1) (y := 48) drcJ7_copyOfRangeByte_39247_0 24 rfl rfl
theorem dJ7_copyOfRangeByte_39247_27 : decode cJ7_copyOfRangeByte_39247 27 = .ok (.invokestatic 150, 3) := e_184 (x := 0) (y := 150) drcJ7_copyOfRangeByte_39247_0 27 rfl rfl
theorem dJ7_copyOfRangeByte_39247_30 : decode cJ7_copyOfRangeByte_39247 30 = .ok (.aload 4, 2) := e_25 (x := 4) drcJ7_copyOfRangeByte_39247_0 30 rfl rfl
theorem dJ7_copyOfRangeByte_39247_32 : decode cJ7_copyOfRangeByte_39247 32 = .ok (.areturn, 1) := dec_176 (gB drcJ7_copyOfRangeByte_39247_0 32 rfl rfl)
def lkcJ8_newLength_cabcc_0 : List UInt8 := [0x1a, 0x1b, 0x1c, 0xb8, 0x00, 0xc2, 0x60, 0x3e, 0x03, 0x1d, 0xa2, 0x00, 0x0b, 0x1d, 0x12, 0xc8, 0xa3, 0x00, 0x05, 0x1d, 0xac, 0x1a, 0x1b, 0xb8, 0x00, 0xc9, 0xac]
def tkcJ8_newLength_cabcc_0 : List UInt8 := lkcJ8_newLength_cabcc_0 ++ []
theorem drcJ8_newLength_cabcc_0 : (cJ8_newLength_cabcc).data.toList.drop 0 = lkcJ8_newLength_cabcc_0 ++ [] := by decide +kernel
theorem dJ8_newLength_cabcc_0 : decode cJ8_newLength_cabcc 0 = .ok (.iload_n 0, 1) := dec_26 (gB drcJ8_newLength_cabcc_0 0 rfl rfl)
theorem dJ8_newLength_cabcc_1 : decode cJ8_newLength_cabcc 1 = .ok (.iload_n 1, 1) := dec_27 (gB drcJ8_newLength_cabcc_0 1 rfl rfl)
theorem dJ8_newLength_cabcc_2 : decode cJ8_newLength_cabcc 2 = .ok (.iload_n 2, 1) := dec_28 (gB drcJ8_newLength_cabcc_0 2 rfl rfl)
theorem dJ8_newLength_cabcc_3 : decode cJ8_newLength_cabcc 3 = .ok (.invokestatic 194, 3) := e_184 (x := 0) (y := 194) drcJ8_newLength_cabcc_0 3 rfl rfl
theorem dJ8_newLength_cabcc_6 : decode cJ8_newLength_cabcc 6 = .ok (.iadd, 1) := dec_96 (gB drcJ8_newLength_cabcc_0 6 rfl rfl)
theorem dJ8_newLength_cabcc_7 : decode cJ8_newLength_cabcc 7 = .ok (.istore_n 3, 1) := dec_62 (gB drcJ8_newLength_cabcc_0 7 rfl rfl)
theorem dJ8_newLength_cabcc_8 : decode cJ8_newLength_cabcc 8 = .ok (.iconst 0, 1) := dec_3 (gB drcJ8_newLength_cabcc_0 8 rfl rfl)
theorem dJ8_newLength_cabcc_9 : decode cJ8_newLength_cabcc 9 = .ok (.iload_n 3, 1) := dec_29 (gB drcJ8_newLength_cabcc_0 9 rfl rfl)
theorem dJ8_newLength_cabcc_10 : decode cJ8_newLength_cabcc 10 = .ok (.if_icmp .ge 11, 3) := e_162 (x := 0) (y := 11) drcJ8_newLength_cabcc_0 10 rfl rfl
theorem dJ8_newLength_cabcc_13 : decode cJ8_newLength_cabcc 13 = .ok (.iload_n 3, 1) := dec_29 (gB drcJ8_newLength_cabcc_0 13 rfl rfl)
theorem dJ8_newLength_cabcc_14 : decode cJ8_newLength_cabcc 14 = .ok (.ldc 200, 2) := e_18 (x := 200) drcJ8_newLength_cabcc_0 14 rfl rfl
theorem dJ8_newLength_cabcc_16 : decode cJ8_newLength_cabcc 16 = .ok (.if_icmp .gt 5, 3) := e_163 (x := 0) (y := 5) drcJ8_newLength_cabcc_0 16 rfl rfl
theorem dJ8_newLength_cabcc_19 : decode cJ8_newLength_cabcc 19 = .ok (.iload_n 3, 1) := dec_29 (gB drcJ8_newLength_cabcc_0 19 rfl rfl)
theorem dJ8_newLength_cabcc_20 : decode cJ8_newLength_cabcc 20 = .ok (.ireturn, 1) := dec_172 (gB drcJ8_newLength_cabcc_0 20 rfl rfl)
theorem dJ8_newLength_cabcc_21 : decode cJ8_newLength_cabcc 21 = .ok (.iload_n 0, 1) := dec_26 (gB drcJ8_newLength_cabcc_0 21 rfl rfl)
theorem dJ8_newLength_cabcc_22 : decode cJ8_newLength_cabcc 22 = .ok (.iload_n 1, 1) := dec_27 (gB drcJ8_newLength_cabcc_0 22 rfl rfl)
def lkcJ8_hugeLength_7cf53_0 : List UInt8 := [0x1a, 0x1b, 0x60, 0x3d, 0x1c, 0x9c, 0x00, 0x2c, 0xbb, 0x00, 0xcc, 0x59, 0xbb, 0x00, 0x59, 0x59, 0xb7, 0x00, 0x5b, 0x12, 0xce, 0xb6, 0x00, 0x5e, 0x1a, 0xb6, 0x00, 0x62, 0x12, 0xd0, 0xb6, 0x00, 0x5e, 0x1b, 0xb6, 0x00, 0x62, 0x12, 0xd2, 0xb6, 0x00, 0x5e, 0xb6, 0x00, 0x65, 0xb7, 0x00, 0xd4, 0xbf, 0x1c, 0x12, 0xc8, 0xa3, 0x00, 0x06, 0x12, 0xc8, 0xac, 0x1c, 0xac]
def tkcJ8_hugeLength_7cf53_0 : List UInt8 := lkcJ8_hugeLength_7cf53_0 ++ []
theorem drcJ8_hugeLength_7cf53_0 : (cJ8_hugeLength_7cf53).data.toList.drop 0 = lkcJ8_hugeLength_7cf53_0 ++ [] := by decide +kernel
def lkcJ3_checkIndex_8e157_0 : List UInt8 := [0x1a, 0x9b, 0x00, 0x08, 0x1a, 0x1b, 0xa1, 0x00, 0x0a, 0x2c, 0x1a, 0x1b, 0xb8, 0x00, 0x5f, 0xbf, 0x1a, 0xac]
def tkcJ3_checkIndex_8e157_0 : List UInt8 := lkcJ3_checkIndex_8e157_0 ++ []
theorem drcJ3_checkIndex_8e157_0 : (cJ3_checkIndex_8e157).data.toList.drop 0 = lkcJ3_checkIndex_8e157_0 ++ [] := by decide +kernel
def lkcJ3_checkFromToIndex_8c36e_0 : List UInt8 := [0x1a, 0x9b, 0x00, 0x0d, 0x1a, 0x1b, 0xa3, 0x00, 0x08, 0x1b, 0x1c, 0xa4, 0x00, 0x0b, 0x2d, 0x1a, 0x1b, 0x1c, 0xb8, 0x00, 0x63, 0xbf, 0x1a, 0xac]
def tkcJ3_checkFromToIndex_8c36e_0 : List UInt8 := lkcJ3_checkFromToIndex_8c36e_0 ++ []
theorem drcJ3_checkFromToIndex_8c36e_0 : (cJ3_checkFromToIndex_8c36e).data.toList.drop 0 = lkcJ3_checkFromToIndex_8c36e_0 ++ [] := by decide +kernel
def lkcJ3_checkFromIndexSize_8c36e_0 : List UInt8 := [0x1c, 0x1a, 0x80, 0x1b, 0x80, 0x9b, 0x00, 0x0a, 0x1b, 0x1c, 0x1a, 0x64, 0xa4, 0x00, 0x0b, 0x2d, 0x1a, 0x1b, 0x1c, 0xb8, 0x00, 0x67, 0xbf, 0x1a, 0xac]
def tkcJ3_checkFromIndexSize_8c36e_0 : List UInt8 := lkcJ3_checkFromIndexSize_8c36e_0 ++ []
theorem drcJ3_checkFromIndexSize_8c36e_0 : (cJ3_checkFromIndexSize_8c36e).data.toList.drop 0 = lkcJ3_checkFromIndexSize_8c36e_0 ++ [] := by decide +kernel
