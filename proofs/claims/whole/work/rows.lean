section
-- ===== PART A: goes FIRST, ahead of the names: the tables' words, and 'selects' of the private methods out of them =====
/-- a private method of a class that the tables say can be made, by its rows of tables_1 -/
def lw_okq (q : MethodName × Nat) : Prop := (q.1.cls ≠ "java/lang/invoke/MethodHandle" ∧ q.1.cls ≠ "java/lang/invoke/VarHandle") ∧ Cond.instantiable q.1.cls q.2 ∈ tables_1 ∧ Cond.privateMethod q.1 ∈ tables_1 ∧ Cond.instanceMethod q.1 ∈ tables_1
theorem lw_p0 : lw_okq (⟨"java/lang/Throwable", "fillInStackTrace", "(I)Ljava/lang/Throwable;"⟩, 6) := ⟨⟨by decide +kernel, by decide +kernel⟩, List.mem_of_getElem? (i := 272) (by decide +kernel), List.mem_of_getElem? (i := 270) (by decide +kernel), List.mem_of_getElem? (i := 271) (by decide +kernel)⟩
theorem lw_p1 : lw_okq (⟨"SequenceMatch", "newTree", "(III)I"⟩, 6) := ⟨⟨by decide +kernel, by decide +kernel⟩, List.mem_of_getElem? (i := 20) (by decide +kernel), List.mem_of_getElem? (i := 302) (by decide +kernel), List.mem_of_getElem? (i := 303) (by decide +kernel)⟩
theorem lw_p2 : lw_okq (⟨"SequenceMatch", "requireTree", "(I)V"⟩, 6) := ⟨⟨by decide +kernel, by decide +kernel⟩, List.mem_of_getElem? (i := 20) (by decide +kernel), List.mem_of_getElem? (i := 345) (by decide +kernel), List.mem_of_getElem? (i := 346) (by decide +kernel)⟩
theorem lw_p3 : lw_okq (⟨"SequenceMatch$Forest", "placeFor", "(II)I"⟩, 13) := ⟨⟨by decide +kernel, by decide +kernel⟩, List.mem_of_getElem? (i := 28) (by decide +kernel), List.mem_of_getElem? (i := 378) (by decide +kernel), List.mem_of_getElem? (i := 379) (by decide +kernel)⟩
theorem lw_p4 : lw_okq (⟨"SequenceMatch", "requirePlain", "(I)V"⟩, 6) := ⟨⟨by decide +kernel, by decide +kernel⟩, List.mem_of_getElem? (i := 20) (by decide +kernel), List.mem_of_getElem? (i := 430) (by decide +kernel), List.mem_of_getElem? (i := 431) (by decide +kernel)⟩
theorem lw_p5 : lw_okq (⟨"SequenceMatch$Search", "release", "(I)V"⟩, 13) := ⟨⟨by decide +kernel, by decide +kernel⟩, List.mem_of_getElem? (i := 76) (by decide +kernel), List.mem_of_getElem? (i := 470) (by decide +kernel), List.mem_of_getElem? (i := 471) (by decide +kernel)⟩
theorem lw_p6 : lw_okq (⟨"SequenceMatch$Search", "choose", "(I)Z"⟩, 13) := ⟨⟨by decide +kernel, by decide +kernel⟩, List.mem_of_getElem? (i := 76) (by decide +kernel), List.mem_of_getElem? (i := 491) (by decide +kernel), List.mem_of_getElem? (i := 492) (by decide +kernel)⟩
theorem lw_p7 : lw_okq (⟨"SequenceMatch$Search", "firstChoice", "(I)I"⟩, 13) := ⟨⟨by decide +kernel, by decide +kernel⟩, List.mem_of_getElem? (i := 76) (by decide +kernel), List.mem_of_getElem? (i := 495) (by decide +kernel), List.mem_of_getElem? (i := 496) (by decide +kernel)⟩
theorem lw_p8 : lw_okq (⟨"SequenceMatch$Search", "laterChoice", "(I)I"⟩, 13) := ⟨⟨by decide +kernel, by decide +kernel⟩, List.mem_of_getElem? (i := 76) (by decide +kernel), List.mem_of_getElem? (i := 506) (by decide +kernel), List.mem_of_getElem? (i := 507) (by decide +kernel)⟩
theorem lw_p9 : lw_okq (⟨"SequenceMatch$Search", "makeTry", "(I)I"⟩, 13) := ⟨⟨by decide +kernel, by decide +kernel⟩, List.mem_of_getElem? (i := 76) (by decide +kernel), List.mem_of_getElem? (i := 530) (by decide +kernel), List.mem_of_getElem? (i := 531) (by decide +kernel)⟩
theorem lw_p10 : lw_okq (⟨"SequenceMatch$Search", "gatherRow", "(I)V"⟩, 13) := ⟨⟨by decide +kernel, by decide +kernel⟩, List.mem_of_getElem? (i := 76) (by decide +kernel), List.mem_of_getElem? (i := 534) (by decide +kernel), List.mem_of_getElem? (i := 535) (by decide +kernel)⟩
theorem lw_p11 : lw_okq (⟨"SequenceMatch$Search", "fitsHole", "(II)Z"⟩, 13) := ⟨⟨by decide +kernel, by decide +kernel⟩, List.mem_of_getElem? (i := 76) (by decide +kernel), List.mem_of_getElem? (i := 540) (by decide +kernel), List.mem_of_getElem? (i := 541) (by decide +kernel)⟩
theorem lw_p12 : lw_okq (⟨"SequenceMatch$Forest", "passes", "(II[II)Z"⟩, 13) := ⟨⟨by decide +kernel, by decide +kernel⟩, List.mem_of_getElem? (i := 28) (by decide +kernel), List.mem_of_getElem? (i := 552) (by decide +kernel), List.mem_of_getElem? (i := 553) (by decide +kernel)⟩
theorem lw_p13 : lw_okq (⟨"SequenceMatch$Search", "fitsLeafOrNode", "(II)Z"⟩, 13) := ⟨⟨by decide +kernel, by decide +kernel⟩, List.mem_of_getElem? (i := 76) (by decide +kernel), List.mem_of_getElem? (i := 577) (by decide +kernel), List.mem_of_getElem? (i := 578) (by decide +kernel)⟩
theorem lw_p14 : lw_okq (⟨"SequenceMatch$Search", "rowsEndHere", "(I)Z"⟩, 13) := ⟨⟨by decide +kernel, by decide +kernel⟩, List.mem_of_getElem? (i := 76) (by decide +kernel), List.mem_of_getElem? (i := 588) (by decide +kernel), List.mem_of_getElem? (i := 589) (by decide +kernel)⟩
theorem lw_p15 : lw_okq (⟨"SequenceMatch", "requireMatch", "(I)V"⟩, 6) := ⟨⟨by decide +kernel, by decide +kernel⟩, List.mem_of_getElem? (i := 20) (by decide +kernel), List.mem_of_getElem? (i := 621) (by decide +kernel), List.mem_of_getElem? (i := 622) (by decide +kernel)⟩
def lw_privs_1 : List (MethodName × Nat) := [(⟨"java/lang/Throwable", "fillInStackTrace", "(I)Ljava/lang/Throwable;"⟩, 6), (⟨"SequenceMatch", "newTree", "(III)I"⟩, 6), (⟨"SequenceMatch", "requireTree", "(I)V"⟩, 6), (⟨"SequenceMatch$Forest", "placeFor", "(II)I"⟩, 13), (⟨"SequenceMatch", "requirePlain", "(I)V"⟩, 6), (⟨"SequenceMatch$Search", "release", "(I)V"⟩, 13), (⟨"SequenceMatch$Search", "choose", "(I)Z"⟩, 13), (⟨"SequenceMatch$Search", "firstChoice", "(I)I"⟩, 13), (⟨"SequenceMatch$Search", "laterChoice", "(I)I"⟩, 13), (⟨"SequenceMatch$Search", "makeTry", "(I)I"⟩, 13), (⟨"SequenceMatch$Search", "gatherRow", "(I)V"⟩, 13), (⟨"SequenceMatch$Search", "fitsHole", "(II)Z"⟩, 13), (⟨"SequenceMatch$Forest", "passes", "(II[II)Z"⟩, 13), (⟨"SequenceMatch$Search", "fitsLeafOrNode", "(II)Z"⟩, 13), (⟨"SequenceMatch$Search", "rowsEndHere", "(I)Z"⟩, 13), (⟨"SequenceMatch", "requireMatch", "(I)V"⟩, 6)]
theorem lw_r1 : ∀ q ∈ lw_privs_1, lw_okq q := List.forall_mem_cons.mpr ⟨lw_p0, List.forall_mem_cons.mpr ⟨lw_p1, List.forall_mem_cons.mpr ⟨lw_p2, List.forall_mem_cons.mpr ⟨lw_p3, List.forall_mem_cons.mpr ⟨lw_p4, List.forall_mem_cons.mpr ⟨lw_p5, List.forall_mem_cons.mpr ⟨lw_p6, List.forall_mem_cons.mpr ⟨lw_p7, List.forall_mem_cons.mpr ⟨lw_p8, List.forall_mem_cons.mpr ⟨lw_p9, List.forall_mem_cons.mpr ⟨lw_p10, List.forall_mem_cons.mpr ⟨lw_p11, List.forall_mem_cons.mpr ⟨lw_p12, List.forall_mem_cons.mpr ⟨lw_p13, List.forall_mem_cons.mpr ⟨lw_p14, List.forall_mem_cons.mpr ⟨lw_p15, fun _ h => absurd h List.not_mem_nil⟩⟩⟩⟩⟩⟩⟩⟩⟩⟩⟩⟩⟩⟩⟩⟩
theorem lw_p16 : lw_okq (⟨"SequenceMatch$Forest", "hasFittingCount", "(II)Z"⟩, 13) := ⟨⟨by decide +kernel, by decide +kernel⟩, List.mem_of_getElem? (i := 28) (by decide +kernel), List.mem_of_getElem? (i := 667) (by decide +kernel), List.mem_of_getElem? (i := 668) (by decide +kernel)⟩
theorem lw_p17 : lw_okq (⟨"SequenceMatch$Forest", "hasFittingStart", "(II)Z"⟩, 13) := ⟨⟨by decide +kernel, by decide +kernel⟩, List.mem_of_getElem? (i := 28) (by decide +kernel), List.mem_of_getElem? (i := 672) (by decide +kernel), List.mem_of_getElem? (i := 673) (by decide +kernel)⟩
theorem lw_p18 : lw_okq (⟨"SequenceMatchModel", "tree", "(IIZ)I"⟩, 44) := ⟨⟨by decide +kernel, by decide +kernel⟩, List.mem_of_getElem? (i := 708) (by decide +kernel), List.mem_of_getElem? (i := 855) (by decide +kernel), List.mem_of_getElem? (i := 856) (by decide +kernel)⟩
theorem lw_p19 : lw_okq (⟨"SequenceMatchModel", "noTree", "(I)Z"⟩, 44) := ⟨⟨by decide +kernel, by decide +kernel⟩, List.mem_of_getElem? (i := 708) (by decide +kernel), List.mem_of_getElem? (i := 871) (by decide +kernel), List.mem_of_getElem? (i := 872) (by decide +kernel)⟩
theorem lw_p20 : lw_okq (⟨"SequenceMatchModel", "compare", "(II)I"⟩, 44) := ⟨⟨by decide +kernel, by decide +kernel⟩, List.mem_of_getElem? (i := 708) (by decide +kernel), List.mem_of_getElem? (i := 878) (by decide +kernel), List.mem_of_getElem? (i := 879) (by decide +kernel)⟩
theorem lw_p21 : lw_okq (⟨"SequenceMatchModel", "search", "(III)V"⟩, 44) := ⟨⟨by decide +kernel, by decide +kernel⟩, List.mem_of_getElem? (i := 708) (by decide +kernel), List.mem_of_getElem? (i := 890) (by decide +kernel), List.mem_of_getElem? (i := 891) (by decide +kernel)⟩
theorem lw_p22 : lw_okq (⟨"SequenceMatchModel", "tries", "()Z"⟩, 44) := ⟨⟨by decide +kernel, by decide +kernel⟩, List.mem_of_getElem? (i := 708) (by decide +kernel), List.mem_of_getElem? (i := 894) (by decide +kernel), List.mem_of_getElem? (i := 895) (by decide +kernel)⟩
theorem lw_p23 : lw_okq (⟨"SequenceMatchModel", "puts", "(III)I"⟩, 44) := ⟨⟨by decide +kernel, by decide +kernel⟩, List.mem_of_getElem? (i := 708) (by decide +kernel), List.mem_of_getElem? (i := 898) (by decide +kernel), List.mem_of_getElem? (i := 899) (by decide +kernel)⟩
theorem lw_p24 : lw_okq (⟨"SequenceMatchModel", "binds", "(II)Z"⟩, 44) := ⟨⟨by decide +kernel, by decide +kernel⟩, List.mem_of_getElem? (i := 708) (by decide +kernel), List.mem_of_getElem? (i := 902) (by decide +kernel), List.mem_of_getElem? (i := 903) (by decide +kernel)⟩
theorem lw_p25 : lw_okq (⟨"SequenceMatchModel", "testHolds", "(III)Z"⟩, 44) := ⟨⟨by decide +kernel, by decide +kernel⟩, List.mem_of_getElem? (i := 708) (by decide +kernel), List.mem_of_getElem? (i := 906) (by decide +kernel), List.mem_of_getElem? (i := 907) (by decide +kernel)⟩
theorem lw_p26 : lw_okq (⟨"SequenceMatchModel", "goal", "(IIIII)I"⟩, 44) := ⟨⟨by decide +kernel, by decide +kernel⟩, List.mem_of_getElem? (i := 708) (by decide +kernel), List.mem_of_getElem? (i := 910) (by decide +kernel), List.mem_of_getElem? (i := 911) (by decide +kernel)⟩
theorem lw_p27 : lw_okq (⟨"SequenceMatchModel", "keepMatch", "()V"⟩, 44) := ⟨⟨by decide +kernel, by decide +kernel⟩, List.mem_of_getElem? (i := 708) (by decide +kernel), List.mem_of_getElem? (i := 914) (by decide +kernel), List.mem_of_getElem? (i := 915) (by decide +kernel)⟩
theorem lw_p28 : lw_okq (⟨"SequenceMatchModel", "otherwise", "()I"⟩, 44) := ⟨⟨by decide +kernel, by decide +kernel⟩, List.mem_of_getElem? (i := 708) (by decide +kernel), List.mem_of_getElem? (i := 918) (by decide +kernel), List.mem_of_getElem? (i := 919) (by decide +kernel)⟩
theorem lw_p29 : lw_okq (⟨"SequenceMatchModel", "backTo", "(II)V"⟩, 44) := ⟨⟨by decide +kernel, by decide +kernel⟩, List.mem_of_getElem? (i := 708) (by decide +kernel), List.mem_of_getElem? (i := 922) (by decide +kernel), List.mem_of_getElem? (i := 923) (by decide +kernel)⟩
theorem lw_p30 : lw_okq (⟨"SequenceMatchModel", "takenNext", "(II)I"⟩, 44) := ⟨⟨by decide +kernel, by decide +kernel⟩, List.mem_of_getElem? (i := 708) (by decide +kernel), List.mem_of_getElem? (i := 926) (by decide +kernel), List.mem_of_getElem? (i := 927) (by decide +kernel)⟩
theorem lw_p31 : lw_okq (⟨"SequenceMatchModel", "leftOf", "(I)I"⟩, 44) := ⟨⟨by decide +kernel, by decide +kernel⟩, List.mem_of_getElem? (i := 708) (by decide +kernel), List.mem_of_getElem? (i := 930) (by decide +kernel), List.mem_of_getElem? (i := 931) (by decide +kernel)⟩
def lw_privs_2 : List (MethodName × Nat) := [(⟨"SequenceMatch$Forest", "hasFittingCount", "(II)Z"⟩, 13), (⟨"SequenceMatch$Forest", "hasFittingStart", "(II)Z"⟩, 13), (⟨"SequenceMatchModel", "tree", "(IIZ)I"⟩, 44), (⟨"SequenceMatchModel", "noTree", "(I)Z"⟩, 44), (⟨"SequenceMatchModel", "compare", "(II)I"⟩, 44), (⟨"SequenceMatchModel", "search", "(III)V"⟩, 44), (⟨"SequenceMatchModel", "tries", "()Z"⟩, 44), (⟨"SequenceMatchModel", "puts", "(III)I"⟩, 44), (⟨"SequenceMatchModel", "binds", "(II)Z"⟩, 44), (⟨"SequenceMatchModel", "testHolds", "(III)Z"⟩, 44), (⟨"SequenceMatchModel", "goal", "(IIIII)I"⟩, 44), (⟨"SequenceMatchModel", "keepMatch", "()V"⟩, 44), (⟨"SequenceMatchModel", "otherwise", "()I"⟩, 44), (⟨"SequenceMatchModel", "backTo", "(II)V"⟩, 44), (⟨"SequenceMatchModel", "takenNext", "(II)I"⟩, 44), (⟨"SequenceMatchModel", "leftOf", "(I)I"⟩, 44)]
theorem lw_r2 : ∀ q ∈ lw_privs_2, lw_okq q := List.forall_mem_cons.mpr ⟨lw_p16, List.forall_mem_cons.mpr ⟨lw_p17, List.forall_mem_cons.mpr ⟨lw_p18, List.forall_mem_cons.mpr ⟨lw_p19, List.forall_mem_cons.mpr ⟨lw_p20, List.forall_mem_cons.mpr ⟨lw_p21, List.forall_mem_cons.mpr ⟨lw_p22, List.forall_mem_cons.mpr ⟨lw_p23, List.forall_mem_cons.mpr ⟨lw_p24, List.forall_mem_cons.mpr ⟨lw_p25, List.forall_mem_cons.mpr ⟨lw_p26, List.forall_mem_cons.mpr ⟨lw_p27, List.forall_mem_cons.mpr ⟨lw_p28, List.forall_mem_cons.mpr ⟨lw_p29, List.forall_mem_cons.mpr ⟨lw_p30, List.forall_mem_cons.mpr ⟨lw_p31, fun _ h => absurd h List.not_mem_nil⟩⟩⟩⟩⟩⟩⟩⟩⟩⟩⟩⟩⟩⟩⟩⟩
theorem lw_p32 : lw_okq (⟨"SequenceMatchModel", "severals", "(I)Z"⟩, 44) := ⟨⟨by decide +kernel, by decide +kernel⟩, List.mem_of_getElem? (i := 708) (by decide +kernel), List.mem_of_getElem? (i := 937) (by decide +kernel), List.mem_of_getElem? (i := 938) (by decide +kernel)⟩
theorem lw_p33 : lw_okq (⟨"SequenceMatchModel", "may", "(II)Z"⟩, 44) := ⟨⟨by decide +kernel, by decide +kernel⟩, List.mem_of_getElem? (i := 708) (by decide +kernel), List.mem_of_getElem? (i := 967) (by decide +kernel), List.mem_of_getElem? (i := 968) (by decide +kernel)⟩
def lw_privs_3 : List (MethodName × Nat) := [(⟨"SequenceMatchModel", "severals", "(I)Z"⟩, 44), (⟨"SequenceMatchModel", "may", "(II)Z"⟩, 44)]
theorem lw_r3 : ∀ q ∈ lw_privs_3, lw_okq q := List.forall_mem_cons.mpr ⟨lw_p32, List.forall_mem_cons.mpr ⟨lw_p33, fun _ h => absurd h List.not_mem_nil⟩⟩
def lw_privs : List (MethodName × Nat) := lw_privs_1 ++ (lw_privs_2 ++ (lw_privs_3))
def lw_tbl : List Cond := k2_sels lw_privs ++ tables_1
theorem lw_privs_ok : ∀ q ∈ lw_privs, lw_okq q := by
  show ∀ q ∈ lw_privs_1 ++ (lw_privs_2 ++ (lw_privs_3)), lw_okq q
  exact List.forall_mem_append.mpr ⟨lw_r1, List.forall_mem_append.mpr ⟨lw_r2, lw_r3⟩⟩

/-! ===== BEGIN words of one list among another's, by their places ===== -/
theorem goodIn_r {big : List Cond} (ws : List Cond) (ps : List Nat) (hp : ws = ps.filterMap (fun i => big[i]?)) (h : ws.all goodWord = true) : GoodIn big ws := by
  intro w hw
  have h1 := List.all_eq_true.mp h w hw
  rw [hp] at hw
  obtain ⟨i, -, hi⟩ := List.mem_filterMap.mp hw
  have hm : w ∈ big := by first | exact List.mem_of_getElem? hi | exact List.getElem?_mem hi
  exact ⟨hm, good_of_word h1⟩
theorem goodIn_app {big a b : List Cond} (ha : GoodIn big a) (hb : GoodIn big b) : GoodIn big (a ++ b) := fun w h => (List.mem_append.mp h).elim (ha w) (hb w)
theorem goodIn_ca {big a b : List Cond} {c : Cond} (ha : GoodIn big (c :: a)) (hb : GoodIn big b) : GoodIn big (c :: (a ++ b)) := fun w h => (List.mem_cons.mp h).elim (fun e => ha w (List.mem_cons.mpr (Or.inl e))) (fun h => (List.mem_append.mp h).elim (fun h => ha w (List.mem_cons.mpr (Or.inr h))) (hb w))
theorem goodIn_sub {big ws : List Cond} (hm : ∀ w ∈ ws, w ∈ big) (h : ws.all goodWord = true) : GoodIn big ws := fun w hw => ⟨hm w hw, good_of_word (List.all_eq_true.mp h w hw)⟩
/-! ===== END ===== -/

/-! ===== BEGIN exceptions that leave a method, and their catching by the caller (launches without stack traces) ===== -/
section VXA
/-! The laws vx_back, vx_callV, vx_callS, vx_callSW, vx_throw0, vx_throwS follow proofs of the library, with one case more: JvmDerived/Free/Laws.lean (Back.of_free), Shelf42/LK1.lean (callV, callS), Shelf/KitTraced.lean (throwNew0V, throwNewS). -/
/-- where a method has thrown q: the class by its name, the cell, what was written, the world -/
def vx_T (XC : String → State → State → Prop) (st : State) (q : Addr) (t : State) (mc ms : Nat) (free : Addr → Prop) : Prop :=
  ∃ (E : String) (ce : Cell) (L : List Loc), XC E st t ∧ t.heap[q]? = some ce ∧ ce.vm = .none ∧ st.vm.findClass E = some ce.cls ∧ st.WarmedH t.vm ∧ st.sameButNew ({ t with vm := st.vm } : State) L mc ms ∧ ∀ z ∈ L, free z.base
def vx_Q (Qc : Array Value → State → Outcome → State → Prop) (XC : String → State → State → Prop) (mc ms : Nat) (free : Addr → Prop) : Array Value → State → Outcome → State → Prop := fun a st o t =>
  (Qc a st o t ∧ ∃ L, FrameEnd st o t L mc ms ∧ ∀ q ∈ L, free q.base) ∨ ∃ q, o = .threw q ∧ vx_T XC st q t mc ms free
/-- a callee that returns or throws -/
def vx_Met (l : Launch) (y : MethodName) (ws : List Cond) (rm : Room) (Pc : Array Value → State → Prop) (Qc : Array Value → State → Outcome → State → Prop) (XC : String → State → State → Prop) (mc ms : Nat) (free : Addr → Prop) : Prop :=
  MetFree l y (headSpec ws rm) Pc (fun _ _ _ _ _ => True) (vx_Q Qc XC mc ms free)
def vx_Post (XC : String → State → State → Prop) (mc ms : Nat) (free : Addr → Prop) : Pt → Array Value → Addr → Pt → Prop := fun A a q B =>
  ∃ (g : JFrame) (mk : MethodId) (t : State) (L : List Loc) (E : String) (ce : Cell), B.U.heap = t.heap ∧ B.U.vm = t.vm ∧ XC E (A.U.calling g mk a) t ∧ t.heap[q]? = some ce ∧ ce.vm = .none ∧ A.U.vm.findClass E = some ce.cls ∧ B.locs = A.locs ++ L ∧ (∀ z ∈ L, free z.base) ∧ B.cells = A.cells + mc ∧ B.slots = A.slots + ms
def vx_Back (l : Launch) (R : Room) (p : Program) (e : Env) (below : List Frame) (s : State) (sargs : Array Value) (y : MethodName) (len W9 : Nat)
    (Pre : Pt → Array Value → Prop) (Post : Pt → Array Value → Option Value → Pt → Prop) (PostX : Pt → Array Value → Addr → Pt → Prop) : Prop :=
  ∀ (m : MethodId) (meth : Method) (c : Code) (A : Pt) (g : JFrame) (ig : Instr) (mk : MethodId) (a : Array Value),
    Stand p l e R s m sargs below meth c A.U A.locs A.cells A.slots → g.method = m → g.locals.size = c.maxLocals → decode c.code g.pc = .ok (ig, len) →
    2 * g.monitorRoom + (g.stack.map fun v => v.category).sum ≤ W9 → A.U.methodNamed? y = some mk → Pre A a →
    (∃ (v : Option Value) (B : Pt), Stand p l e R s m sargs below meth c B.U B.locs B.cells B.slots ∧ Post A a v B ∧
      Steps p.tables e below (doInvoke e (A.U.setTop g) [] mk a).1 (B.U.setTop { g with pc := g.pc + len, stack := v.toList ++ g.stack })) ∨
    (∃ (q : Addr) (B : Pt), Stand p l e R s m sargs below meth c B.U B.locs B.cells B.slots ∧ PostX A a q B ∧
      Steps p.tables e below (doInvoke e (A.U.setTop g) [] mk a).1 ((B.U.setTop g).pushFrame (.throwing q)))
section Payer
variable {l : Launch} {R : Room} {p : Program} {e : Env} {below : List Frame} {s : State} {sargs : Array Value} {y : MethodName} {len W9 : Nat}
theorem vx_back {ws : List Cond} {rm : Room} {Pc : Array Value → State → Prop} {Qc : Array Value → State → Outcome → State → Prop} {XC : String → State → State → Prop} {mc ms : Nat} {free : Addr → Prop} {bytes : ByteArray} {maxL : Nat} {ret : Option FieldType}
    (hM : vx_Met l y ws rm Pc Qc XC mc ms free) (hblind : FrameBlind Pc) (hrc : rm.cells = mc) (hrs : rm.slots = ms)
    (hframes : rm.frames + 1 ≤ R.frames) (hlocals : W9 + (maxL + 11) + rm.locals ≤ R.locals)
    (hws : ∀ w ∈ ws, ∀ a' U, s.WarmedH U.vm → w.before a' U = true) (hcode : Cond.code y bytes maxL ret ∈ ws) (hinit : ∀ a' U, s.WarmedH U.vm → (Cond.initialized y.cls).before a' U = true) :
    vx_Back l R p e below s sargs y len W9 (PreOf R mc ms Pc) (PostOf Qc mc ms free) (vx_Post XC mc ms free) := by
  intro m meth c A g ig mk a X hg hsize hdg hW hn hp
  have h1 : (headSpec ws rm).pre.before a A.U = true := atoms_intro fun w hw => hws w hw _ _ X.warmed
  have h2 : (Cond.code y bytes maxL ret).before a A.U = true := hws _ hcode _ _ X.warmed
  have h3 : (Cond.initialized y.cls).before a A.U = true := hinit _ _ X.warmed
  have h4 : A.cells + (headSpec ws rm).room.cells ≤ R.cells := by rw [show (headSpec ws rm).room.cells = mc from hrc]; exact hp.1
  have h5 : A.slots + (headSpec ws rm).room.slots ≤ R.slots := by rw [show (headSpec ws rm).room.slots = ms from hrs]; exact hp.2.1
  have hPc : Pc a (A.U.calling g mk a) := hblind _ _ _ _ hp.2.2
  obtain ⟨U, Ls, c0, s0⟩ := A
  dsimp only [Pt.U, Pt.locs, Pt.cells, Pt.slots] at h1 h2 h3 h4 h5 X hn hPc ⊢
  obtain ⟨methY, cY, hmY, hcY, -, hlY, -, -, -, -⟩ := Cond.code_spec hn h2
  obtain ⟨kY, hkY, -⟩ := className_of_methodNamed hn
  have hinitY : kY.init = .initialized := Cond.initialized_spec (findClass_of_methodNamed hn) hkY h3
  have h : At U g.method c below := by rw [hg]; exact X.here
  have hlocals9 : W9 + (maxL + 11) + (headSpec ws rm).room.locals ≤ R.locals := hlocals
  have happ : (headSpec ws rm).appliesLoose y e.platform (U.calling g mk a) = true :=
    Spec.appliesLoose_calling (g := g) h hdg hn hkY hinitY
      (X.room_calling (g := g) (R' := (headSpec ws rm).room) hsize hmY hcY hframes (by rw [hlY]; omega) h4 h5) h1
  obtain ⟨mid, hmid⟩ := h.above
  have hfr : (U.setTop g).frames = (.java g :: mid) ++ below := by rw [State.frames_setTop' g h.top, hmid]; rfl
  obtain ⟨o, s₂, hsteps, -, hend, hq⟩ := Steps.callFree hM p X.admits X.cas X.clock (acts := []) hfr happ hPc trivial
  have hq' : vx_Q Qc XC mc ms free a (U.calling g mk a) o s₂ := hq
  rw [State.frames_setTop' g h.top] at hend
  obtain ⟨g₀, hg0⟩ := Option.isSome_iff_exists.mp h.top
  obtain ⟨r, hr⟩ := State.topJava?_eq_some.mp hg0
  have hr' : (({ U with heap := s₂.heap, slotsUsed := s₂.slotsUsed } : State).setVm s₂.vm).frames = .java g₀ :: r := hr
  rcases hq' with ⟨hqc, L, hfe, hL⟩ | ⟨q, rfl, E, ce, L, hx, hce, hcv, hcl, hW₂, hsm, hL⟩
  · obtain ⟨⟨v, rfl⟩, hW₂, e2, q2, q3, q4, q5, q6⟩ := id hfe
    have e3 : s₂ = ({ (U.calling g mk a).setFrames s₂.frames with heap := s₂.heap, slotsUsed := s₂.slotsUsed } : State).setVm s₂.vm := by
      have : s₂ = ({ s₂ with vm := (U.calling g mk a).vm } : State).setVm s₂.vm := rfl
      rw [e2] at this
      exact this
    obtain ⟨c₂, i₂, len₂, hc₂, hd₂, hf₂⟩ := hend
    have hW' : U.WarmedH s₂.vm := hW₂
    have hcc : c₂ = c := by
      have h1 : s₂.code? g.method = U.code? g.method := by
        rw [State.code?_eq, State.code?_eq, hW'.alike.method?]
      exact Option.some.inj (hc₂.symm.trans (h1.trans h.code))
    subst hcc
    have hlen : len₂ = len := by rw [hdg] at hd₂; cases hd₂; rfl
    subst hlen
    have hs₂ : s₂ = (({ U with heap := s₂.heap, slotsUsed := s₂.slotsUsed } : State).setVm s₂.vm).setTop { g with pc := g.pc + len₂, stack := v.toList ++ g.stack } := by
      refine e3.trans ?_
      rw [hf₂, State.calling_eq h.top, State.setFrames_setFrames, State.setTop_of_frames _ hr', hr]
      rfl
    have hsame : U.sameButNew ({ U with heap := s₂.heap, slotsUsed := s₂.slotsUsed } : State) L mc ms := by
      refine ⟨?_, q2, q3, q4, q5, q6⟩
      obtain ⟨t, ht, -⟩ := State.frames_cons hr
      show ({ U with heap := s₂.heap, slotsUsed := s₂.slotsUsed } : State) = { U.setFrames U.frames with heap := s₂.heap, slotsUsed := s₂.slotsUsed }
      rw [State.setFrames_self ht]
    subst hg
    refine Or.inl ⟨v, ⟨(({ U with heap := s₂.heap, slotsUsed := s₂.slotsUsed } : State).setVm s₂.vm), Ls ++ L, c0 + mc, s0 + ms⟩,
      ⟨X.admits, X.cas, X.clock, X.frames, X.room, X.hears, X.method, X.code, (X.here.setHeapUsed s₂.heap s₂.slotsUsed).setVm hW'.alike, X.tail, State.WarmedH.trans X.warmed hW', X.limits, X.bytes, X.same.trans (hsame.setVm s.vm)⟩,
      ⟨g, mk, s₂, L, rfl, rfl, hqc, rfl, hL, rfl, rfl⟩, ?_⟩
    show Steps p.tables e below _ ((({ U with heap := s₂.heap, slotsUsed := s₂.slotsUsed } : State).setVm s₂.vm).setTop { g with pc := g.pc + len₂, stack := v.toList ++ g.stack })
    rw [← hs₂]
    exact hsteps
  · obtain ⟨e2, q2, q3, q4, q5, q6⟩ := id hsm
    have e3 : s₂ = ({ (U.calling g mk a).setFrames s₂.frames with heap := s₂.heap, slotsUsed := s₂.slotsUsed } : State).setVm s₂.vm := by
      have : s₂ = ({ s₂ with vm := (U.calling g mk a).vm } : State).setVm s₂.vm := rfl
      rw [e2] at this
      exact this
    have hf₂ : s₂.frames = .throwing q :: .java g :: U.frames.tail := hend
    have hW' : U.WarmedH s₂.vm := hW₂
    have hs₂ : s₂ = ((({ U with heap := s₂.heap, slotsUsed := s₂.slotsUsed } : State).setVm s₂.vm).setTop g).pushFrame (.throwing q) := by
      refine e3.trans ?_
      rw [hf₂, State.calling_eq h.top, State.setFrames_setFrames, State.pushFrame, State.frames_setTop _ hr', State.setTop_of_frames _ hr', State.setFrames_setFrames, hr]
      rfl
    have hsame : U.sameButNew ({ U with heap := s₂.heap, slotsUsed := s₂.slotsUsed } : State) L mc ms := by
      refine ⟨?_, q2, q3, q4, q5, q6⟩
      obtain ⟨t, ht, -⟩ := State.frames_cons hr
      show ({ U with heap := s₂.heap, slotsUsed := s₂.slotsUsed } : State) = { U.setFrames U.frames with heap := s₂.heap, slotsUsed := s₂.slotsUsed }
      rw [State.setFrames_self ht]
    subst hg
    refine Or.inr ⟨q, ⟨(({ U with heap := s₂.heap, slotsUsed := s₂.slotsUsed } : State).setVm s₂.vm), Ls ++ L, c0 + mc, s0 + ms⟩,
      ⟨X.admits, X.cas, X.clock, X.frames, X.room, X.hears, X.method, X.code, (X.here.setHeapUsed s₂.heap s₂.slotsUsed).setVm hW'.alike, X.tail, State.WarmedH.trans X.warmed hW', X.limits, X.bytes, X.same.trans (hsame.setVm s.vm)⟩,
      ⟨g, mk, s₂, L, E, ce, rfl, rfl, hx, hce, hcv, hcl, rfl, hL, rfl, rfl⟩, ?_⟩
    show Steps p.tables e below _ (((({ U with heap := s₂.heap, slotsUsed := s₂.slotsUsed } : State).setVm s₂.vm).setTop g).pushFrame (.throwing q))
    rw [← hs₂]
    exact hsteps
end Payer
section Calls
variable {p : Program} {l : Launch} {e : Env} {R : Room} {s : State} {m : MethodId} {args : Array Value} {below : List Frame} {meth : Method} {c : Code} {T : State} {locs : List Loc} {cells slots : Nat}
theorem vx_callV (X : Stand p l e R s m args below meth c T locs cells slots) (hexec : p.tables.exec = Jvm.exec) {own C : String} {index : Nat} {y : MethodName} {bytes : ByteArray} {maxL : Nat} {ret : Option FieldType}
    (hown : s.vm.findClass own = some m.cls) (hlink : (Cond.methodLink own index y).before args s = true) (hinst : (Cond.instanceMethod y).before args s = true) (hsel : (Cond.selects C y y).before args s = true)
    (hcode : (Cond.code y bytes maxL ret).before args s = true) (hy : y.cls ≠ "java/lang/invoke/MethodHandle" ∧ y.cls ≠ "java/lang/invoke/VarHandle")
    {W9 : Nat} {Pre : Pt → Array Value → Prop} {Post : Pt → Array Value → Option Value → Pt → Prop} {PostX : Pt → Array Value → Addr → Pt → Prop} (hK : vx_Back l R p e below s args y 3 W9 Pre Post PostX)
    {b : Addr} {cellB : Cell} (hcell : T.heap[b]? = some cellB) (hobj : cellB.vm.isStatics = false) (hcls : s.vm.findClass C = some cellB.cls)
    {g : JFrame} (hg : g.method = m) (hsize : g.locals.size = c.maxLocals) {argsL rest : List Value} (hlen : ∀ sig, parseMethodDescriptor y.desc = some sig → argsL.length = sig.parameters.length)
    (hstack : g.stack = argsL.reverse ++ .ref b :: rest) (hW : 2 * g.monitorRoom + (rest.map fun v => v.category).sum ≤ W9) (hdg : decode c.code g.pc = .ok (.invokevirtual index, 3))
    (hpre : ∀ vm₁, s.WarmedH vm₁ → Pre ⟨T.setVm vm₁, locs, cells, slots⟩ (Value.ref b :: argsL).toArray) :
    (∃ (v : Option Value) (vm₁ : Vm) (B : Pt), s.WarmedH vm₁ ∧ Stand p l e R s m args below meth c B.U B.locs B.cells B.slots ∧ Post ⟨T.setVm vm₁, locs, cells, slots⟩ (Value.ref b :: argsL).toArray v B ∧
      ∀ target, Steps p.tables e below (B.U.setTop { g with pc := g.pc + 3, stack := v.toList ++ rest }) target → Steps p.tables e below (T.setTop g) target) ∨
    (∃ (q : Addr) (vm₁ : Vm) (B : Pt), s.WarmedH vm₁ ∧ Stand p l e R s m args below meth c B.U B.locs B.cells B.slots ∧ PostX ⟨T.setVm vm₁, locs, cells, slots⟩ (Value.ref b :: argsL).toArray q B ∧
      Steps p.tables e below (T.setTop g) ((B.U.setTop { g with stack := rest }).pushFrame (.throwing q))) := by
  obtain ⟨mk, methM, hnamed, hmethM, hstM, habM⟩ := Cond.instanceMethod_spec hinst
  obtain ⟨methM', cM, hmethM', -, -, -, -, -, -, hsigM⟩ := Cond.code_spec hnamed hcode
  cases hmethM.symm.trans hmethM'
  obtain ⟨c2, r2, m2, q1, q2, q3, q4, kP, hkP, hkPi⟩ := Cond.selects_spec hsel
  cases hcls.symm.trans q1
  cases (State.methodFound?_of_named hnamed hy).symm.trans q2
  cases hnamed.symm.trans q3
  have hselP : selectMethod e.platform s.vm cellB.cls mk = .method mk := by rw [Launch.admits_selectMethod X.admits]; exact q4
  obtain ⟨vm₁, X₁, hstep₁⟩ := X.invokevirtual hexec hown hlink hnamed hmethM hstM hkP hkPi hy (a := b) (cell := cellB) hcell
    (fun z h => by rw [h] at hobj; cases hobj) hselP hmethM habM hkP hkPi (g := g) hg (argsL := argsL) (rest := rest) (hlen _ hsigM) hstack hdg
  rcases hK m meth c ⟨T.setVm vm₁, locs, cells, slots⟩ { g with stack := rest } (.invokevirtual index) mk (Value.ref b :: argsL).toArray X₁ hg hsize hdg hW (X₁.named hnamed) (hpre vm₁ X₁.warmed) with ⟨v, B, X', hpost, hsteps⟩ | ⟨q, B, X', hpost, hsteps⟩
  · exact Or.inl ⟨v, vm₁, B, X₁.warmed, X', hpost, fun target h => hstep₁ _ fun acts => by rw [doInvoke_state]; exact hsteps.trans h⟩
  · exact Or.inr ⟨q, vm₁, B, X₁.warmed, X', hpost, hstep₁ _ fun acts => by rw [doInvoke_state]; exact hsteps⟩
theorem vx_callS (X : Stand p l e R s m args below meth c T locs cells slots) (hexec : p.tables.exec = Jvm.exec) {own : String} {index : Nat} {y : MethodName} {bytes : ByteArray} {maxL : Nat} {ret : Option FieldType}
    (hown : s.vm.findClass own = some m.cls) (hlink : (Cond.methodLink own index y).before args s = true) (hstat : (Cond.static y).before args s = true) (hinit : (Cond.initialized y.cls).before args s = true)
    (hcode : (Cond.code y bytes maxL ret).before args s = true) (hy : y.cls ≠ "java/lang/invoke/MethodHandle" ∧ y.cls ≠ "java/lang/invoke/VarHandle")
    {W9 : Nat} {Pre : Pt → Array Value → Prop} {Post : Pt → Array Value → Option Value → Pt → Prop} {PostX : Pt → Array Value → Addr → Pt → Prop} (hK : vx_Back l R p e below s args y 3 W9 Pre Post PostX)
    {g : JFrame} (hg : g.method = m) (hsize : g.locals.size = c.maxLocals) {argsL rest : List Value} (hlen : ∀ sig, parseMethodDescriptor y.desc = some sig → argsL.length = sig.parameters.length)
    (hstack : g.stack = argsL.reverse ++ rest) (hW : 2 * g.monitorRoom + (rest.map fun v => v.category).sum ≤ W9) (hdg : decode c.code g.pc = .ok (.invokestatic index, 3))
    (hpre : ∀ vm₁, s.WarmedH vm₁ → Pre ⟨T.setVm vm₁, locs, cells, slots⟩ argsL.toArray) :
    (∃ (v : Option Value) (vm₁ : Vm) (B : Pt), s.WarmedH vm₁ ∧ Stand p l e R s m args below meth c B.U B.locs B.cells B.slots ∧ Post ⟨T.setVm vm₁, locs, cells, slots⟩ argsL.toArray v B ∧
      ∀ target, Steps p.tables e below (B.U.setTop { g with pc := g.pc + 3, stack := v.toList ++ rest }) target → Steps p.tables e below (T.setTop g) target) ∨
    (∃ (q : Addr) (vm₁ : Vm) (B : Pt), s.WarmedH vm₁ ∧ Stand p l e R s m args below meth c B.U B.locs B.cells B.slots ∧ PostX ⟨T.setVm vm₁, locs, cells, slots⟩ argsL.toArray q B ∧
      Steps p.tables e below (T.setTop g) ((B.U.setTop { g with stack := rest }).pushFrame (.throwing q))) := by
  obtain ⟨mk, hnamed⟩ := Cond.code_named hcode
  obtain ⟨methM, cM, hmethM, -, -, -, -, -, -, hsigM⟩ := Cond.code_spec hnamed hcode
  have hstatic : methM.isStatic = true := Cond.static_spec hnamed hmethM hstat
  obtain ⟨kP, hkP, -⟩ := className_of_methodNamed hnamed
  have hinitP : kP.init = .initialized := Cond.initialized_spec (findClass_of_methodNamed hnamed) hkP hinit
  obtain ⟨vm₁, X₁, hstep₁⟩ := X.invokestatic hexec hown hlink hnamed hmethM hstatic hkP hinitP hy (g := g) hg (argsL := argsL) (rest := rest) (hlen _ hsigM) hstack hdg
  rcases hK m meth c ⟨T.setVm vm₁, locs, cells, slots⟩ { g with stack := rest } (.invokestatic index) mk argsL.toArray X₁ hg hsize hdg hW (X₁.named hnamed) (hpre vm₁ X₁.warmed) with ⟨v, B, X', hpost, hsteps⟩ | ⟨q, B, X', hpost, hsteps⟩
  · exact Or.inl ⟨v, vm₁, B, X₁.warmed, X', hpost, fun target h => hstep₁ _ fun acts => by rw [doInvoke_state]; exact hsteps.trans h⟩
  · exact Or.inr ⟨q, vm₁, B, X₁.warmed, X', hpost, hstep₁ _ fun acts => by rw [doInvoke_state]; exact hsteps⟩
end Calls
theorem vx_cls {s : State} {T : State} {vm₁ : Vm} {E : String} {k : ClassId} (hW : s.WarmedH vm₁) (h : (T.setVm vm₁).vm.findClass E = some k) : s.vm.findClass E = some k := by
  have h1 : vm₁.findClass E = some k := h
  rw [hW.alike.findClass] at h1
  exact h1
/-- the method's frame g, with q thrown over it -/
def vx_W (p : Program) (l : Launch) (e : Env) (R : Room) (s : State) (m : MethodId) (args : Array Value) (below : List Frame) (meth : Method) (c : Code) (H : Heap) (locs : List Loc) (cells slots : Nat) (Q : State → Prop) (g : JFrame) (q : Addr) : Prop :=
  ∀ T : State, T.heap = H → Stand p l e R s m args below meth c T locs cells slots → ∃ t, Steps p.tables e below ((T.setTop g).pushFrame (.throwing q)) t ∧ Q t
def vx_Run (p : Program) (l : Launch) (e : Env) (R : Room) (s : State) (m : MethodId) (args : Array Value) (below : List Frame) (meth : Method) (c : Code) (H : Heap) (locs : List Loc) (cells slots mc ms : Nat) (g : JFrame) (rest : List Value) (Qa : State → Outcome → State → Prop) (XC : String → State → State → Prop) (free : Addr → Prop) : Prop :=
  ∀ T : State, T.heap = H → Stand p l e R s m args below meth c T locs cells slots →
    (∃ (v : Option Value) (st₀ t T' : State) (L : List Loc), st₀.heap = H ∧ Stand p l e R s m args below meth c T' (locs ++ L) (cells + mc) (slots + ms) ∧ (∀ q ∈ L, free q.base) ∧ T'.heap = t.heap ∧ T'.vm = t.vm ∧ Qa st₀ (.returned v) t ∧
      Goes p e below T g T' { g with pc := g.pc + 3, stack := v.toList ++ rest }) ∨
    (∃ (q : Addr) (st₀ t T' : State) (L : List Loc) (E : String) (ce : Cell), st₀.heap = H ∧ Stand p l e R s m args below meth c T' (locs ++ L) (cells + mc) (slots + ms) ∧ (∀ z ∈ L, free z.base) ∧ T'.heap = t.heap ∧ T'.vm = t.vm ∧ XC E st₀ t ∧ t.heap[q]? = some ce ∧ ce.vm = .none ∧ s.vm.findClass E = some ce.cls ∧
      Steps p.tables e below (T.setTop g) ((T'.setTop { g with stack := rest }).pushFrame (.throwing q)))
def vx_X {S : Type} (px : S → Prop) (B : String → S → State → Prop) (A : Nat → Prop) : String → State → State → Prop := fun E st t => ∃ u : S, px u ∧ B E u t ∧ va_F A st t
section Runs
variable {p : Program} {l : Launch} {e : Env} {R : Room} {s : State} {m : MethodId} {args : Array Value} {below : List Frame} {meth : Method} {c : Code} {H : Heap} {locs : List Loc} {cells slots : Nat}
variable {y : MethodName} {bytes cc : ByteArray} {maxL nL mc ms n index : Nat} {ret : Option FieldType} {ws : List Cond} {rm : Room} {Pc : Array Value → State → Prop} {Qc : Array Value → State → Outcome → State → Prop} {XC : String → State → State → Prop} {free : Addr → Prop} {Ts : List Cond} {own C : String} {b : Addr} {As rest : List Value} {g : JFrame}
theorem vx_callBack (cb : CallB R s args own index y bytes maxL ret ws rm mc ms n) (hM : vx_Met l y ws rm Pc Qc XC mc ms free) (hbl : FrameBlind Pc) : vx_Back l R p e below s args y 3 8 (PreOf R mc ms Pc) (PostOf Qc mc ms free) (vx_Post XC mc ms free) := by
  obtain ⟨hrc, hrs, hfr, hlo, hws, hcw, -, hini, -⟩ := cb
  exact vx_back (bytes := bytes) (maxL := maxL) (ret := ret) hM hbl hrc hrs hfr hlo hws hcw (fun a' U hW => word_at hW (Or.inl (by first | rfl | simp [Cond.onTables, Cond.keeps, Cond.steady])) hini)
theorem vx_runV (S : CallFix p m c cc nL s args Ts own) (hM : vx_Met l y ws rm Pc Qc XC mc ms free) (cw : CallW R s args own C index y bytes maxL ret ws rm mc ms n) (hp : PreV s H C b Pc As)
    (hg : g.method = m) (hn : As.length = n) (hsize : g.locals.size = nL) (hstack : g.stack = As.reverse ++ .ref b :: rest) (hW : 2 * g.monitorRoom + (rest.map fun v => v.category).sum ≤ 8) (hdg : decode cc g.pc = .ok (.invokevirtual index, 3)) (hf : cells + mc ≤ R.cells ∧ slots + ms ≤ R.slots) :
    vx_Run p l e R s m args below meth c H locs cells slots mc ms g rest (Qc (Value.ref b :: As).toArray) XC free := by
  have hK : vx_Back l R p e below s args y 3 8 (PreOf R mc ms Pc) (PostOf Qc mc ms free) (vx_Post XC mc ms free) := vx_callBack cw.1 hM hp.1
  obtain ⟨⟨-, -, -, -, -, -, hcode, -, hy, hlen, hl⟩, hin, hse⟩ := cw
  obtain ⟨hx, hb, hml, ho, -⟩ := S
  obtain ⟨-, ⟨cellB, hcB, hoB, hclB⟩, hPc⟩ := hp
  intro T hT X
  rcases vx_callV X hx (C := C) (bytes := bytes) (maxL := maxL) (ret := ret) ho hl hin hse hcode hy hK (by rw [hT]; exact hcB) hoB hclB hg (hsize.trans hml.symm) (argsL := As) (rest := rest) (fun sig h => hn.trans (hlen sig h)) hstack hW (by rw [hb]; exact hdg)
    (fun vm₁ hW₁ => ⟨hf.1, hf.2, hPc (T.setVm vm₁) hT hW₁⟩) with ⟨v, vm₁, ⟨U', l2, c2, s2⟩, hW₁, X', ⟨g', mk, t, L, e1, e2, hq, h1, hL, h2, h3⟩, st⟩ | ⟨q, vm₁, ⟨U', l2, c2, s2⟩, hW₁, X', ⟨g', mk, t, L, E, ce, e1, e2, hq, hce, hcv, hcl, h1, hL, h2, h3⟩, st⟩
  · dsimp only [Pt.U, Pt.locs, Pt.cells, Pt.slots] at X' e1 e2 h1 h2 h3 st
    subst h1; subst h2; subst h3
    exact Or.inl ⟨v, (T.setVm vm₁).calling g' mk (Value.ref b :: As).toArray, t, U', L, hT, X', hL, e1, e2, hq, st⟩
  · dsimp only [Pt.U, Pt.locs, Pt.cells, Pt.slots] at X' e1 e2 h1 h2 h3 st hcl
    subst h1; subst h2; subst h3
    exact Or.inr ⟨q, (T.setVm vm₁).calling g' mk (Value.ref b :: As).toArray, t, U', L, E, ce, hT, X', hL, e1, e2, hq, hce, hcv, vx_cls hW₁ hcl, st⟩
theorem vx_runS (S : CallFix p m c cc nL s args Ts own) (hM : vx_Met l y ws rm Pc Qc XC mc ms free) (cw : CallB R s args own index y bytes maxL ret ws rm mc ms n ∧ (Cond.static y).before args s = true) (hp : PreS s H Pc As)
    (hg : g.method = m) (hn : As.length = n) (hsize : g.locals.size = nL) (hstack : g.stack = As.reverse ++ rest) (hW : 2 * g.monitorRoom + (rest.map fun v => v.category).sum ≤ 8) (hdg : decode cc g.pc = .ok (.invokestatic index, 3)) (hf : cells + mc ≤ R.cells ∧ slots + ms ≤ R.slots) :
    vx_Run p l e R s m args below meth c H locs cells slots mc ms g rest (Qc As.toArray) XC free := by
  have hK : vx_Back l R p e below s args y 3 8 (PreOf R mc ms Pc) (PostOf Qc mc ms free) (vx_Post XC mc ms free) := vx_callBack cw.1 hM hp.1
  obtain ⟨⟨-, -, -, -, -, -, hcode, hini, hy, hlen, hl⟩, hstt⟩ := cw
  obtain ⟨hx, hb, hml, ho, -⟩ := S
  intro T hT X
  rcases vx_callS X hx (bytes := bytes) (maxL := maxL) (ret := ret) ho hl hstt hini hcode hy hK hg (hsize.trans hml.symm) (argsL := As) (rest := rest) (fun sig h => hn.trans (hlen sig h)) hstack hW (by rw [hb]; exact hdg)
    (fun vm₁ hW₁ => ⟨hf.1, hf.2, hp.2 (T.setVm vm₁) hT hW₁⟩) with ⟨v, vm₁, ⟨U', l2, c2, s2⟩, hW₁, X', ⟨g', mk, t, L, e1, e2, hq, h1, hL, h2, h3⟩, st⟩ | ⟨q, vm₁, ⟨U', l2, c2, s2⟩, hW₁, X', ⟨g', mk, t, L, E, ce, e1, e2, hq, hce, hcv, hcl, h1, hL, h2, h3⟩, st⟩
  · dsimp only [Pt.U, Pt.locs, Pt.cells, Pt.slots] at X' e1 e2 h1 h2 h3 st
    subst h1; subst h2; subst h3
    exact Or.inl ⟨v, (T.setVm vm₁).calling g' mk As.toArray, t, U', L, hT, X', hL, e1, e2, hq, st⟩
  · dsimp only [Pt.U, Pt.locs, Pt.cells, Pt.slots] at X' e1 e2 h1 h2 h3 st hcl
    subst h1; subst h2; subst h3
    exact Or.inr ⟨q, (T.setVm vm₁).calling g' mk As.toArray, t, U', L, E, ce, hT, X', hL, e1, e2, hq, hce, hcv, vx_cls hW₁ hcl, st⟩
end Runs
section Rows
variable {p : Program} {l : Launch} {e : Env} {R : Room} {s : State} {m : MethodId} {args : Array Value} {below : List Frame} {meth : Method} {c : Code} {H : Heap} {locs : List Loc} {cells slots : Nat} {Q : State → Prop}
variable {mc ms : Nat} {free : Addr → Prop} {A0 A1 : Nat → Prop} {H0 : Heap} {a : Array Value} {pc : Nat} {ls : Array Slot} {st0 rest : List Value}
theorem vx_keep {st₀ t T' : State} {L : List Loc} (h0 : st₀.heap = H) (e1 : T'.heap = t.heap) (hS : va_S A0 H0 H locs) (hA : ∀ q, q < H.size → A1 q → A0 q) (hf : ∀ q, free q → A0 q) (hL : ∀ q ∈ L, free q.base) (hF : va_F A1 st₀ t) :
    H.size ≤ T'.heap.size ∧ (∀ q : Nat, q < H.size → ¬ A1 q → T'.heap[q]? = H[q]?) ∧ va_S A0 H0 T'.heap (locs ++ L) := by
  obtain ⟨hz, hk⟩ := hF
  rw [h0] at hz hk
  exact ⟨by rw [e1]; exact hz, fun q h1 h2 => by rw [e1]; exact hk q h1 h2,
    ⟨Nat.le_trans hS.1 (by rw [e1]; exact hz), fun q h1 h2 => by rw [e1, hk q (Nat.lt_of_lt_of_le h1 hS.1) (fun z => h2 (hA q (Nat.lt_of_lt_of_le h1 hS.1) z))]; exact hS.2.1 q h1 h2, fun q hq => by
      rcases List.mem_append.mp hq with h | h
      · exact hS.2.2 q h
      · exact hf _ (hL q h)⟩⟩
theorem vx_calli {S SX : Type} {post : Int32 → S → Prop} {px : SX → Prop} {B : S → State → Prop} {BX : String → SX → State → Prop} {AX : Nat → Prop} (hr : vx_Run p l e R s m args below meth c H locs cells slots mc ms (F0 m pc ls st0) rest (va_Qi post B A1 a) (vx_X px BX AX) free) (hS : va_S A0 H0 H locs) (hA : ∀ q, q < H.size → A1 q → A0 q) (hf : ∀ q, free q → A0 q) (hAX : ∀ q, q < H.size → AX q → A0 q)
    (kx : ∀ (E : String) (ce : Cell) (q9 : Addr) (u : SX) (t : State) (H1 : Heap) (locs1 : List Loc), t.heap = H1 → s.vm.Alike t.vm → px u → BX E u t → H.size ≤ H1.size → (∀ q : Nat, q < H.size → ¬ AX q → H1[q]? = H[q]?) → va_S A0 H0 H1 locs1 → H1[q9]? = some ce → ce.vm = .none → s.vm.findClass E = some ce.cls → vx_W p l e R s m args below meth c H1 locs1 (cells + mc) (slots + ms) Q (F0 m pc ls rest) q9)
    (kk : ∀ (r : Int32) (u : S) (t : State) (H1 : Heap) (locs1 : List Loc), t.heap = H1 → s.vm.Alike t.vm → post r u → B u t → H.size ≤ H1.size → (∀ q : Nat, q < H.size → ¬ A1 q → H1[q]? = H[q]?) → va_S A0 H0 H1 locs1 → W p l e R s m args below meth c H1 locs1 (cells + mc) (slots + ms) Q (F0 m (pc + 3) ls (.int r :: rest))) : W p l e R s m args below meth c H locs cells slots Q (F0 m pc ls st0) := by
  intro T hT X
  rcases hr T hT X with ⟨v, st₀, t, T', L, h0, X', hL, e1, e2, ⟨⟨r, u, hv, hp, hb⟩, hF⟩, st⟩ | ⟨q, st₀, t, T', L, E, ce, h0, X', hL, e1, e2, ⟨u, hp, hb, hF⟩, hce, hcv, hcl, st⟩
  · cases hv
    obtain ⟨k1, k2, k3⟩ := vx_keep h0 e1 hS hA hf hL hF
    obtain ⟨t2, a1, b1⟩ := kk r u t T'.heap (locs ++ L) e1.symm (by rw [← e2]; exact X'.warmed.alike) hp hb k1 k2 k3 T' rfl X'
    exact ⟨t2, st t2 a1, b1⟩
  · obtain ⟨k1, k2, k3⟩ := vx_keep h0 e1 hS hAX hf hL hF
    obtain ⟨t2, a1, b1⟩ := kx E ce q u t T'.heap (locs ++ L) e1.symm (by rw [← e2]; exact X'.warmed.alike) hp hb k1 k2 k3 (by rw [e1]; exact hce) hcv hcl T' rfl X'
    exact ⟨t2, st.trans a1, b1⟩
theorem vx_calll {S SX : Type} {post : Int64 → S → Prop} {px : SX → Prop} {B : S → State → Prop} {BX : String → SX → State → Prop} {AX : Nat → Prop} (hr : vx_Run p l e R s m args below meth c H locs cells slots mc ms (F0 m pc ls st0) rest (va_Ql post B A1 a) (vx_X px BX AX) free) (hS : va_S A0 H0 H locs) (hA : ∀ q, q < H.size → A1 q → A0 q) (hf : ∀ q, free q → A0 q) (hAX : ∀ q, q < H.size → AX q → A0 q)
    (kx : ∀ (E : String) (ce : Cell) (q9 : Addr) (u : SX) (t : State) (H1 : Heap) (locs1 : List Loc), t.heap = H1 → s.vm.Alike t.vm → px u → BX E u t → H.size ≤ H1.size → (∀ q : Nat, q < H.size → ¬ AX q → H1[q]? = H[q]?) → va_S A0 H0 H1 locs1 → H1[q9]? = some ce → ce.vm = .none → s.vm.findClass E = some ce.cls → vx_W p l e R s m args below meth c H1 locs1 (cells + mc) (slots + ms) Q (F0 m pc ls rest) q9)
    (kk : ∀ (r : Int64) (u : S) (t : State) (H1 : Heap) (locs1 : List Loc), t.heap = H1 → s.vm.Alike t.vm → post r u → B u t → H.size ≤ H1.size → (∀ q : Nat, q < H.size → ¬ A1 q → H1[q]? = H[q]?) → va_S A0 H0 H1 locs1 → W p l e R s m args below meth c H1 locs1 (cells + mc) (slots + ms) Q (F0 m (pc + 3) ls (.long r :: rest))) : W p l e R s m args below meth c H locs cells slots Q (F0 m pc ls st0) := by
  intro T hT X
  rcases hr T hT X with ⟨v, st₀, t, T', L, h0, X', hL, e1, e2, ⟨⟨r, u, hv, hp, hb⟩, hF⟩, st⟩ | ⟨q, st₀, t, T', L, E, ce, h0, X', hL, e1, e2, ⟨u, hp, hb, hF⟩, hce, hcv, hcl, st⟩
  · cases hv
    obtain ⟨k1, k2, k3⟩ := vx_keep h0 e1 hS hA hf hL hF
    obtain ⟨t2, a1, b1⟩ := kk r u t T'.heap (locs ++ L) e1.symm (by rw [← e2]; exact X'.warmed.alike) hp hb k1 k2 k3 T' rfl X'
    exact ⟨t2, st t2 a1, b1⟩
  · obtain ⟨k1, k2, k3⟩ := vx_keep h0 e1 hS hAX hf hL hF
    obtain ⟨t2, a1, b1⟩ := kx E ce q u t T'.heap (locs ++ L) e1.symm (by rw [← e2]; exact X'.warmed.alike) hp hb k1 k2 k3 (by rw [e1]; exact hce) hcv hcl T' rfl X'
    exact ⟨t2, st.trans a1, b1⟩
theorem vx_callf {S SX : Type} {post : UInt32 → S → Prop} {px : SX → Prop} {B : S → State → Prop} {BX : String → SX → State → Prop} {AX : Nat → Prop} (hr : vx_Run p l e R s m args below meth c H locs cells slots mc ms (F0 m pc ls st0) rest (va_Qf post B A1 a) (vx_X px BX AX) free) (hS : va_S A0 H0 H locs) (hA : ∀ q, q < H.size → A1 q → A0 q) (hf : ∀ q, free q → A0 q) (hAX : ∀ q, q < H.size → AX q → A0 q)
    (kx : ∀ (E : String) (ce : Cell) (q9 : Addr) (u : SX) (t : State) (H1 : Heap) (locs1 : List Loc), t.heap = H1 → s.vm.Alike t.vm → px u → BX E u t → H.size ≤ H1.size → (∀ q : Nat, q < H.size → ¬ AX q → H1[q]? = H[q]?) → va_S A0 H0 H1 locs1 → H1[q9]? = some ce → ce.vm = .none → s.vm.findClass E = some ce.cls → vx_W p l e R s m args below meth c H1 locs1 (cells + mc) (slots + ms) Q (F0 m pc ls rest) q9)
    (kk : ∀ (r : UInt32) (u : S) (t : State) (H1 : Heap) (locs1 : List Loc), t.heap = H1 → s.vm.Alike t.vm → post r u → B u t → H.size ≤ H1.size → (∀ q : Nat, q < H.size → ¬ A1 q → H1[q]? = H[q]?) → va_S A0 H0 H1 locs1 → W p l e R s m args below meth c H1 locs1 (cells + mc) (slots + ms) Q (F0 m (pc + 3) ls (.float r :: rest))) : W p l e R s m args below meth c H locs cells slots Q (F0 m pc ls st0) := by
  intro T hT X
  rcases hr T hT X with ⟨v, st₀, t, T', L, h0, X', hL, e1, e2, ⟨⟨r, u, hv, hp, hb⟩, hF⟩, st⟩ | ⟨q, st₀, t, T', L, E, ce, h0, X', hL, e1, e2, ⟨u, hp, hb, hF⟩, hce, hcv, hcl, st⟩
  · cases hv
    obtain ⟨k1, k2, k3⟩ := vx_keep h0 e1 hS hA hf hL hF
    obtain ⟨t2, a1, b1⟩ := kk r u t T'.heap (locs ++ L) e1.symm (by rw [← e2]; exact X'.warmed.alike) hp hb k1 k2 k3 T' rfl X'
    exact ⟨t2, st t2 a1, b1⟩
  · obtain ⟨k1, k2, k3⟩ := vx_keep h0 e1 hS hAX hf hL hF
    obtain ⟨t2, a1, b1⟩ := kx E ce q u t T'.heap (locs ++ L) e1.symm (by rw [← e2]; exact X'.warmed.alike) hp hb k1 k2 k3 (by rw [e1]; exact hce) hcv hcl T' rfl X'
    exact ⟨t2, st.trans a1, b1⟩
theorem vx_calld {S SX : Type} {post : UInt64 → S → Prop} {px : SX → Prop} {B : S → State → Prop} {BX : String → SX → State → Prop} {AX : Nat → Prop} (hr : vx_Run p l e R s m args below meth c H locs cells slots mc ms (F0 m pc ls st0) rest (va_Qd post B A1 a) (vx_X px BX AX) free) (hS : va_S A0 H0 H locs) (hA : ∀ q, q < H.size → A1 q → A0 q) (hf : ∀ q, free q → A0 q) (hAX : ∀ q, q < H.size → AX q → A0 q)
    (kx : ∀ (E : String) (ce : Cell) (q9 : Addr) (u : SX) (t : State) (H1 : Heap) (locs1 : List Loc), t.heap = H1 → s.vm.Alike t.vm → px u → BX E u t → H.size ≤ H1.size → (∀ q : Nat, q < H.size → ¬ AX q → H1[q]? = H[q]?) → va_S A0 H0 H1 locs1 → H1[q9]? = some ce → ce.vm = .none → s.vm.findClass E = some ce.cls → vx_W p l e R s m args below meth c H1 locs1 (cells + mc) (slots + ms) Q (F0 m pc ls rest) q9)
    (kk : ∀ (r : UInt64) (u : S) (t : State) (H1 : Heap) (locs1 : List Loc), t.heap = H1 → s.vm.Alike t.vm → post r u → B u t → H.size ≤ H1.size → (∀ q : Nat, q < H.size → ¬ A1 q → H1[q]? = H[q]?) → va_S A0 H0 H1 locs1 → W p l e R s m args below meth c H1 locs1 (cells + mc) (slots + ms) Q (F0 m (pc + 3) ls (.double r :: rest))) : W p l e R s m args below meth c H locs cells slots Q (F0 m pc ls st0) := by
  intro T hT X
  rcases hr T hT X with ⟨v, st₀, t, T', L, h0, X', hL, e1, e2, ⟨⟨r, u, hv, hp, hb⟩, hF⟩, st⟩ | ⟨q, st₀, t, T', L, E, ce, h0, X', hL, e1, e2, ⟨u, hp, hb, hF⟩, hce, hcv, hcl, st⟩
  · cases hv
    obtain ⟨k1, k2, k3⟩ := vx_keep h0 e1 hS hA hf hL hF
    obtain ⟨t2, a1, b1⟩ := kk r u t T'.heap (locs ++ L) e1.symm (by rw [← e2]; exact X'.warmed.alike) hp hb k1 k2 k3 T' rfl X'
    exact ⟨t2, st t2 a1, b1⟩
  · obtain ⟨k1, k2, k3⟩ := vx_keep h0 e1 hS hAX hf hL hF
    obtain ⟨t2, a1, b1⟩ := kx E ce q u t T'.heap (locs ++ L) e1.symm (by rw [← e2]; exact X'.warmed.alike) hp hb k1 k2 k3 (by rw [e1]; exact hce) hcv hcl T' rfl X'
    exact ⟨t2, st.trans a1, b1⟩
theorem vx_callv {S SX : Type} {post : S → Prop} {px : SX → Prop} {B : S → State → Prop} {BX : String → SX → State → Prop} {AX : Nat → Prop} (hr : vx_Run p l e R s m args below meth c H locs cells slots mc ms (F0 m pc ls st0) rest (va_Qv post B A1 a) (vx_X px BX AX) free) (hS : va_S A0 H0 H locs) (hA : ∀ q, q < H.size → A1 q → A0 q) (hf : ∀ q, free q → A0 q) (hAX : ∀ q, q < H.size → AX q → A0 q)
    (kx : ∀ (E : String) (ce : Cell) (q9 : Addr) (u : SX) (t : State) (H1 : Heap) (locs1 : List Loc), t.heap = H1 → s.vm.Alike t.vm → px u → BX E u t → H.size ≤ H1.size → (∀ q : Nat, q < H.size → ¬ AX q → H1[q]? = H[q]?) → va_S A0 H0 H1 locs1 → H1[q9]? = some ce → ce.vm = .none → s.vm.findClass E = some ce.cls → vx_W p l e R s m args below meth c H1 locs1 (cells + mc) (slots + ms) Q (F0 m pc ls rest) q9)
    (kk : ∀ (u : S) (t : State) (H1 : Heap) (locs1 : List Loc), t.heap = H1 → s.vm.Alike t.vm → post u → B u t → H.size ≤ H1.size → (∀ q : Nat, q < H.size → ¬ A1 q → H1[q]? = H[q]?) → va_S A0 H0 H1 locs1 → W p l e R s m args below meth c H1 locs1 (cells + mc) (slots + ms) Q (F0 m (pc + 3) ls (rest))) : W p l e R s m args below meth c H locs cells slots Q (F0 m pc ls st0) := by
  intro T hT X
  rcases hr T hT X with ⟨v, st₀, t, T', L, h0, X', hL, e1, e2, ⟨⟨u, hv, hp, hb⟩, hF⟩, st⟩ | ⟨q, st₀, t, T', L, E, ce, h0, X', hL, e1, e2, ⟨u, hp, hb, hF⟩, hce, hcv, hcl, st⟩
  · cases hv
    obtain ⟨k1, k2, k3⟩ := vx_keep h0 e1 hS hA hf hL hF
    obtain ⟨t2, a1, b1⟩ := kk u t T'.heap (locs ++ L) e1.symm (by rw [← e2]; exact X'.warmed.alike) hp hb k1 k2 k3 T' rfl X'
    exact ⟨t2, st t2 a1, b1⟩
  · obtain ⟨k1, k2, k3⟩ := vx_keep h0 e1 hS hAX hf hL hF
    obtain ⟨t2, a1, b1⟩ := kx E ce q u t T'.heap (locs ++ L) e1.symm (by rw [← e2]; exact X'.warmed.alike) hp hb k1 k2 k3 (by rw [e1]; exact hce) hcv hcl T' rfl X'
    exact ⟨t2, st.trans a1, b1⟩
/-- caught by the row x of this method's table; the rows ahead don't take it -/
theorem vx_catch {own name : String} {E : String} {ce : Cell} {q : Addr} (hown : s.vm.findClass own = some m.cls) (pre : List ExceptionTableEntry) (x : ExceptionTableEntry) (suf : List ExceptionTableEntry) (hsplit : c.exceptionTable.toList = pre ++ x :: suf)
    (hpass : ∀ z ∈ pre, covers z pc = false ∨ (z.catchType ≠ 0 ∧ ∃ nm : String, (Cond.classLink own z.catchType nm).before args s = true ∧ va_Nc E nm s)) (hx : covers x pc = true) (h0 : x.catchType ≠ 0)
    (hlink : (Cond.classLink own x.catchType name).before args s = true) (hcast : (Cond.castable E name).before args s = true) (hcell : H[q]? = some ce) (hv : ce.vm = .none) (hcl : s.vm.findClass E = some ce.cls)
    (kk : W p l e R s m args below meth c H locs cells slots Q (F0 m x.handlerPc ls [.ref q])) : vx_W p l e R s m args below meth c H locs cells slots Q (F0 m pc ls rest) q := by
  intro T hT X
  have hpl : e.platform.magicAccessors = ({} : Platform).magicAccessors := by rw [X.admits.platform]
  obtain ⟨c3, c4, hc3, hc4, hasg⟩ := Cond.castable_spec hcast
  cases Option.some.inj (hc3.symm.trans hcl)
  obtain ⟨c5, hc5, hcl5⟩ := Cond.classLink_spec hown hlink e.platform hpl
  cases Option.some.inj (hc4.symm.trans hc5)
  obtain ⟨vm', X', st⟩ := X.thenCaughtThrough q (g := F0 m pc ls rest) rfl (Steps.refl _) (by rw [hT]; exact hcell) (by rw [hv]; rfl) (by obtain ⟨k9, h9, -⟩ := Vm.findClass_spec hcl; exact ⟨k9, h9⟩) pre x suf hsplit
    (fun z hz => by
      rcases hpass z hz with h | ⟨hz0, nm, hl1, hn1⟩
      · exact Or.inl h
      · obtain ⟨c6, hc6, hcl6⟩ := Cond.classLink_spec hown hl1 e.platform hpl
        obtain ⟨a8, b8, h1, h2, h3⟩ := hn1
        cases Option.some.inj (h1.symm.trans hcl)
        cases Option.some.inj (h2.symm.trans hc6)
        exact Or.inr ⟨hz0, _, hcl6, h3⟩) hx (Or.inr ⟨h0, c4, hcl5, hasg⟩)
  obtain ⟨t, a1, b1⟩ := kk (T.setVm vm') hT X'
  exact ⟨t, st.trans a1, b1⟩
end Rows
section Ends
variable {p : Program} {l : Launch} {e : Env} {R : Room} {s : State} {m : MethodId} {args : Array Value} {below : List Frame} {meth : Method} {c : Code} {H : Heap} {locs : List Loc} {cells slots : Nat} {Q : State → Prop}
variable {mc ms : Nat} {free : Addr → Prop} {A0 A1 : Nat → Prop} {H0 : Heap} {a : Array Value} {ls : Array Slot} {st0 rest : List Value}
variable {Qc : Array Value → State → Outcome → State → Prop} {XC : String → State → State → Prop}
/-- what a body that may throw owes at its end -/
def vx_MQ (below : List Frame) (Qc : Array Value → State → Outcome → State → Prop) (XC : String → State → State → Prop) (a : Array Value) (s : State) (mc ms : Nat) (free : Addr → Prop) : State → Prop := fun t =>
  ∃ o, t.status = .running ∧ Ended t below o ∧ vx_Q Qc XC mc ms free a s o t
theorem vx_ret {g : JFrame} {mc ms : Nat} (k : W p l e R s m args below meth c H locs cells slots (MQ below Qc args s mc ms free) g) : W p l e R s m args below meth c H locs cells slots (vx_MQ below Qc XC args s mc ms free) g := by
  intro T hT X
  obtain ⟨t, a1, o, b1, b2, b3, b4⟩ := k T hT X
  exact ⟨t, a1, o, b1, b2, Or.inl ⟨b3, b4⟩⟩
/-- not caught here: it goes on to the caller -/
theorem vx_widen {g : JFrame} {q : Addr} {k n : Nat} (h1 : cells ≤ k) (h2 : slots ≤ n) (kk : vx_W p l e R s m args below meth c H locs k n Q g q) : vx_W p l e R s m args below meth c H locs cells slots Q g q := fun T hT X => kk T hT (stand_widen X h1 h2)
theorem vx_out {pc : Nat} {E : String} {ce : Cell} {q : Addr} {mc ms : Nat} (hout : ∀ x ∈ c.exceptionTable.toList, covers x pc = false) (hlocks : meth.locks = false) (hcell : H[q]? = some ce) (hv : ce.vm = .none) (hcl : s.vm.findClass E = some ce.cls)
    (hx : ∀ t : State, t.heap = H → s.vm.Alike t.vm → XC E s t) (hf : ∀ z ∈ locs, free z.base) (hc : cells ≤ mc) (hs : slots ≤ ms) :
    vx_W p l e R s m args below meth c H locs cells slots (vx_MQ below Qc XC args s mc ms free) (F0 m pc ls rest) q := by
  intro T hT X
  obtain ⟨st1, hrun, hend, hW, hsm⟩ := X.leaveThrown q (g := F0 m pc ls rest) rfl rfl rfl hout hlocks
  have hcell9 : (T.setFrames (.throwing q :: below)).heap[q]? = some ce := by
    show T.heap[q]? = some ce
    rw [hT]; exact hcell
  exact ⟨_, st1, .threw q, hrun, hend, Or.inr ⟨q, rfl, E, ce, locs, hx _ hT hW.alike, hcell9, hv, hcl, hW, hsm.mono hc hs, hf⟩⟩
theorem vx_frame {U : State} {k n : Nat} (h : s.sameButNew ({ U with vm := s.vm } : State) locs k n) : s.heap.size ≤ U.heap.size ∧ ∀ q : Nat, q < s.heap.size → (∀ z ∈ locs, z.base ≠ q) → U.heap[q]? = s.heap[q]? := by
  obtain ⟨-, h2, -, -, -, h6⟩ := h
  refine ⟨h2, fun q hq hz => ?_⟩
  obtain ⟨c9, e1, e2, e3, e4⟩ := h6 q _ (Array.getElem?_eq_getElem hq)
  have hs : c9.slots = (s.heap[q]).slots := Array.ext_getElem? fun i => e4 i fun hm => hz _ hm rfl
  have h9 : c9 = s.heap[q] := by
    rw [hs] at e2
    exact e2
  have e5 : U.heap[q]? = some c9 := e1
  rw [e5, h9, Array.getElem?_eq_getElem hq]
/-- the words of a throw but the four that speak of the heap -/
def vx_no (w : Cond) : Bool := decide (w ≠ .isRef (.static Bundle.tN "UNASSIGNED_STACK" Bundle.steD)) && decide (w ≠ .isRef (.static Bundle.tN "SUPPRESSED_SENTINEL" Bundle.listD)) && decide (w ≠ .laysStatic Bundle.tN "UNASSIGNED_STACK" Bundle.steD) && decide (w ≠ .laysStatic Bundle.tN "SUPPRESSED_SENTINEL" Bundle.listD)
def vx_at0 (own : String) (ic : Nat) (X : String) (names : List String) : List Cond := (Bundle.ownAtoms0 own ic X names).filter vx_no
def vx_atS (own : String) (ic : Nat) (X : String) (names : List String) : List Cond := (Bundle.ownAtoms own ic X names).filter vx_no
/-- a word that the tables alone decide, or a good one -/
def vx_ot (w : Cond) : Bool := w.onTables || goodWord w
theorem vx_ot_at {args a' : Array Value} {s U : State} {w : Cond} (hW : s.WarmedH U.vm) (hvm : s.vm = U.vm) (hg : vx_ot w = true) (h : w.before args s = true) : w.before a' U = true := by
  simp only [vx_ot, Bool.or_eq_true] at hg
  rcases hg with hg | hg
  · exact va_tabs hg hvm h
  · exact word_at hW (good_of_word hg) h
/-- a list's words: the good ones out of the method's own list, the others by premises of their own -/
theorem vx_hat {args : Array Value} {s : State} {L B : List Cond} (h1 : ∀ w ∈ L.filter goodWord, w.before args s = true) (h2 : ∀ w ∈ L.filter (fun w => !goodWord w), w ∈ B) (h3 : ∀ w ∈ B, w.before args s = true) : ∀ w ∈ L, w.before args s = true := by
  intro w hw
  by_cases g : goodWord w = true
  · exact h1 w (List.mem_filter.mpr ⟨hw, g⟩)
  · refine h3 w (h2 w (List.mem_filter.mpr ⟨hw, ?_⟩))
    show (!goodWord w) = true
    cases hgw : goodWord w
    · rfl
    · exact absurd hgw g
theorem vx_c {args : Array Value} {s : State} {w : Cond} {B : List Cond} (h : w.before args s = true) (t : ∀ w ∈ B, w.before args s = true) : ∀ w' ∈ w :: B, w'.before args s = true := fun w' h' => (List.mem_cons.mp h').elim (fun e => by rw [e]; exact h) (t w')
theorem vx_n {args : Array Value} {s : State} : ∀ w ∈ ([] : List Cond), w.before args s = true := fun _ h => nomatch h
theorem vx_own {args : Array Value} {s : State} {L : List Cond} (h1 : ∀ w ∈ L.filter vx_no, w.before args s = true)
    (hU : (Cond.isRef (.static Bundle.tN "UNASSIGNED_STACK" Bundle.steD)).before args s = true) (hN : (Cond.isRef (.static Bundle.tN "SUPPRESSED_SENTINEL" Bundle.listD)).before args s = true)
    (lU : (Cond.laysStatic Bundle.tN "UNASSIGNED_STACK" Bundle.steD).before args s = true) (lN : (Cond.laysStatic Bundle.tN "SUPPRESSED_SENTINEL" Bundle.listD).before args s = true) : ∀ w ∈ L, w.before args s = true := by
  intro w hw
  by_cases e1 : w = .isRef (.static Bundle.tN "UNASSIGNED_STACK" Bundle.steD)
  · rw [e1]; exact hU
  · by_cases e2 : w = .isRef (.static Bundle.tN "SUPPRESSED_SENTINEL" Bundle.listD)
    · rw [e2]; exact hN
    · by_cases e3 : w = .laysStatic Bundle.tN "UNASSIGNED_STACK" Bundle.steD
      · rw [e3]; exact lU
      · by_cases e4 : w = .laysStatic Bundle.tN "SUPPRESSED_SENTINEL" Bundle.listD
        · rw [e4]; exact lN
        · exact h1 w (List.mem_filter.mpr ⟨hw, by unfold vx_no; rw [decide_eq_true e1, decide_eq_true e2, decide_eq_true e3, decide_eq_true e4]; rfl⟩)
/-- where a static field lies, its class's statics cell in H -/
def vx_L (C n d : String) (A : Nat → Prop) (U : State) (H : Heap) : Prop := ∃ (c : ClassId) (k : Class) (i : Nat) (f : Field) (a : Nat) (cell : Cell), U.vm.findClass C = some c ∧ U.fieldFound? C n d = some (c, k, i, f) ∧ f.isStatic = true ∧ k.statics = some a ∧ H[a]? = some cell ∧ cell.vm.isStatics = true ∧ cell.cls = c ∧ f.slot < cell.slots.size ∧ k.staticTypes[f.slot]? = some f.type ∧ ¬ A a
theorem vx_L.moved {C n d : String} {A : Nat → Prop} {u U : State} {H : Heap} (hvm : u.vm.Alike U.vm) (h : vx_L C n d A u H) : vx_L C n d A U H := by
  obtain ⟨c, k, i, f, a, cell, h1, h2, h3, h4, h5, h6, h7, h8, h9, h10⟩ := h
  obtain ⟨k', hi', he⟩ := State.fieldFound?_setVm hvm h2
  exact ⟨c, k', i, f, a, cell, by rw [hvm.findClass]; exact h1, hi', h3, by rw [he]; exact h4, h5, h6, h7, h8, by rw [he]; exact h9, h10⟩
theorem vx_L.kept {C n d : String} {A : Nat → Prop} {U : State} {H H1 : Heap} (h : vx_L C n d A U H) (hq : ∀ a : Nat, a < H.size → ¬ A a → H1[a]? = H[a]?) : vx_L C n d A U H1 := by
  obtain ⟨c, k, i, f, a, cell, h1, h2, h3, h4, h5, h6, h7, h8, h9, h10⟩ := h
  exact ⟨c, k, i, f, a, cell, h1, h2, h3, h4, by rw [hq a (Array.getElem?_eq_some_iff.mp h5).1 h10]; exact h5, h6, h7, h8, h9, h10⟩
theorem vx_L.narrow {C n d : String} {A B : Nat → Prop} {U : State} {H : Heap} (h : vx_L C n d A U H) (hAB : ∀ q, B q → A q) : vx_L C n d B U H := by
  obtain ⟨c, k, i, f, a, cell, h1, h2, h3, h4, h5, h6, h7, h8, h9, h10⟩ := h
  exact ⟨c, k, i, f, a, cell, h1, h2, h3, h4, h5, h6, h7, h8, h9, fun z => h10 (hAB _ z)⟩
theorem vx_L.word {C n d : String} {A : Nat → Prop} {s : State} {args : Array Value} (h : vx_L C n d A s s.heap) : (Cond.laysStatic C n d).before args s = true := by
  obtain ⟨c, k, i, f, a, cell, h1, h2, h3, h4, h5, h6, h7, h8, h9, -⟩ := h
  show (Cond.laysStatic C n d).holds args s none s [] = true
  exact Cond.laysStatic_of h1 h2 h3 h4 h5 h6 h7 h8 h9
/-- .. and what it holds: null or some reference -/
def vx_Zq (C n d : String) (A : Nat → Prop) (U : State) (H : Heap) : Prop := va_Zq C n d A U H ∧ vx_L C n d A U H
theorem vx_Zq.moved {C n d : String} {A : Nat → Prop} {u U : State} {H : Heap} (hvm : u.vm.Alike U.vm) (h : vx_Zq C n d A u H) : vx_Zq C n d A U H := ⟨va_Zq.moved hvm h.1, vx_L.moved hvm h.2⟩
theorem vx_Zq.kept {C n d : String} {A : Nat → Prop} {U : State} {H H1 : Heap} (h : vx_Zq C n d A U H) (hq : ∀ a : Nat, a < H.size → ¬ A a → H1[a]? = H[a]?) : vx_Zq C n d A U H1 := ⟨va_Zq.kept h.1 hq, vx_L.kept h.2 hq⟩
theorem vx_Zq.narrow {C n d : String} {A B : Nat → Prop} {U : State} {H : Heap} (h : vx_Zq C n d A U H) (hAB : ∀ q, B q → A q) : vx_Zq C n d B U H := ⟨va_Zq.narrow h.1 hAB, vx_L.narrow h.2 hAB⟩
theorem vx_Zqof {args : Array Value} {s : State} {C n d : String} {A : Nat → Prop} (hl : (Cond.laysStatic C n d).before args s = true) (hini : (Cond.initialized C).before args s = true) (h : (Cond.isRef (.static C n d)).before args s = true) (hA : ∀ a : Nat, a < s.heap.size → ¬ A a) : vx_Zq C n d A s s.heap := by
  refine ⟨va_Zqof hl hini h hA, ?_⟩
  obtain ⟨c, k, i, f, a, cell, h1, h2, h3, h4, h5, h6, h7, h8, h9⟩ := Cond.laysStatic_spec hl
  exact ⟨c, k, i, f, a, cell, h1, h2, h3, h4, h5, h6, h7, h8, h9, hA a (Array.getElem?_eq_some_iff.mp h5).1⟩
theorem vx_isRef {C n d : String} {v : Value} {A : Nat → Prop} {s : State} {args : Array Value} (h : va_Z C n d v A s s.heap) (hv : v.isRef = true) : (Cond.isRef (.static C n d)).before args s = true := by
  obtain ⟨cf, kf, fi, f, a, cell, h1, h2, h3, h4, h5, h6, h7, -⟩ := h
  have he : (Term.static C n d).eval args s none [] s = some v := by
    simp [Term.eval, State.fieldNamed?, h1, h2, h4, h5, h6, h7]
  simp only [Cond.before, Cond.holds, Cond.value, he]
  cases v <;> simp_all [Value.isRef]
theorem vx_isRefq {C n d : String} {A : Nat → Prop} {s : State} {args : Array Value} (h : va_Zq C n d A s s.heap) : (Cond.isRef (.static C n d)).before args s = true := by
  rcases h with h | ⟨t, h⟩
  · exact vx_isRef h rfl
  · exact vx_isRef h rfl
/-- the same frame, seen from here: as if the method were called anew in this heap -/
theorem vx_rebase {T : State} (X : Stand p l e R s m args below meth c T locs cells slots) {R' : Room} (hf : R'.frames ≤ R.frames) (hl : R'.locals ≤ R.locals) (hc : cells + R'.cells ≤ R.cells) (hs : slots + R'.slots ≤ R.slots) :
    Stand p l e R' ((T.setVm s.vm).setFrames (.invoking m args :: below)) m args below meth c T [] 0 0 := by
  have htop : (T.setVm s.vm).topJava?.isSome := X.here.top
  have hF : ((T.setVm s.vm).setFrames (.invoking m args :: below)).frames = .invoking m args :: below := State.frames_setFrames _ (State.cur_lt_of_top htop)
  obtain ⟨g₀, hg0⟩ := Option.isSome_iff_exists.mp htop
  obtain ⟨r, hr⟩ := State.topJava?_eq_some.mp hg0
  have hl9 : e.platform.stackLimits (T.setVm s.vm).me = e.platform.stackLimits s.me := X.limits
  have hb9 : (T.setVm s.vm).me.stackBytes = s.me.stackBytes := X.bytes
  refine ⟨X.admits, X.cas, X.clock, hF, ?_, X.hears, X.method, X.code, X.here, X.tail, X.warmed, ?_, ?_, ?_⟩
  · have h := X.room
    have hU : ((T.setVm s.vm).setFrames (.invoking m args :: below)).localsInUse = s.localsInUse := by
      rw [State.localsInUse_invoking hF (meth := meth) (c := c) X.method X.code, State.localsInUse_invoking X.frames X.method X.code]
    simp only [State.hasRoom, Bool.and_eq_true, decide_eq_true_eq] at h ⊢
    obtain ⟨⟨⟨⟨h1, h2, h3, h4, h5, h6⟩, h7⟩, h8⟩, h9⟩ := h
    rw [X.frames, List.length_cons] at h2 h3
    have q1 := X.heapSize
    have q2 := X.used
    simp only [hF, hU, List.length_cons, State.stackLimits_setFrames, State.stackBytes_setFrames, hl9, hb9]
    refine ⟨⟨⟨⟨by omega, by omega, by omega, by omega, by omega, h6⟩, ?_⟩, ?_⟩, X.book⟩
    · show T.heap.size + R'.cells ≤ e.platform.maxCells
      omega
    · show T.slotsUsed + R'.slots ≤ e.platform.maxSlots
      omega
  · rw [State.stackLimits_setFrames]; rfl
  · rw [State.stackBytes_setFrames]; rfl
  · refine ⟨?_, Nat.le_refl _, Nat.le_refl _, ?_, ?_, fun a c9 h9 => ⟨c9, h9, rfl, rfl, fun _ _ => rfl⟩⟩
    · obtain ⟨t, ht, -⟩ := State.frames_cons hr
      show T.setVm s.vm = { ((T.setVm s.vm).setFrames (.invoking m args :: below)).setFrames (T.setVm s.vm).frames with heap := T.heap, slotsUsed := T.slotsUsed }
      rw [State.setFrames_setFrames, State.setFrames_self ht]
      rfl
    · show T.slotsUsed = T.slotsUsed + ((T.heap.toList.drop T.heap.size).map (·.slots.size)).sum
      rw [List.drop_eq_nil_of_le (Nat.le_of_eq Array.length_toList)]
      rfl
    · show ((T.heap.toList.drop T.heap.size).map (·.slots.size)).sum ≤ 0
      rw [List.drop_eq_nil_of_le (Nat.le_of_eq Array.length_toList)]
      exact Nat.le_refl _
/-- 'throw new E()': new; dup; invokespecial; athrow -/
theorem vx_throw0 {cc : ByteArray} {pc : Nat} (hexec : p.tables.exec = Jvm.exec) (hb : c.code = cc) (hl : l.stackTraces = false) {own cls : String} {names : List String} {ik ic mc ms : Nat} {A : Nat → Prop}
    (hown : s.vm.findClass own = some m.cls) (hcls : Bundle.fit cls = true) (hnames : ∀ n ∈ names, Bundle.fit n = true)
    (hk : (Cond.classLink own ik cls).before args s = true) (hini : (Cond.initialized cls).before args s = true) (hat : ∀ w ∈ vx_at0 own ic cls names, w.before args s = true)
    (hgood : ∀ w ∈ Cond.classLink own ik cls :: Cond.initialized cls :: vx_at0 own ic cls names, vx_ot w = true)
    (hU : vx_Zq Bundle.tN "UNASSIGNED_STACK" Bundle.steD A s s.heap) (hN : vx_Zq Bundle.tN "SUPPRESSED_SENTINEL" Bundle.listD A s s.heap) (hS : va_S A s.heap H locs) (hsize : ls.size = c.maxLocals)
    (d0 : decode cc pc = .ok (.new ik, 3)) (d3 : decode cc (pc + 3) = .ok (.dup, 1)) (d4 : decode cc (pc + 4) = .ok (.invokespecial ic, 3)) (d7 : decode cc (pc + 7) = .ok (.athrow, 1))
    (hout : ∀ x ∈ c.exceptionTable.toList, covers x (pc + 7) = false)
    (hRframes : names.length + 3 < R.frames) (hRlocals : (rest.map fun v => v.category).sum + (13 * (names.length + 1) + 42) ≤ R.locals) (hRcells : cells + 1 ≤ R.cells) (hRslots : slots + 6 ≤ R.slots) (hlocks : meth.locks = false)
    (hx : ∀ t : State, s.vm.Alike t.vm → H.size ≤ t.heap.size → (∀ q : Nat, q < H.size → t.heap[q]? = H[q]?) → XC cls s t)
    (hf : ∀ z ∈ locs, free z.base) (hc : cells + 1 ≤ mc) (hs : slots + 6 ≤ ms) :
    W p l e R s m args below meth c H locs cells slots (vx_MQ below Qc XC args s mc ms free) (F0 m pc ls rest) := by
  intro T hT X
  have htr : e.platform.stackTraces = false := (show e.platform.stackTraces = l.stackTraces by rw [X.admits.platform]).trans hl
  have Y := vx_rebase X (R' := { frames := R.frames, locals := R.locals, cells := 1, slots := 6 }) (Nat.le_refl _) (Nat.le_refl _) hRcells hRslots
  obtain ⟨s', hA⟩ : ∃ z, z = (T.setVm s.vm).setFrames (.invoking m args :: below) := ⟨_, rfl⟩
  rw [← hA] at Y
  have hvm : s'.vm = s.vm := by rw [hA]; rfl
  have hhp : s'.heap = H := by rw [hA]; exact hT
  have hW0 : s.WarmedH s'.vm := by rw [hvm]; exact State.WarmedH.refl s
  have hat' : ∀ w ∈ vx_at0 own ic cls names, w.before args s' = true := fun w hw => vx_ot_at hW0 hvm.symm (hgood w (List.mem_cons_of_mem _ (List.mem_cons_of_mem _ hw))) (hat w hw)
  have hk' : (Cond.classLink own ik cls).before args s' = true := vx_ot_at hW0 hvm.symm (hgood _ List.mem_cons_self) hk
  have hini' : (Cond.initialized cls).before args s' = true := vx_ot_at hW0 hvm.symm (hgood _ (List.mem_cons_of_mem _ List.mem_cons_self)) hini
  have hU' : vx_Zq Bundle.tN "UNASSIGNED_STACK" Bundle.steD A s' s'.heap := by rw [hhp]; exact vx_Zq.moved hW0.alike (hU.kept hS.2.1)
  have hN' : vx_Zq Bundle.tN "SUPPRESSED_SENTINEL" Bundle.listD A s' s'.heap := by rw [hhp]; exact vx_Zq.moved hW0.alike (hN.kept hS.2.1)
  have h : ∀ w ∈ Bundle.ownAtoms0 own ic cls names, w.before args s' = true := vx_own hat' (vx_isRefq hU'.1) (vx_isRefq hN'.1) hU'.2.word hN'.2.word
  have hown' : s'.vm.findClass own = some m.cls := by rw [hvm]; exact hown
  have hins : (Cond.instantiable cls 6).before args s' = true := h _ (by simp [Bundle.ownAtoms0])
  obtain ⟨vm₁, cX, kX, hfX, hkX, -, -, X₁, st1⟩ := Y.newCold hexec (own := own) (C := cls) (index := ik) (n := 6) hown' hk' hins hini'
    (g := F0 m pc ls rest) rfl (by rw [hb]; exact d0) (Nat.le_refl _) (Nat.le_refl _)
  generalize hT1 : (T.setVm vm₁).pushCell { cls := cX, slots := kX.instanceTypes.map defaultValue, vm := .none } = T1 at X₁ st1
  have hcat : (Value.ref T.heap.size).category = 1 := rfl
  have hcellA : T1.heap[T.heap.size]? = some (freshCell cX kX) := by rw [← hT1]; exact State.heap_pushCell_size _ _
  have d3' : decode c.code (pc + 3) = .ok (.dup, 1) := by rw [hb]; exact d3
  obtain ⟨U, hsteps, hrun, hend, hW, hsame, ce, hce, hO⟩ := X₁.ctorThrow0 hexec htr (own := own) (cls := cls) (names := names) (ic := ic) hown' hcls hnames h (fun x hx => nomatch hx) hfX hkX hcellA (by rw [hhp, hT]; exact Nat.le_refl _)
    (g := { method := m, pc := pc + 4, locals := ls, stack := .ref T.heap.size :: .ref T.heap.size :: rest, locked := none }) rfl hsize rfl rfl (rest := rest) rfl
    (by rw [hb]; exact d4) (by rw [hb]; exact d7) hout hRframes (by simp only [List.map_cons, List.sum_cons, hcat]; omega) hlocks
  obtain ⟨f1, f2⟩ := vx_frame hsame
  rw [hhp] at f1 f2
  have hWs : s.WarmedH U.vm := State.WarmedH.trans hW0 hW
  have hcl : s.vm.findClass cls = some ce.cls := by
    have h9 := hO.cls
    rw [hvm] at h9
    exact h9
  have hall : s.sameButNew ({ U with vm := s.vm } : State) locs mc ms := by
    subst hA
    obtain ⟨e1, e2⟩ := hsame
    rw [State.setFrames_setFrames] at e1
    have h2 : (T.setVm s.vm).sameButNew ({ U with vm := s.vm } : State) [] (0 + 1) (0 + 6) := ⟨e1, e2⟩
    have h3 := X.same.trans h2
    rw [List.append_nil] at h3
    exact h3.mono hc hs
  refine ⟨U, ?_, .threw T.heap.size, hrun, hend, Or.inr ⟨T.heap.size, rfl, cls, ce, locs, hx U hWs.alike f1 (fun q hq => f2 q hq (fun z hz => nomatch hz)), hce, hO.vm, hcl, hWs, hall, hf⟩⟩
  refine st1 _ ?_
  show Steps p.tables e below (T1.setTop { method := m, pc := pc + 3, locals := ls, stack := .ref T.heap.size :: rest, locked := none }) _
  jvm_step X₁.here [X₁.here.top, hexec, d3', Value.category]
  exact hsteps
/-- 'throw new E("text")': new; dup; ldc; invokespecial; athrow -/
theorem vx_throwS {cc : ByteArray} {pc : Nat} (hexec : p.tables.exec = Jvm.exec) (hb : c.code = cc) (hl : l.stackTraces = false) {own cls text : String} {names : List String} {ik is ic mc ms sa : Nat} {A : Nat → Prop}
    (hown : s.vm.findClass own = some m.cls) (hcls : Bundle.fit cls = true) (hnames : ∀ n ∈ names, Bundle.fit n = true)
    (hk : (Cond.classLink own ik cls).before args s = true) (hini : (Cond.initialized cls).before args s = true) (hstr : vk_R own is text sa s) (hat : ∀ w ∈ vx_atS own ic cls names, w.before args s = true)
    (hgood : ∀ w ∈ Cond.classLink own ik cls :: Cond.initialized cls :: vx_atS own ic cls names, vx_ot w = true)
    (hU : vx_Zq Bundle.tN "UNASSIGNED_STACK" Bundle.steD A s s.heap) (hN : vx_Zq Bundle.tN "SUPPRESSED_SENTINEL" Bundle.listD A s s.heap) (hS : va_S A s.heap H locs) (hsize : ls.size = c.maxLocals)
    (d0 : decode cc pc = .ok (.new ik, 3)) (d3 : decode cc (pc + 3) = .ok (.dup, 1)) (d4 : decode cc (pc + 4) = .ok (.ldc is, 2)) (d6 : decode cc (pc + 6) = .ok (.invokespecial ic, 3)) (d9 : decode cc (pc + 9) = .ok (.athrow, 1))
    (hout : ∀ x ∈ c.exceptionTable.toList, covers x (pc + 9) = false)
    (hRframes : names.length + 3 < R.frames) (hRlocals : (rest.map fun v => v.category).sum + (13 * (names.length + 1) + 43) ≤ R.locals) (hRcells : cells + 1 ≤ R.cells) (hRslots : slots + 6 ≤ R.slots) (hlocks : meth.locks = false)
    (hx : ∀ t : State, s.vm.Alike t.vm → H.size ≤ t.heap.size → (∀ q : Nat, q < H.size → t.heap[q]? = H[q]?) → XC cls s t)
    (hf : ∀ z ∈ locs, free z.base) (hc : cells + 1 ≤ mc) (hs : slots + 6 ≤ ms) :
    W p l e R s m args below meth c H locs cells slots (vx_MQ below Qc XC args s mc ms free) (F0 m pc ls rest) := by
  intro T hT X
  have htr : e.platform.stackTraces = false := (show e.platform.stackTraces = l.stackTraces by rw [X.admits.platform]).trans hl
  have Y := vx_rebase X (R' := { frames := R.frames, locals := R.locals, cells := 1, slots := 6 }) (Nat.le_refl _) (Nat.le_refl _) hRcells hRslots
  obtain ⟨s', hA⟩ : ∃ z, z = (T.setVm s.vm).setFrames (.invoking m args :: below) := ⟨_, rfl⟩
  rw [← hA] at Y
  have hvm : s'.vm = s.vm := by rw [hA]; rfl
  have hhp : s'.heap = H := by rw [hA]; exact hT
  have hW0 : s.WarmedH s'.vm := by rw [hvm]; exact State.WarmedH.refl s
  have hat' : ∀ w ∈ vx_atS own ic cls names, w.before args s' = true := fun w hw => vx_ot_at hW0 hvm.symm (hgood w (List.mem_cons_of_mem _ (List.mem_cons_of_mem _ hw))) (hat w hw)
  have hk' : (Cond.classLink own ik cls).before args s' = true := vx_ot_at hW0 hvm.symm (hgood _ List.mem_cons_self) hk
  have hini' : (Cond.initialized cls).before args s' = true := vx_ot_at hW0 hvm.symm (hgood _ (List.mem_cons_of_mem _ List.mem_cons_self)) hini
  have hU' : vx_Zq Bundle.tN "UNASSIGNED_STACK" Bundle.steD A s' s'.heap := by rw [hhp]; exact vx_Zq.moved hW0.alike (hU.kept hS.2.1)
  have hN' : vx_Zq Bundle.tN "SUPPRESSED_SENTINEL" Bundle.listD A s' s'.heap := by rw [hhp]; exact vx_Zq.moved hW0.alike (hN.kept hS.2.1)
  have h : ∀ w ∈ Bundle.ownAtoms own ic cls names, w.before args s' = true := vx_own hat' (vx_isRefq hU'.1) (vx_isRefq hN'.1) hU'.2.word hN'.2.word
  have hown' : s'.vm.findClass own = some m.cls := by rw [hvm]; exact hown
  have hins : (Cond.instantiable cls 6).before args s' = true := h _ (by simp [Bundle.ownAtoms])
  obtain ⟨vm₁, cX, kX, hfX, hkX, -, -, X₁, st1⟩ := Y.newCold hexec (own := own) (C := cls) (index := ik) (n := 6) hown' hk' hins hini'
    (g := F0 m pc ls rest) rfl (by rw [hb]; exact d0) (Nat.le_refl _) (Nat.le_refl _)
  generalize hT1 : (T.setVm vm₁).pushCell { cls := cX, slots := kX.instanceTypes.map defaultValue, vm := .none } = T1 at X₁ st1
  have hcat : (Value.ref T.heap.size).category = 1 := rfl
  have hcellA : T1.heap[T.heap.size]? = some (freshCell cX kX) := by rw [← hT1]; exact State.heap_pushCell_size _ _
  have d3' : decode c.code (pc + 3) = .ok (.dup, 1) := by rw [hb]; exact d3
  have d4' : decode c.code (pc + 4) = .ok (.ldc is, 2) := by rw [hb]; exact d4
  have hstr' : vk_R own is text sa s' := vk_R.warm hW0 hstr
  obtain ⟨U, hsteps, hrun, hend, hW, hsame, ce, hce, hO⟩ := X₁.ctorThrowS hexec htr (own := own) (cls := cls) (names := names) (ic := ic) hown' hcls hnames h (fun x hx => nomatch hx) hfX hkX hcellA (by rw [hhp, hT]; exact Nat.le_refl _) (msg := .ref sa) rfl
    (g := { method := m, pc := pc + 6, locals := ls, stack := .ref sa :: .ref T.heap.size :: .ref T.heap.size :: rest, locked := none }) rfl hsize rfl rfl (rest := rest) rfl
    (by rw [hb]; exact d6) (by rw [hb]; exact d9) hout hRframes (by simp only [List.map_cons, List.sum_cons, hcat]; omega) hlocks
  obtain ⟨f1, f2⟩ := vx_frame hsame
  rw [hhp] at f1 f2
  have hWs : s.WarmedH U.vm := State.WarmedH.trans hW0 hW
  have hcl : s.vm.findClass cls = some ce.cls := by
    have h9 := hO.cls
    rw [hvm] at h9
    exact h9
  have hall : s.sameButNew ({ U with vm := s.vm } : State) locs mc ms := by
    subst hA
    obtain ⟨e1, e2⟩ := hsame
    rw [State.setFrames_setFrames] at e1
    have h2 : (T.setVm s.vm).sameButNew ({ U with vm := s.vm } : State) [] (0 + 1) (0 + 6) := ⟨e1, e2⟩
    have h3 := X.same.trans h2
    rw [List.append_nil] at h3
    exact h3.mono hc hs
  refine ⟨U, ?_, .threw T.heap.size, hrun, hend, Or.inr ⟨T.heap.size, rfl, cls, ce, locs, hx U hWs.alike f1 (fun q hq => f2 q hq (fun z hz => nomatch hz)), hce, hO.vm, hcl, hWs, hall, hf⟩⟩
  refine st1 _ ?_
  show Steps p.tables e below (T1.setTop { method := m, pc := pc + 3, locals := ls, stack := .ref T.heap.size :: rest, locked := none }) _
  jvm_step X₁.here [X₁.here.top, hexec, d3', Value.category]
  exact X₁.ldcString hexec (own := own) (text := text) (index := is) (a := sa) hown' hstr'.1 hstr'.2
    (g := { method := m, pc := pc + 4, locals := ls, stack := .ref T.heap.size :: .ref T.heap.size :: rest, locked := none }) rfl d4' _ hsteps
/-- 'throw new E("text")', the text by a wide index -/
theorem vx_throwSW {cc : ByteArray} {pc : Nat} (hexec : p.tables.exec = Jvm.exec) (hb : c.code = cc) (hl : l.stackTraces = false) {own cls text : String} {names : List String} {ik is ic mc ms sa : Nat} {A : Nat → Prop}
    (hown : s.vm.findClass own = some m.cls) (hcls : Bundle.fit cls = true) (hnames : ∀ n ∈ names, Bundle.fit n = true)
    (hk : (Cond.classLink own ik cls).before args s = true) (hini : (Cond.initialized cls).before args s = true) (hstr : vk_R own is text sa s) (hat : ∀ w ∈ vx_atS own ic cls names, w.before args s = true)
    (hgood : ∀ w ∈ Cond.classLink own ik cls :: Cond.initialized cls :: vx_atS own ic cls names, vx_ot w = true)
    (hU : vx_Zq Bundle.tN "UNASSIGNED_STACK" Bundle.steD A s s.heap) (hN : vx_Zq Bundle.tN "SUPPRESSED_SENTINEL" Bundle.listD A s s.heap) (hS : va_S A s.heap H locs) (hsize : ls.size = c.maxLocals)
    (d0 : decode cc pc = .ok (.new ik, 3)) (d3 : decode cc (pc + 3) = .ok (.dup, 1)) (d4 : decode cc (pc + 4) = .ok (.ldc_w is, 3)) (d7 : decode cc (pc + 7) = .ok (.invokespecial ic, 3)) (d10 : decode cc (pc + 10) = .ok (.athrow, 1))
    (hout : ∀ x ∈ c.exceptionTable.toList, covers x (pc + 10) = false)
    (hRframes : names.length + 3 < R.frames) (hRlocals : (rest.map fun v => v.category).sum + (13 * (names.length + 1) + 43) ≤ R.locals) (hRcells : cells + 1 ≤ R.cells) (hRslots : slots + 6 ≤ R.slots) (hlocks : meth.locks = false)
    (hx : ∀ t : State, s.vm.Alike t.vm → H.size ≤ t.heap.size → (∀ q : Nat, q < H.size → t.heap[q]? = H[q]?) → XC cls s t)
    (hf : ∀ z ∈ locs, free z.base) (hc : cells + 1 ≤ mc) (hs : slots + 6 ≤ ms) :
    W p l e R s m args below meth c H locs cells slots (vx_MQ below Qc XC args s mc ms free) (F0 m pc ls rest) := by
  intro T hT X
  have htr : e.platform.stackTraces = false := (show e.platform.stackTraces = l.stackTraces by rw [X.admits.platform]).trans hl
  have Y := vx_rebase X (R' := { frames := R.frames, locals := R.locals, cells := 1, slots := 6 }) (Nat.le_refl _) (Nat.le_refl _) hRcells hRslots
  obtain ⟨s', hA⟩ : ∃ z, z = (T.setVm s.vm).setFrames (.invoking m args :: below) := ⟨_, rfl⟩
  rw [← hA] at Y
  have hvm : s'.vm = s.vm := by rw [hA]; rfl
  have hhp : s'.heap = H := by rw [hA]; exact hT
  have hW0 : s.WarmedH s'.vm := by rw [hvm]; exact State.WarmedH.refl s
  have hat' : ∀ w ∈ vx_atS own ic cls names, w.before args s' = true := fun w hw => vx_ot_at hW0 hvm.symm (hgood w (List.mem_cons_of_mem _ (List.mem_cons_of_mem _ hw))) (hat w hw)
  have hk' : (Cond.classLink own ik cls).before args s' = true := vx_ot_at hW0 hvm.symm (hgood _ List.mem_cons_self) hk
  have hini' : (Cond.initialized cls).before args s' = true := vx_ot_at hW0 hvm.symm (hgood _ (List.mem_cons_of_mem _ List.mem_cons_self)) hini
  have hU' : vx_Zq Bundle.tN "UNASSIGNED_STACK" Bundle.steD A s' s'.heap := by rw [hhp]; exact vx_Zq.moved hW0.alike (hU.kept hS.2.1)
  have hN' : vx_Zq Bundle.tN "SUPPRESSED_SENTINEL" Bundle.listD A s' s'.heap := by rw [hhp]; exact vx_Zq.moved hW0.alike (hN.kept hS.2.1)
  have h : ∀ w ∈ Bundle.ownAtoms own ic cls names, w.before args s' = true := vx_own hat' (vx_isRefq hU'.1) (vx_isRefq hN'.1) hU'.2.word hN'.2.word
  have hown' : s'.vm.findClass own = some m.cls := by rw [hvm]; exact hown
  have hins : (Cond.instantiable cls 6).before args s' = true := h _ (by simp [Bundle.ownAtoms])
  obtain ⟨vm₁, cX, kX, hfX, hkX, -, -, X₁, st1⟩ := Y.newCold hexec (own := own) (C := cls) (index := ik) (n := 6) hown' hk' hins hini'
    (g := F0 m pc ls rest) rfl (by rw [hb]; exact d0) (Nat.le_refl _) (Nat.le_refl _)
  generalize hT1 : (T.setVm vm₁).pushCell { cls := cX, slots := kX.instanceTypes.map defaultValue, vm := .none } = T1 at X₁ st1
  have hcat : (Value.ref T.heap.size).category = 1 := rfl
  have hcellA : T1.heap[T.heap.size]? = some (freshCell cX kX) := by rw [← hT1]; exact State.heap_pushCell_size _ _
  have d3' : decode c.code (pc + 3) = .ok (.dup, 1) := by rw [hb]; exact d3
  have d4' : decode c.code (pc + 4) = .ok (.ldc_w is, 3) := by rw [hb]; exact d4
  have hstr' : vk_R own is text sa s' := vk_R.warm hW0 hstr
  obtain ⟨U, hsteps, hrun, hend, hW, hsame, ce, hce, hO⟩ := X₁.ctorThrowS hexec htr (own := own) (cls := cls) (names := names) (ic := ic) hown' hcls hnames h (fun x hx => nomatch hx) hfX hkX hcellA (by rw [hhp, hT]; exact Nat.le_refl _) (msg := .ref sa) rfl
    (g := { method := m, pc := pc + 7, locals := ls, stack := .ref sa :: .ref T.heap.size :: .ref T.heap.size :: rest, locked := none }) rfl hsize rfl rfl (rest := rest) rfl
    (by rw [hb]; exact d7) (by rw [hb]; exact d10) hout hRframes (by simp only [List.map_cons, List.sum_cons, hcat]; omega) hlocks
  obtain ⟨f1, f2⟩ := vx_frame hsame
  rw [hhp] at f1 f2
  have hWs : s.WarmedH U.vm := State.WarmedH.trans hW0 hW
  have hcl : s.vm.findClass cls = some ce.cls := by
    have h9 := hO.cls
    rw [hvm] at h9
    exact h9
  have hall : s.sameButNew ({ U with vm := s.vm } : State) locs mc ms := by
    subst hA
    obtain ⟨e1, e2⟩ := hsame
    rw [State.setFrames_setFrames] at e1
    have h2 : (T.setVm s.vm).sameButNew ({ U with vm := s.vm } : State) [] (0 + 1) (0 + 6) := ⟨e1, e2⟩
    have h3 := X.same.trans h2
    rw [List.append_nil] at h3
    exact h3.mono hc hs
  refine ⟨U, ?_, .threw T.heap.size, hrun, hend, Or.inr ⟨T.heap.size, rfl, cls, ce, locs, hx U hWs.alike f1 (fun q hq => f2 q hq (fun z hz => nomatch hz)), hce, hO.vm, hcl, hWs, hall, hf⟩⟩
  refine st1 _ ?_
  show Steps p.tables e below (T1.setTop { method := m, pc := pc + 3, locals := ls, stack := .ref T.heap.size :: rest, locked := none }) _
  jvm_step X₁.here [X₁.here.top, hexec, d3', Value.category]
  exact X₁.ldcStringW hexec (own := own) (text := text) (index := is) (a := sa) hown' hstr'.1 hstr'.2
    (g := { method := m, pc := pc + 4, locals := ls, stack := .ref T.heap.size :: .ref T.heap.size :: rest, locked := none }) rfl d4' _ hsteps
end Ends
section Bodies
variable {l : Launch}
theorem vx_ofW {y : MethodName} {ws ws' : List Cond} {rm : Room} {Pc : Array Value → State → Prop} {Qc : Array Value → State → Outcome → State → Prop} {XC : String → State → State → Prop} {mc ms : Nat} {free : Addr → Prop} {cc : ByteArray} {maxL : Nat} {ret : Option FieldType}
    (hy : plainName y.cls = true) (hw : ws = Cond.code y cc maxL ret :: ws')
    (body : ∀ p e s m args below meth c s₁, BodyLoose p l y (headSpec ws rm) cc maxL ret e s m args below meth c s₁ → c.maxLocals = maxL → (∀ x ∈ c.exceptionTable.toList, False) → Pc args s →
      W p l e (headSpec ws rm).room s m args below meth c s.heap [] 0 0 (vx_MQ below Qc XC args s mc ms free) (entryFrame m args maxL)) : vx_Met l y ws rm Pc Qc XC mc ms free := by
  refine MetFree.of_bodyS (code := cc) (maxLocals := maxL) (ret := ret) hy ?_ ?_
  · intro args s m h hn
    obtain ⟨meth, c, h1, h2, h3, h4, h5, h6, -, -⟩ := Cond.code_spec hn (atoms_spec (ws := ws) h _ (by rw [hw]; exact List.mem_cons_self))
    exact ⟨meth, c, h1, h2, h3, h4, h5, h6⟩
  · intro p e s m args below meth c s₁ B hml hP _
    have hh0 : s₁.heap = s.heap := by rw [B.state]; rfl
    have ht : ∀ x ∈ c.exceptionTable.toList, False := by
      obtain ⟨meth9, c9, h1, h2, -, -, -, -, h7, -⟩ := Cond.code_spec B.named (atoms_spec (ws := ws) B.pre _ (by rw [hw]; exact List.mem_cons_self))
      cases Option.some.inj (h1.symm.trans B.method)
      cases Option.some.inj (h2.symm.trans (Stand.of_body B).code)
      intro x hx
      rw [Array.isEmpty_iff.mp h7] at hx
      cases hx
    obtain ⟨t, a1, o, b1, b2, b3⟩ := body p e s m args below meth c s₁ B hml ht hP s₁ hh0 (Stand.of_body B)
    exact ⟨t, o, a1, b1, b2, b3⟩
/-- the table of a body with handlers -/
theorem vx_table {p : Program} {x y : MethodName} {S : Spec} {cc bytes : ByteArray} {maxL maxL' : Nat} {ret ret' : Option FieldType} {e : Env} {s s₁ : State} {m : MethodId} {args : Array Value} {below : List Frame} {meth : Method} {c : Code} {hh : List (Nat × Nat × Nat × Nat)}
    (B : BodyLoose p l y S cc maxL ret e s m args below meth c s₁) (h : (Cond.codeWith y bytes maxL' ret' hh).before args s = true) : c.exceptionTable.toList = tableOf hh := by
  obtain ⟨m9, meth9, c9, hn9, h1, h2, -, -, h6, -⟩ := Cond.codeWith_spec h
  cases Option.some.inj (hn9.symm.trans B.named)
  cases Option.some.inj (h1.symm.trans B.method)
  cases Option.some.inj (h2.symm.trans (Stand.of_body B).code)
  rw [← h6, table_eq]
end Bodies
end VXA
/-! ===== END ===== -/
/-! ===== BEGIN a static call of a method with an exception table ===== -/
section VXS
variable {p : Program} {l : Launch} {e : Env} {R : Room} {s : State} {m : MethodId} {args : Array Value} {below : List Frame} {meth : Method} {c : Code} {T : State} {H : Heap} {locs : List Loc} {cells slots : Nat}
abbrev vx_CSW (R : Room) (s : State) (args : Array Value) (own : String) (index : Nat) (y : MethodName) (bytes : ByteArray) (maxL : Nat) (ret : Option FieldType) (hh : List (Nat × Nat × Nat × Nat)) (ws : List Cond) (rm : Room) (mc ms n : Nat) : Prop :=
  (rm.cells = mc ∧ rm.slots = ms ∧ rm.frames + 1 ≤ R.frames ∧ 8 + (maxL + 11) + rm.locals ≤ R.locals ∧ (∀ w ∈ ws, ∀ (a' : Array Value) (U : State), s.WarmedH U.vm → w.before a' U = true) ∧ Cond.codeWith y bytes maxL ret hh ∈ ws) ∧
  (Cond.codeWith y bytes maxL ret hh).before args s = true ∧ (Cond.initialized y.cls).before args s = true ∧ (y.cls ≠ "java/lang/invoke/MethodHandle" ∧ y.cls ≠ "java/lang/invoke/VarHandle") ∧
  (∀ sig, parseMethodDescriptor y.desc = some sig → n = sig.parameters.length) ∧ (Cond.methodLink own index y).before args s = true ∧ (Cond.static y).before args s = true
theorem vx_cwSW {own : String} {index maxL mc ms : Nat} {y : MethodName} {bytes : ByteArray} {ret : Option FieldType} {hh : List (Nat × Nat × Nat × Nat)} {Ts ws ws' : List Cond} {rm : Room} (n : Nat) (ht : ∀ w ∈ Ts, w.before args s = true) (hT : GoodIn Ts (va_wsS own index y ws)) (hw : ws = Cond.codeWith y bytes maxL ret hh :: ws') (hrc : rm.cells = mc) (hrs : rm.slots = ms)
    (hd : y.cls ≠ "java/lang/invoke/MethodHandle" ∧ y.cls ≠ "java/lang/invoke/VarHandle" ∧ (parseMethodDescriptor y.desc).map (fun d => d.parameters.length) = some n) (hR : rm.frames + 1 ≤ R.frames ∧ 8 + (maxL + 11) + rm.locals ≤ R.locals) :
    vx_CSW R s args own index y bytes maxL ret hh ws rm mc ms n := by
  have ok : ∀ w ∈ va_wsS own index y ws, w.before args s = true := fun w h => ht w (hT w h).1
  have hG : GoodIn Ts ws := fun w h => hT w (by unfold va_wsS; exact List.mem_append_right _ h)
  have hc : Cond.codeWith y bytes maxL ret hh ∈ ws := by rw [hw]; exact List.mem_cons_self
  refine ⟨⟨hrc, hrs, hR.1, hR.2, pay_in ht hG, hc⟩, ht _ (hG _ hc).1, ok _ (by simp [va_wsS]), ⟨hd.1, hd.2.1⟩, fun sig h => ?_, ok _ (by simp [va_wsS]), ok _ (by simp [va_wsS])⟩
  have h2 := hd.2.2
  rw [h] at h2
  exact (Option.some.inj h2).symm
theorem vx_callSW (X : Stand p l e R s m args below meth c T locs cells slots) (hexec : p.tables.exec = Jvm.exec) {own : String} {index : Nat} {y : MethodName} {bytes : ByteArray} {maxL : Nat} {ret : Option FieldType} {hh : List (Nat × Nat × Nat × Nat)}
    (hown : s.vm.findClass own = some m.cls) (hlink : (Cond.methodLink own index y).before args s = true) (hstat : (Cond.static y).before args s = true) (hinit : (Cond.initialized y.cls).before args s = true)
    (hcode : (Cond.codeWith y bytes maxL ret hh).before args s = true) (hy : y.cls ≠ "java/lang/invoke/MethodHandle" ∧ y.cls ≠ "java/lang/invoke/VarHandle")
    {W9 : Nat} {Pre : Pt → Array Value → Prop} {Post : Pt → Array Value → Option Value → Pt → Prop} (hK : Back l R p e below s args y 3 W9 Pre Post)
    {g : JFrame} (hg : g.method = m) (hsize : g.locals.size = c.maxLocals) {argsL rest : List Value} (hlen : ∀ sig, parseMethodDescriptor y.desc = some sig → argsL.length = sig.parameters.length)
    (hstack : g.stack = argsL.reverse ++ rest) (hW : 2 * g.monitorRoom + (rest.map fun v => v.category).sum ≤ W9) (hdg : decode c.code g.pc = .ok (.invokestatic index, 3))
    (hpre : ∀ vm₁, s.WarmedH vm₁ → Pre ⟨T.setVm vm₁, locs, cells, slots⟩ argsL.toArray) :
    ∃ (v : Option Value) (vm₁ : Vm) (B : Pt), s.WarmedH vm₁ ∧ Stand p l e R s m args below meth c B.U B.locs B.cells B.slots ∧ Post ⟨T.setVm vm₁, locs, cells, slots⟩ argsL.toArray v B ∧
      ∀ target, Steps p.tables e below (B.U.setTop { g with pc := g.pc + 3, stack := v.toList ++ rest }) target → Steps p.tables e below (T.setTop g) target := by
  obtain ⟨mk, methM, cM, hnamed, hmethM, -, -, -, -, -, -, hsigM⟩ := Cond.codeWith_spec hcode
  have hstatic : methM.isStatic = true := Cond.static_spec hnamed hmethM hstat
  obtain ⟨kP, hkP, -⟩ := className_of_methodNamed hnamed
  have hinitP : kP.init = .initialized := Cond.initialized_spec (findClass_of_methodNamed hnamed) hkP hinit
  obtain ⟨vm₁, X₁, hstep₁⟩ := X.invokestatic hexec hown hlink hnamed hmethM hstatic hkP hinitP hy (g := g) hg (argsL := argsL) (rest := rest) (hlen _ hsigM) hstack hdg
  obtain ⟨v, B, X', hpost, hsteps⟩ := hK m meth c ⟨T.setVm vm₁, locs, cells, slots⟩ { g with stack := rest } (.invokestatic index) mk argsL.toArray X₁ hg hsize hdg hW (X₁.named hnamed) (hpre vm₁ X₁.warmed)
  exact ⟨v, vm₁, B, X₁.warmed, X', hpost, fun target h => hstep₁ _ fun acts => by rw [doInvoke_state]; exact hsteps.trans h⟩
theorem vx_runSW {y : MethodName} {bytes cc : ByteArray} {maxL nL mc ms n index : Nat} {ret : Option FieldType} {hh : List (Nat × Nat × Nat × Nat)} {ws : List Cond} {rm : Room} {Pc : Array Value → State → Prop} {Qc : Array Value → State → Outcome → State → Prop} {free : Addr → Prop} {Ts : List Cond} {own : String} {As rest : List Value} {g : JFrame}
    (S : CallFix p m c cc nL s args Ts own) (hM : Met l y ws rm Pc Qc mc ms free) (cw : vx_CSW R s args own index y bytes maxL ret hh ws rm mc ms n) (hp : PreS s H Pc As)
    (hg : g.method = m) (hn : As.length = n) (hsize : g.locals.size = nL) (hstack : g.stack = As.reverse ++ rest) (hW : 2 * g.monitorRoom + (rest.map fun v => v.category).sum ≤ 8) (hdg : decode cc g.pc = .ok (.invokestatic index, 3)) (hf : cells + mc ≤ R.cells ∧ slots + ms ≤ R.slots) :
    va_Run p l e R s m args below meth c H locs cells slots mc ms g rest (Qc As.toArray) (free) := by
  obtain ⟨⟨hrc, hrs, hfr, hlo, hws, hcw⟩, hcode, hini, hy, hlen, hl, hstt⟩ := cw
  have hK : Back l R p e below s args y 3 8 (PreOf R mc ms Pc) (PostOf Qc mc ms free) := va_backW (hh := hh) (bytes := bytes) (maxL := maxL) (ret := ret) hM hp.1 hrc hrs hfr hlo hws hcw (fun a' U hW => word_at hW (Or.inl (by first | rfl | simp [Cond.onTables, Cond.keeps, Cond.steady])) hini)
  obtain ⟨hx, hb, hml, ho, -⟩ := S
  intro T hT X
  obtain ⟨v, vm₁, ⟨U', l2, c2, s2⟩, hW₁, X', ⟨g', mk, t, L, e1, e2, hq, h1, hL, h2, h3⟩, st⟩ := vx_callSW X hx (hh := hh) (bytes := bytes) (maxL := maxL) (ret := ret) ho hl hstt hini hcode hy hK hg (hsize.trans hml.symm) (argsL := As) (rest := rest) (fun sig h => hn.trans (hlen sig h)) hstack hW (by rw [hb]; exact hdg)
    (fun vm₁ hW₁ => ⟨hf.1, hf.2, hp.2 (T.setVm vm₁) hT hW₁⟩)
  dsimp only [Pt.U, Pt.locs, Pt.cells, Pt.slots] at X' e1 e2 h1 h2 h3 st
  subst h1; subst h2; subst h3
  exact ⟨v, (T.setVm vm₁).calling g' mk As.toArray, t, U', L, hT, X', hL, e1, e2, hq, st⟩
/-- not caught here, past rows that name other classes: it goes on to the caller -/
theorem vx_outP {p : Program} {l : Launch} {e : Env} {R : Room} {s : State} {m : MethodId} {args : Array Value} {below : List Frame} {meth : Method} {c : Code} {H : Heap} {locs : List Loc} {cells slots : Nat} {free : Addr → Prop} {ls : Array Slot} {rest : List Value} {Qc : Array Value → State → Outcome → State → Prop} {XC : String → State → State → Prop}
    {pc : Nat} {own E : String} {ce : Cell} {q : Addr} {mc ms : Nat} (hown : s.vm.findClass own = some m.cls) (hlocks : meth.locks = false)
    (hpass : ∀ z ∈ c.exceptionTable.toList, covers z pc = false ∨ (z.catchType ≠ 0 ∧ ∃ nm : String, (Cond.classLink own z.catchType nm).before args s = true ∧ va_Nc E nm s)) (hcell : H[q]? = some ce) (hv : ce.vm = .none) (hcl : s.vm.findClass E = some ce.cls)
    (hx : ∀ t : State, t.heap = H → s.vm.Alike t.vm → XC E s t) (hf : ∀ z ∈ locs, free z.base) (hc : cells ≤ mc) (hs : slots ≤ ms) :
    vx_W p l e R s m args below meth c H locs cells slots (vx_MQ below Qc XC args s mc ms free) (F0 m pc ls rest) q := by
  intro T hT X
  have hpl : e.platform.magicAccessors = ({} : Platform).magicAccessors := by rw [X.admits.platform]
  obtain ⟨vm', hW', X', st⟩ := X.outThrough hlocks q (g := F0 m pc ls rest) rfl rfl rfl (cell := ce) (by rw [hT]; exact hcell) (by rw [hv]; rfl)
    (by obtain ⟨k9, h9, -⟩ := Vm.findClass_spec hcl; exact ⟨k9, h9⟩) (fun z hz => by
      rcases hpass z hz with h | ⟨hz0, nm, hl1, hn1⟩
      · exact Or.inl h
      · obtain ⟨c6, hc6, hcl6⟩ := Cond.classLink_spec hown hl1 e.platform hpl
        obtain ⟨a8, b8, h1, h2, h3⟩ := hn1
        cases Option.some.inj (h1.symm.trans hcl)
        cases Option.some.inj (h2.symm.trans hc6)
        exact Or.inr ⟨hz0, _, hcl6, h3⟩)
  obtain ⟨g₀, hfr⟩ := X'.frames_eq
  have hcell9 : ((T.setVm vm').setFrames (.throwing q :: below)).heap[q]? = some ce := by
    show T.heap[q]? = some ce
    rw [hT]; exact hcell
  have hend : Ended ((T.setVm vm').setFrames (.throwing q :: below)) below (.threw q) := State.frames_setFrames _ (State.cur_lt_of_frames hfr)
  refine ⟨(T.setVm vm').setFrames (.throwing q :: below), ?_, .threw q, X'.here.running, hend, Or.inr ⟨q, rfl, E, ce, locs, hx _ hT (X'.ends _).1.alike, hcell9, hv, hcl, (X'.ends _).1, (X'.ends _).2.mono hc hs, hf⟩⟩
  rw [X.pushThrowing_eq]
  exact st
/-- a thing of a world lies in the heap -/
theorem vx_lt {D : va_G} {cl : List vw_C} {ws : va_W} {H1 : Heap} (h : va_P D cl ws H1) {k : Nat} {q : Nat × va_E} (hk : ws[k]? = some q) : q.1 < H1.size := (h k q hk).lt
end VXS
/-! ===== END ===== -/
/-! ===== BEGIN methods with a table of their own: called by a name, returning or throwing ===== -/
section VXH
/-! vx_backW, vx_callVX, vx_callSX, vx_callVW, vx_runVW, vx_runVX, vx_runSX, vx_ofWH follow the same proofs as their sisters above (Free/Laws.lean, Shelf42/LK1.lean); vx_outP calls Shelf42/NT130.lean (outThrough). -/
section
variable {l : Launch} {R : Room} {p : Program} {e : Env} {below : List Frame} {s : State} {sargs : Array Value} {y : MethodName} {len W9 : Nat}
theorem vx_backW {ws : List Cond} {rm : Room} {Pc : Array Value → State → Prop} {Qc : Array Value → State → Outcome → State → Prop} {XC : String → State → State → Prop} {mc ms : Nat} {free : Addr → Prop} {bytes : ByteArray} {maxL : Nat} {ret : Option FieldType} {hh : List (Nat × Nat × Nat × Nat)}
    (hM : vx_Met l y ws rm Pc Qc XC mc ms free) (hblind : FrameBlind Pc) (hrc : rm.cells = mc) (hrs : rm.slots = ms)
    (hframes : rm.frames + 1 ≤ R.frames) (hlocals : W9 + (maxL + 11) + rm.locals ≤ R.locals)
    (hws : ∀ w ∈ ws, ∀ a' U, s.WarmedH U.vm → w.before a' U = true) (hcode : Cond.codeWith y bytes maxL ret hh ∈ ws) (hinit : ∀ a' U, s.WarmedH U.vm → (Cond.initialized y.cls).before a' U = true) :
    vx_Back l R p e below s sargs y len W9 (PreOf R mc ms Pc) (PostOf Qc mc ms free) (vx_Post XC mc ms free) := by
  intro m meth c A g ig mk a X hg hsize hdg hW hn hp
  have h1 : (headSpec ws rm).pre.before a A.U = true := atoms_intro fun w hw => hws w hw _ _ X.warmed
  have h2 : (Cond.codeWith y bytes maxL ret hh).before a A.U = true := hws _ hcode _ _ X.warmed
  have h3 : (Cond.initialized y.cls).before a A.U = true := hinit _ _ X.warmed
  have h4 : A.cells + (headSpec ws rm).room.cells ≤ R.cells := by rw [show (headSpec ws rm).room.cells = mc from hrc]; exact hp.1
  have h5 : A.slots + (headSpec ws rm).room.slots ≤ R.slots := by rw [show (headSpec ws rm).room.slots = ms from hrs]; exact hp.2.1
  have hPc : Pc a (A.U.calling g mk a) := hblind _ _ _ _ hp.2.2
  obtain ⟨U, Ls, c0, s0⟩ := A
  dsimp only [Pt.U, Pt.locs, Pt.cells, Pt.slots] at h1 h2 h3 h4 h5 X hn hPc ⊢
  obtain ⟨m9, methY, cY, hn9, hmY, hcY, -, hlY, -⟩ := Cond.codeWith_spec h2
  cases Option.some.inj (hn9.symm.trans hn)
  obtain ⟨kY, hkY, -⟩ := className_of_methodNamed hn
  have hinitY : kY.init = .initialized := Cond.initialized_spec (findClass_of_methodNamed hn) hkY h3
  have h : At U g.method c below := by rw [hg]; exact X.here
  have hlocals9 : W9 + (maxL + 11) + (headSpec ws rm).room.locals ≤ R.locals := hlocals
  have happ : (headSpec ws rm).appliesLoose y e.platform (U.calling g mk a) = true :=
    Spec.appliesLoose_calling (g := g) h hdg hn hkY hinitY
      (X.room_calling (g := g) (R' := (headSpec ws rm).room) hsize hmY hcY hframes (by rw [hlY]; omega) h4 h5) h1
  obtain ⟨mid, hmid⟩ := h.above
  have hfr : (U.setTop g).frames = (.java g :: mid) ++ below := by rw [State.frames_setTop' g h.top, hmid]; rfl
  obtain ⟨o, s₂, hsteps, -, hend, hq⟩ := Steps.callFree hM p X.admits X.cas X.clock (acts := []) hfr happ hPc trivial
  have hq' : vx_Q Qc XC mc ms free a (U.calling g mk a) o s₂ := hq
  rw [State.frames_setTop' g h.top] at hend
  obtain ⟨g₀, hg0⟩ := Option.isSome_iff_exists.mp h.top
  obtain ⟨r, hr⟩ := State.topJava?_eq_some.mp hg0
  have hr' : (({ U with heap := s₂.heap, slotsUsed := s₂.slotsUsed } : State).setVm s₂.vm).frames = .java g₀ :: r := hr
  rcases hq' with ⟨hqc, L, hfe, hL⟩ | ⟨q, rfl, E, ce, L, hx, hce, hcv, hcl, hW₂, hsm, hL⟩
  · obtain ⟨⟨v, rfl⟩, hW₂, e2, q2, q3, q4, q5, q6⟩ := id hfe
    have e3 : s₂ = ({ (U.calling g mk a).setFrames s₂.frames with heap := s₂.heap, slotsUsed := s₂.slotsUsed } : State).setVm s₂.vm := by
      have : s₂ = ({ s₂ with vm := (U.calling g mk a).vm } : State).setVm s₂.vm := rfl
      rw [e2] at this
      exact this
    obtain ⟨c₂, i₂, len₂, hc₂, hd₂, hf₂⟩ := hend
    have hW' : U.WarmedH s₂.vm := hW₂
    have hcc : c₂ = c := by
      have h1 : s₂.code? g.method = U.code? g.method := by
        rw [State.code?_eq, State.code?_eq, hW'.alike.method?]
      exact Option.some.inj (hc₂.symm.trans (h1.trans h.code))
    subst hcc
    have hlen : len₂ = len := by rw [hdg] at hd₂; cases hd₂; rfl
    subst hlen
    have hs₂ : s₂ = (({ U with heap := s₂.heap, slotsUsed := s₂.slotsUsed } : State).setVm s₂.vm).setTop { g with pc := g.pc + len₂, stack := v.toList ++ g.stack } := by
      refine e3.trans ?_
      rw [hf₂, State.calling_eq h.top, State.setFrames_setFrames, State.setTop_of_frames _ hr', hr]
      rfl
    have hsame : U.sameButNew ({ U with heap := s₂.heap, slotsUsed := s₂.slotsUsed } : State) L mc ms := by
      refine ⟨?_, q2, q3, q4, q5, q6⟩
      obtain ⟨t, ht, -⟩ := State.frames_cons hr
      show ({ U with heap := s₂.heap, slotsUsed := s₂.slotsUsed } : State) = { U.setFrames U.frames with heap := s₂.heap, slotsUsed := s₂.slotsUsed }
      rw [State.setFrames_self ht]
    subst hg
    refine Or.inl ⟨v, ⟨(({ U with heap := s₂.heap, slotsUsed := s₂.slotsUsed } : State).setVm s₂.vm), Ls ++ L, c0 + mc, s0 + ms⟩,
      ⟨X.admits, X.cas, X.clock, X.frames, X.room, X.hears, X.method, X.code, (X.here.setHeapUsed s₂.heap s₂.slotsUsed).setVm hW'.alike, X.tail, State.WarmedH.trans X.warmed hW', X.limits, X.bytes, X.same.trans (hsame.setVm s.vm)⟩,
      ⟨g, mk, s₂, L, rfl, rfl, hqc, rfl, hL, rfl, rfl⟩, ?_⟩
    show Steps p.tables e below _ ((({ U with heap := s₂.heap, slotsUsed := s₂.slotsUsed } : State).setVm s₂.vm).setTop { g with pc := g.pc + len₂, stack := v.toList ++ g.stack })
    rw [← hs₂]
    exact hsteps
  · obtain ⟨e2, q2, q3, q4, q5, q6⟩ := id hsm
    have e3 : s₂ = ({ (U.calling g mk a).setFrames s₂.frames with heap := s₂.heap, slotsUsed := s₂.slotsUsed } : State).setVm s₂.vm := by
      have : s₂ = ({ s₂ with vm := (U.calling g mk a).vm } : State).setVm s₂.vm := rfl
      rw [e2] at this
      exact this
    have hf₂ : s₂.frames = .throwing q :: .java g :: U.frames.tail := hend
    have hW' : U.WarmedH s₂.vm := hW₂
    have hs₂ : s₂ = ((({ U with heap := s₂.heap, slotsUsed := s₂.slotsUsed } : State).setVm s₂.vm).setTop g).pushFrame (.throwing q) := by
      refine e3.trans ?_
      rw [hf₂, State.calling_eq h.top, State.setFrames_setFrames, State.pushFrame, State.frames_setTop _ hr', State.setTop_of_frames _ hr', State.setFrames_setFrames, hr]
      rfl
    have hsame : U.sameButNew ({ U with heap := s₂.heap, slotsUsed := s₂.slotsUsed } : State) L mc ms := by
      refine ⟨?_, q2, q3, q4, q5, q6⟩
      obtain ⟨t, ht, -⟩ := State.frames_cons hr
      show ({ U with heap := s₂.heap, slotsUsed := s₂.slotsUsed } : State) = { U.setFrames U.frames with heap := s₂.heap, slotsUsed := s₂.slotsUsed }
      rw [State.setFrames_self ht]
    subst hg
    refine Or.inr ⟨q, ⟨(({ U with heap := s₂.heap, slotsUsed := s₂.slotsUsed } : State).setVm s₂.vm), Ls ++ L, c0 + mc, s0 + ms⟩,
      ⟨X.admits, X.cas, X.clock, X.frames, X.room, X.hears, X.method, X.code, (X.here.setHeapUsed s₂.heap s₂.slotsUsed).setVm hW'.alike, X.tail, State.WarmedH.trans X.warmed hW', X.limits, X.bytes, X.same.trans (hsame.setVm s.vm)⟩,
      ⟨g, mk, s₂, L, E, ce, rfl, rfl, hx, hce, hcv, hcl, rfl, hL, rfl, rfl⟩, ?_⟩
    show Steps p.tables e below _ (((({ U with heap := s₂.heap, slotsUsed := s₂.slotsUsed } : State).setVm s₂.vm).setTop g).pushFrame (.throwing q))
    rw [← hs₂]
    exact hsteps
end
variable {p : Program} {l : Launch} {e : Env} {R : Room} {s : State} {m : MethodId} {args : Array Value} {below : List Frame} {meth : Method} {c : Code} {T : State} {H : Heap} {locs : List Loc} {cells slots : Nat}
theorem vx_callVX (X : Stand p l e R s m args below meth c T locs cells slots) (hexec : p.tables.exec = Jvm.exec) {own C : String} {index : Nat} {y : MethodName} {bytes : ByteArray} {maxL : Nat} {ret : Option FieldType} {hh : List (Nat × Nat × Nat × Nat)}
    (hown : s.vm.findClass own = some m.cls) (hlink : (Cond.methodLink own index y).before args s = true) (hinst : (Cond.instanceMethod y).before args s = true) (hsel : (Cond.selects C y y).before args s = true)
    (hcode : (Cond.codeWith y bytes maxL ret hh).before args s = true) (hy : y.cls ≠ "java/lang/invoke/MethodHandle" ∧ y.cls ≠ "java/lang/invoke/VarHandle")
    {W9 : Nat} {Pre : Pt → Array Value → Prop} {Post : Pt → Array Value → Option Value → Pt → Prop} {PostX : Pt → Array Value → Addr → Pt → Prop} (hK : vx_Back l R p e below s args y 3 W9 Pre Post PostX)
    {b : Addr} {cellB : Cell} (hcell : T.heap[b]? = some cellB) (hobj : cellB.vm.isStatics = false) (hcls : s.vm.findClass C = some cellB.cls)
    {g : JFrame} (hg : g.method = m) (hsize : g.locals.size = c.maxLocals) {argsL rest : List Value} (hlen : ∀ sig, parseMethodDescriptor y.desc = some sig → argsL.length = sig.parameters.length)
    (hstack : g.stack = argsL.reverse ++ .ref b :: rest) (hW : 2 * g.monitorRoom + (rest.map fun v => v.category).sum ≤ W9) (hdg : decode c.code g.pc = .ok (.invokevirtual index, 3))
    (hpre : ∀ vm₁, s.WarmedH vm₁ → Pre ⟨T.setVm vm₁, locs, cells, slots⟩ (Value.ref b :: argsL).toArray) :
    (∃ (v : Option Value) (vm₁ : Vm) (B : Pt), s.WarmedH vm₁ ∧ Stand p l e R s m args below meth c B.U B.locs B.cells B.slots ∧ Post ⟨T.setVm vm₁, locs, cells, slots⟩ (Value.ref b :: argsL).toArray v B ∧
      ∀ target, Steps p.tables e below (B.U.setTop { g with pc := g.pc + 3, stack := v.toList ++ rest }) target → Steps p.tables e below (T.setTop g) target) ∨
    (∃ (q : Addr) (vm₁ : Vm) (B : Pt), s.WarmedH vm₁ ∧ Stand p l e R s m args below meth c B.U B.locs B.cells B.slots ∧ PostX ⟨T.setVm vm₁, locs, cells, slots⟩ (Value.ref b :: argsL).toArray q B ∧
      Steps p.tables e below (T.setTop g) ((B.U.setTop { g with stack := rest }).pushFrame (.throwing q))) := by
  obtain ⟨mk, methM, hnamed, hmethM, hstM, habM⟩ := Cond.instanceMethod_spec hinst
  obtain ⟨m8, methM', cM, hn8, hmethM', -, -, -, -, -, -, hsigM⟩ := Cond.codeWith_spec hcode
  cases Option.some.inj (hn8.symm.trans hnamed)
  cases hmethM.symm.trans hmethM'
  obtain ⟨c2, r2, m2, q1, q2, q3, q4, kP, hkP, hkPi⟩ := Cond.selects_spec hsel
  cases hcls.symm.trans q1
  cases (State.methodFound?_of_named hnamed hy).symm.trans q2
  cases hnamed.symm.trans q3
  have hselP : selectMethod e.platform s.vm cellB.cls mk = .method mk := by rw [Launch.admits_selectMethod X.admits]; exact q4
  obtain ⟨vm₁, X₁, hstep₁⟩ := X.invokevirtual hexec hown hlink hnamed hmethM hstM hkP hkPi hy (a := b) (cell := cellB) hcell
    (fun z h => by rw [h] at hobj; cases hobj) hselP hmethM habM hkP hkPi (g := g) hg (argsL := argsL) (rest := rest) (hlen _ hsigM) hstack hdg
  rcases hK m meth c ⟨T.setVm vm₁, locs, cells, slots⟩ { g with stack := rest } (.invokevirtual index) mk (Value.ref b :: argsL).toArray X₁ hg hsize hdg hW (X₁.named hnamed) (hpre vm₁ X₁.warmed) with ⟨v, B, X', hpost, hsteps⟩ | ⟨q, B, X', hpost, hsteps⟩
  · exact Or.inl ⟨v, vm₁, B, X₁.warmed, X', hpost, fun target h => hstep₁ _ fun acts => by rw [doInvoke_state]; exact hsteps.trans h⟩
  · exact Or.inr ⟨q, vm₁, B, X₁.warmed, X', hpost, hstep₁ _ fun acts => by rw [doInvoke_state]; exact hsteps⟩
theorem vx_callSX (X : Stand p l e R s m args below meth c T locs cells slots) (hexec : p.tables.exec = Jvm.exec) {own : String} {index : Nat} {y : MethodName} {bytes : ByteArray} {maxL : Nat} {ret : Option FieldType} {hh : List (Nat × Nat × Nat × Nat)}
    (hown : s.vm.findClass own = some m.cls) (hlink : (Cond.methodLink own index y).before args s = true) (hstat : (Cond.static y).before args s = true) (hinit : (Cond.initialized y.cls).before args s = true)
    (hcode : (Cond.codeWith y bytes maxL ret hh).before args s = true) (hy : y.cls ≠ "java/lang/invoke/MethodHandle" ∧ y.cls ≠ "java/lang/invoke/VarHandle")
    {W9 : Nat} {Pre : Pt → Array Value → Prop} {Post : Pt → Array Value → Option Value → Pt → Prop} {PostX : Pt → Array Value → Addr → Pt → Prop} (hK : vx_Back l R p e below s args y 3 W9 Pre Post PostX)
    {g : JFrame} (hg : g.method = m) (hsize : g.locals.size = c.maxLocals) {argsL rest : List Value} (hlen : ∀ sig, parseMethodDescriptor y.desc = some sig → argsL.length = sig.parameters.length)
    (hstack : g.stack = argsL.reverse ++ rest) (hW : 2 * g.monitorRoom + (rest.map fun v => v.category).sum ≤ W9) (hdg : decode c.code g.pc = .ok (.invokestatic index, 3))
    (hpre : ∀ vm₁, s.WarmedH vm₁ → Pre ⟨T.setVm vm₁, locs, cells, slots⟩ argsL.toArray) :
    (∃ (v : Option Value) (vm₁ : Vm) (B : Pt), s.WarmedH vm₁ ∧ Stand p l e R s m args below meth c B.U B.locs B.cells B.slots ∧ Post ⟨T.setVm vm₁, locs, cells, slots⟩ argsL.toArray v B ∧
      ∀ target, Steps p.tables e below (B.U.setTop { g with pc := g.pc + 3, stack := v.toList ++ rest }) target → Steps p.tables e below (T.setTop g) target) ∨
    (∃ (q : Addr) (vm₁ : Vm) (B : Pt), s.WarmedH vm₁ ∧ Stand p l e R s m args below meth c B.U B.locs B.cells B.slots ∧ PostX ⟨T.setVm vm₁, locs, cells, slots⟩ argsL.toArray q B ∧
      Steps p.tables e below (T.setTop g) ((B.U.setTop { g with stack := rest }).pushFrame (.throwing q))) := by
  obtain ⟨mk, methM, cM, hnamed, hmethM, -, -, -, -, -, -, hsigM⟩ := Cond.codeWith_spec hcode
  have hstatic : methM.isStatic = true := Cond.static_spec hnamed hmethM hstat
  obtain ⟨kP, hkP, -⟩ := className_of_methodNamed hnamed
  have hinitP : kP.init = .initialized := Cond.initialized_spec (findClass_of_methodNamed hnamed) hkP hinit
  obtain ⟨vm₁, X₁, hstep₁⟩ := X.invokestatic hexec hown hlink hnamed hmethM hstatic hkP hinitP hy (g := g) hg (argsL := argsL) (rest := rest) (hlen _ hsigM) hstack hdg
  rcases hK m meth c ⟨T.setVm vm₁, locs, cells, slots⟩ { g with stack := rest } (.invokestatic index) mk argsL.toArray X₁ hg hsize hdg hW (X₁.named hnamed) (hpre vm₁ X₁.warmed) with ⟨v, B, X', hpost, hsteps⟩ | ⟨q, B, X', hpost, hsteps⟩
  · exact Or.inl ⟨v, vm₁, B, X₁.warmed, X', hpost, fun target h => hstep₁ _ fun acts => by rw [doInvoke_state]; exact hsteps.trans h⟩
  · exact Or.inr ⟨q, vm₁, B, X₁.warmed, X', hpost, hstep₁ _ fun acts => by rw [doInvoke_state]; exact hsteps⟩
theorem vx_callVW (X : Stand p l e R s m args below meth c T locs cells slots) (hexec : p.tables.exec = Jvm.exec) {own C : String} {index : Nat} {y : MethodName} {bytes : ByteArray} {maxL : Nat} {ret : Option FieldType} {hh : List (Nat × Nat × Nat × Nat)}
    (hown : s.vm.findClass own = some m.cls) (hlink : (Cond.methodLink own index y).before args s = true) (hinst : (Cond.instanceMethod y).before args s = true) (hsel : (Cond.selects C y y).before args s = true)
    (hcode : (Cond.codeWith y bytes maxL ret hh).before args s = true) (hy : y.cls ≠ "java/lang/invoke/MethodHandle" ∧ y.cls ≠ "java/lang/invoke/VarHandle")
    {W9 : Nat} {Pre : Pt → Array Value → Prop} {Post : Pt → Array Value → Option Value → Pt → Prop} (hK : Back l R p e below s args y 3 W9 Pre Post)
    {b : Addr} {cellB : Cell} (hcell : T.heap[b]? = some cellB) (hobj : cellB.vm.isStatics = false) (hcls : s.vm.findClass C = some cellB.cls)
    {g : JFrame} (hg : g.method = m) (hsize : g.locals.size = c.maxLocals) {argsL rest : List Value} (hlen : ∀ sig, parseMethodDescriptor y.desc = some sig → argsL.length = sig.parameters.length)
    (hstack : g.stack = argsL.reverse ++ .ref b :: rest) (hW : 2 * g.monitorRoom + (rest.map fun v => v.category).sum ≤ W9) (hdg : decode c.code g.pc = .ok (.invokevirtual index, 3))
    (hpre : ∀ vm₁, s.WarmedH vm₁ → Pre ⟨T.setVm vm₁, locs, cells, slots⟩ (Value.ref b :: argsL).toArray) :
    ∃ (v : Option Value) (vm₁ : Vm) (B : Pt), s.WarmedH vm₁ ∧ Stand p l e R s m args below meth c B.U B.locs B.cells B.slots ∧ Post ⟨T.setVm vm₁, locs, cells, slots⟩ (Value.ref b :: argsL).toArray v B ∧
      ∀ target, Steps p.tables e below (B.U.setTop { g with pc := g.pc + 3, stack := v.toList ++ rest }) target → Steps p.tables e below (T.setTop g) target := by
  obtain ⟨mk, methM, hnamed, hmethM, hstM, habM⟩ := Cond.instanceMethod_spec hinst
  obtain ⟨m8, methM', cM, hn8, hmethM', -, -, -, -, -, -, hsigM⟩ := Cond.codeWith_spec hcode
  cases Option.some.inj (hn8.symm.trans hnamed)
  cases hmethM.symm.trans hmethM'
  obtain ⟨c2, r2, m2, q1, q2, q3, q4, kP, hkP, hkPi⟩ := Cond.selects_spec hsel
  cases hcls.symm.trans q1
  cases (State.methodFound?_of_named hnamed hy).symm.trans q2
  cases hnamed.symm.trans q3
  have hselP : selectMethod e.platform s.vm cellB.cls mk = .method mk := by rw [Launch.admits_selectMethod X.admits]; exact q4
  obtain ⟨vm₁, X₁, hstep₁⟩ := X.invokevirtual hexec hown hlink hnamed hmethM hstM hkP hkPi hy (a := b) (cell := cellB) hcell
    (fun z h => by rw [h] at hobj; cases hobj) hselP hmethM habM hkP hkPi (g := g) hg (argsL := argsL) (rest := rest) (hlen _ hsigM) hstack hdg
  obtain ⟨v, B, X', hpost, hsteps⟩ := hK m meth c ⟨T.setVm vm₁, locs, cells, slots⟩ { g with stack := rest } (.invokevirtual index) mk (Value.ref b :: argsL).toArray X₁ hg hsize hdg hW (X₁.named hnamed) (hpre vm₁ X₁.warmed)
  exact ⟨v, vm₁, B, X₁.warmed, X', hpost, fun target h => hstep₁ _ fun acts => by rw [doInvoke_state]; exact hsteps.trans h⟩
abbrev vx_CVW (R : Room) (s : State) (args : Array Value) (own C : String) (index : Nat) (y : MethodName) (bytes : ByteArray) (maxL : Nat) (ret : Option FieldType) (hh : List (Nat × Nat × Nat × Nat)) (ws : List Cond) (rm : Room) (mc ms n : Nat) : Prop :=
  (rm.cells = mc ∧ rm.slots = ms ∧ rm.frames + 1 ≤ R.frames ∧ 8 + (maxL + 11) + rm.locals ≤ R.locals ∧ (∀ w ∈ ws, ∀ (a' : Array Value) (U : State), s.WarmedH U.vm → w.before a' U = true) ∧ Cond.codeWith y bytes maxL ret hh ∈ ws) ∧
  (Cond.codeWith y bytes maxL ret hh).before args s = true ∧ (Cond.initialized y.cls).before args s = true ∧ (y.cls ≠ "java/lang/invoke/MethodHandle" ∧ y.cls ≠ "java/lang/invoke/VarHandle") ∧
  (∀ sig, parseMethodDescriptor y.desc = some sig → n = sig.parameters.length) ∧ (Cond.methodLink own index y).before args s = true ∧ (Cond.instanceMethod y).before args s = true ∧ (Cond.selects C y y).before args s = true
theorem vx_cwVW {own C : String} {index maxL mc ms : Nat} {y : MethodName} {bytes : ByteArray} {ret : Option FieldType} {hh : List (Nat × Nat × Nat × Nat)} {Ts ws ws' : List Cond} {rm : Room} (n : Nat) (ht : ∀ w ∈ Ts, w.before args s = true) (hT : GoodIn Ts (wsV own index C y ws)) (hw : ws = Cond.codeWith y bytes maxL ret hh :: ws') (hrc : rm.cells = mc) (hrs : rm.slots = ms)
    (hd : y.cls = C ∧ y.cls ≠ "java/lang/invoke/MethodHandle" ∧ y.cls ≠ "java/lang/invoke/VarHandle" ∧ (parseMethodDescriptor y.desc).map (fun d => d.parameters.length) = some n) (hR : rm.frames + 1 ≤ R.frames ∧ 8 + (maxL + 11) + rm.locals ≤ R.locals) :
    vx_CVW R s args own C index y bytes maxL ret hh ws rm mc ms n := by
  obtain ⟨hC, hd⟩ := hd
  subst hC
  have ok : ∀ w ∈ wsV own index y.cls y ws, w.before args s = true := fun w h => ht w (hT w h).1
  have hG : GoodIn Ts ws := fun w h => hT w (by unfold wsV; exact List.mem_append_right _ h)
  have hc : Cond.codeWith y bytes maxL ret hh ∈ ws := by rw [hw]; exact List.mem_cons_self
  refine ⟨⟨hrc, hrs, hR.1, hR.2, pay_in ht hG, hc⟩, ht _ (hG _ hc).1, ok _ (by simp [wsV]), ⟨hd.1, hd.2.1⟩, fun sig h => ?_, ok _ (by simp [wsV]), ok _ (by simp [wsV]), ok _ (by simp [wsV])⟩
  have h2 := hd.2.2
  rw [h] at h2
  exact (Option.some.inj h2).symm
theorem vx_runVW {y : MethodName} {bytes cc : ByteArray} {maxL nL mc ms n index : Nat} {ret : Option FieldType} {hh : List (Nat × Nat × Nat × Nat)} {ws : List Cond} {rm : Room} {Pc : Array Value → State → Prop} {Qc : Array Value → State → Outcome → State → Prop} {free : Addr → Prop} {Ts : List Cond} {own C : String} {b : Addr} {As rest : List Value} {g : JFrame}
    (S : CallFix p m c cc nL s args Ts own) (hM : Met l y ws rm Pc Qc mc ms free) (cw : vx_CVW R s args own C index y bytes maxL ret hh ws rm mc ms n) (hp : PreV s H C b Pc As)
    (hg : g.method = m) (hn : As.length = n) (hsize : g.locals.size = nL) (hstack : g.stack = As.reverse ++ .ref b :: rest) (hW : 2 * g.monitorRoom + (rest.map fun v => v.category).sum ≤ 8) (hdg : decode cc g.pc = .ok (.invokevirtual index, 3)) (hf : cells + mc ≤ R.cells ∧ slots + ms ≤ R.slots) :
    va_Run p l e R s m args below meth c H locs cells slots mc ms g rest (Qc (Value.ref b :: As).toArray) free := by
  obtain ⟨⟨hrc, hrs, hfr, hlo, hws, hcw⟩, hcode, hini, hy, hlen, hl, hin, hse⟩ := cw
  have hK : Back l R p e below s args y 3 8 (PreOf R mc ms Pc) (PostOf Qc mc ms free) := va_backW (hh := hh) (bytes := bytes) (maxL := maxL) (ret := ret) hM hp.1 hrc hrs hfr hlo hws hcw (fun a' U hW => word_at hW (Or.inl (by first | rfl | simp [Cond.onTables, Cond.keeps, Cond.steady])) hini)
  obtain ⟨hx, hb, hml, ho, -⟩ := S
  obtain ⟨-, ⟨cellB, hcB, hoB, hclB⟩, hPc⟩ := hp
  intro T hT X
  obtain ⟨v, vm₁, ⟨U', l2, c2, s2⟩, hW₁, X', ⟨g', mk, t, L, e1, e2, hq, h1, hL, h2, h3⟩, st⟩ := vx_callVW X hx (C := C) (hh := hh) (bytes := bytes) (maxL := maxL) (ret := ret) ho hl hin hse hcode hy hK (by rw [hT]; exact hcB) hoB hclB hg (hsize.trans hml.symm) (argsL := As) (rest := rest) (fun sig h => hn.trans (hlen sig h)) hstack hW (by rw [hb]; exact hdg)
    (fun vm₁ hW₁ => ⟨hf.1, hf.2, hPc (T.setVm vm₁) hT hW₁⟩)
  dsimp only [Pt.U, Pt.locs, Pt.cells, Pt.slots] at X' e1 e2 h1 h2 h3 st
  subst h1; subst h2; subst h3
  exact ⟨v, (T.setVm vm₁).calling g' mk (Value.ref b :: As).toArray, t, U', L, hT, X', hL, e1, e2, hq, st⟩
section
variable {y : MethodName} {bytes cc : ByteArray} {maxL nL mc ms n index : Nat} {ret : Option FieldType} {ws : List Cond} {rm : Room} {Pc : Array Value → State → Prop} {Qc : Array Value → State → Outcome → State → Prop} {XC : String → State → State → Prop} {free : Addr → Prop} {Ts : List Cond} {own C : String} {b : Addr} {As rest : List Value} {g : JFrame}
theorem vx_runVX {hh : List (Nat × Nat × Nat × Nat)} (S : CallFix p m c cc nL s args Ts own) (hM : vx_Met l y ws rm Pc Qc XC mc ms free) (cw : vx_CVW R s args own C index y bytes maxL ret hh ws rm mc ms n) (hp : PreV s H C b Pc As)
    (hg : g.method = m) (hn : As.length = n) (hsize : g.locals.size = nL) (hstack : g.stack = As.reverse ++ .ref b :: rest) (hW : 2 * g.monitorRoom + (rest.map fun v => v.category).sum ≤ 8) (hdg : decode cc g.pc = .ok (.invokevirtual index, 3)) (hf : cells + mc ≤ R.cells ∧ slots + ms ≤ R.slots) :
    vx_Run p l e R s m args below meth c H locs cells slots mc ms g rest (Qc (Value.ref b :: As).toArray) XC free := by
  obtain ⟨⟨hrc, hrs, hfr, hlo, hws, hcw⟩, hcode, hini, hy, hlen, hl, hin, hse⟩ := cw
  have hK : vx_Back l R p e below s args y 3 8 (PreOf R mc ms Pc) (PostOf Qc mc ms free) (vx_Post XC mc ms free) := vx_backW (hh := hh) (bytes := bytes) (maxL := maxL) (ret := ret) hM hp.1 hrc hrs hfr hlo hws hcw (fun a' U hW => word_at hW (Or.inl (by first | rfl | simp [Cond.onTables, Cond.keeps, Cond.steady])) hini)
  obtain ⟨hx, hb, hml, ho, -⟩ := S
  obtain ⟨-, ⟨cellB, hcB, hoB, hclB⟩, hPc⟩ := hp
  intro T hT X
  rcases vx_callVX X hx (C := C) (hh := hh) (bytes := bytes) (maxL := maxL) (ret := ret) ho hl hin hse hcode hy hK (by rw [hT]; exact hcB) hoB hclB hg (hsize.trans hml.symm) (argsL := As) (rest := rest) (fun sig h => hn.trans (hlen sig h)) hstack hW (by rw [hb]; exact hdg)
    (fun vm₁ hW₁ => ⟨hf.1, hf.2, hPc (T.setVm vm₁) hT hW₁⟩) with ⟨v, vm₁, ⟨U', l2, c2, s2⟩, hW₁, X', ⟨g', mk, t, L, e1, e2, hq, h1, hL, h2, h3⟩, st⟩ | ⟨q, vm₁, ⟨U', l2, c2, s2⟩, hW₁, X', ⟨g', mk, t, L, E, ce, e1, e2, hq, hce, hcv, hcl, h1, hL, h2, h3⟩, st⟩
  · dsimp only [Pt.U, Pt.locs, Pt.cells, Pt.slots] at X' e1 e2 h1 h2 h3 st
    subst h1; subst h2; subst h3
    exact Or.inl ⟨v, (T.setVm vm₁).calling g' mk (Value.ref b :: As).toArray, t, U', L, hT, X', hL, e1, e2, hq, st⟩
  · dsimp only [Pt.U, Pt.locs, Pt.cells, Pt.slots] at X' e1 e2 h1 h2 h3 st hcl
    subst h1; subst h2; subst h3
    exact Or.inr ⟨q, (T.setVm vm₁).calling g' mk (Value.ref b :: As).toArray, t, U', L, E, ce, hT, X', hL, e1, e2, hq, hce, hcv, vx_cls hW₁ hcl, st⟩
theorem vx_runSX {hh : List (Nat × Nat × Nat × Nat)} (S : CallFix p m c cc nL s args Ts own) (hM : vx_Met l y ws rm Pc Qc XC mc ms free) (cw : vx_CSW R s args own index y bytes maxL ret hh ws rm mc ms n) (hp : PreS s H Pc As)
    (hg : g.method = m) (hn : As.length = n) (hsize : g.locals.size = nL) (hstack : g.stack = As.reverse ++ rest) (hW : 2 * g.monitorRoom + (rest.map fun v => v.category).sum ≤ 8) (hdg : decode cc g.pc = .ok (.invokestatic index, 3)) (hf : cells + mc ≤ R.cells ∧ slots + ms ≤ R.slots) :
    vx_Run p l e R s m args below meth c H locs cells slots mc ms g rest (Qc As.toArray) XC free := by
  obtain ⟨⟨hrc, hrs, hfr, hlo, hws, hcw⟩, hcode, hini, hy, hlen, hl, hstt⟩ := cw
  have hK : vx_Back l R p e below s args y 3 8 (PreOf R mc ms Pc) (PostOf Qc mc ms free) (vx_Post XC mc ms free) := vx_backW (hh := hh) (bytes := bytes) (maxL := maxL) (ret := ret) hM hp.1 hrc hrs hfr hlo hws hcw (fun a' U hW => word_at hW (Or.inl (by first | rfl | simp [Cond.onTables, Cond.keeps, Cond.steady])) hini)
  obtain ⟨hx, hb, hml, ho, -⟩ := S
  intro T hT X
  rcases vx_callSX X hx (hh := hh) (bytes := bytes) (maxL := maxL) (ret := ret) ho hl hstt hini hcode hy hK hg (hsize.trans hml.symm) (argsL := As) (rest := rest) (fun sig h => hn.trans (hlen sig h)) hstack hW (by rw [hb]; exact hdg)
    (fun vm₁ hW₁ => ⟨hf.1, hf.2, hp.2 (T.setVm vm₁) hT hW₁⟩) with ⟨v, vm₁, ⟨U', l2, c2, s2⟩, hW₁, X', ⟨g', mk, t, L, e1, e2, hq, h1, hL, h2, h3⟩, st⟩ | ⟨q, vm₁, ⟨U', l2, c2, s2⟩, hW₁, X', ⟨g', mk, t, L, E, ce, e1, e2, hq, hce, hcv, hcl, h1, hL, h2, h3⟩, st⟩
  · dsimp only [Pt.U, Pt.locs, Pt.cells, Pt.slots] at X' e1 e2 h1 h2 h3 st
    subst h1; subst h2; subst h3
    exact Or.inl ⟨v, (T.setVm vm₁).calling g' mk As.toArray, t, U', L, hT, X', hL, e1, e2, hq, st⟩
  · dsimp only [Pt.U, Pt.locs, Pt.cells, Pt.slots] at X' e1 e2 h1 h2 h3 st hcl
    subst h1; subst h2; subst h3
    exact Or.inr ⟨q, (T.setVm vm₁).calling g' mk As.toArray, t, U', L, E, ce, hT, X', hL, e1, e2, hq, hce, hcv, vx_cls hW₁ hcl, st⟩
end
end VXH
theorem vx_ofWH {l : Launch} {y : MethodName} {ws ws' : List Cond} {rm : Room} {Pc : Array Value → State → Prop} {Qc : Array Value → State → Outcome → State → Prop} {XC : String → State → State → Prop} {mc ms : Nat} {free : Addr → Prop} {cc : ByteArray} {maxL : Nat} {ret : Option FieldType} {hh : List (Nat × Nat × Nat × Nat)}
    (hy : plainName y.cls = true) (hw : ws = Cond.codeWith y cc maxL ret hh :: ws')
    (body : ∀ p e s m args below meth c s₁, BodyLoose p l y (headSpec ws rm) cc maxL ret e s m args below meth c s₁ → c.maxLocals = maxL → Pc args s →
      W p l e (headSpec ws rm).room s m args below meth c s.heap [] 0 0 (vx_MQ below Qc XC args s mc ms free) (entryFrame m args maxL)) : vx_Met l y ws rm Pc Qc XC mc ms free := by
  refine MetFree.of_bodyS (code := cc) (maxLocals := maxL) (ret := ret) hy ?_ ?_
  · intro args s m h hn
    obtain ⟨m9, meth, c, hn9, h1, h2, h3, h4, -, h5, h6, -⟩ := Cond.codeWith_spec (atoms_spec (ws := ws) h _ (by rw [hw]; exact List.mem_cons_self))
    cases hn.symm.trans hn9
    exact ⟨meth, c, h1, h2, h3, h4, h5, h6⟩
  · intro p e s m args below meth c s₁ B hml hP _
    have hh0 : s₁.heap = s.heap := by rw [B.state]; rfl
    obtain ⟨t, a1, o, b1, b2, b3⟩ := body p e s m args below meth c s₁ B hml hP s₁ hh0 (Stand.of_body B)
    exact ⟨t, o, a1, b1, b2, b3⟩
/-! ===== END ===== -/
end
section
/-! names, words, fields, the rows that decode each instruction: by program out of the claim's own files (wip/whole/mk02.py) -/
def kG : List Cond := lw_tbl.filter goodWord
theorem k_inT {w : Cond} {i : Nat} (h : tables_1[i]? = some w) (g : goodWord w = true) : w ∈ kG := List.mem_filter.mpr ⟨List.mem_append_right _ (List.mem_of_getElem? h), g⟩
theorem k_in1 {w : Cond} {i : Nat} (h : tables_1_1[i]? = some w) (g : goodWord w = true) : w ∈ kG := List.mem_filter.mpr ⟨List.mem_append_right _ (show w ∈ tables_1_1 ++ (tables_1_2 ++ (tables_1_3 ++ (tables_1_4 ++ tables_1_5))) from (List.mem_append_left _ (List.mem_of_getElem? h))), g⟩
theorem k_in2 {w : Cond} {i : Nat} (h : tables_1_2[i]? = some w) (g : goodWord w = true) : w ∈ kG := List.mem_filter.mpr ⟨List.mem_append_right _ (show w ∈ tables_1_1 ++ (tables_1_2 ++ (tables_1_3 ++ (tables_1_4 ++ tables_1_5))) from (List.mem_append_right _ (List.mem_append_left _ (List.mem_of_getElem? h)))), g⟩
theorem k_in3 {w : Cond} {i : Nat} (h : tables_1_3[i]? = some w) (g : goodWord w = true) : w ∈ kG := List.mem_filter.mpr ⟨List.mem_append_right _ (show w ∈ tables_1_1 ++ (tables_1_2 ++ (tables_1_3 ++ (tables_1_4 ++ tables_1_5))) from (List.mem_append_right _ (List.mem_append_right _ (List.mem_append_left _ (List.mem_of_getElem? h))))), g⟩
theorem k_in4 {w : Cond} {i : Nat} (h : tables_1_4[i]? = some w) (g : goodWord w = true) : w ∈ kG := List.mem_filter.mpr ⟨List.mem_append_right _ (show w ∈ tables_1_1 ++ (tables_1_2 ++ (tables_1_3 ++ (tables_1_4 ++ tables_1_5))) from (List.mem_append_right _ (List.mem_append_right _ (List.mem_append_right _ (List.mem_append_left _ (List.mem_of_getElem? h)))))), g⟩
theorem k_in5 {w : Cond} {i : Nat} (h : tables_1_5[i]? = some w) (g : goodWord w = true) : w ∈ kG := List.mem_filter.mpr ⟨List.mem_append_right _ (show w ∈ tables_1_1 ++ (tables_1_2 ++ (tables_1_3 ++ (tables_1_4 ++ tables_1_5))) from (List.mem_append_right _ (List.mem_append_right _ (List.mem_append_right _ (List.mem_append_right _ (List.mem_of_getElem? h)))))), g⟩
theorem k_inS {w : Cond} {i : Nat} (h : (k2_sels lw_privs)[i]? = some w) (g : goodWord w = true) : w ∈ kG := List.mem_filter.mpr ⟨List.mem_append_left _ (List.mem_of_getElem? h), g⟩
theorem k_inL {ws : List Cond} (ps : List Nat) (hp : ws = ps.filterMap (fun i => tables_1[i]?)) (hg : ws.all goodWord = true) : ∀ w ∈ ws, w ∈ kG := by
  intro w hw
  have h1 := List.all_eq_true.mp hg w hw
  rw [hp] at hw
  obtain ⟨i, -, hi⟩ := List.mem_filterMap.mp hw
  exact k_inT hi h1
theorem k_kG : ∀ w ∈ kG, goodWord w = true := fun w h => (List.mem_filter.mp h).2
def R_F : String := "SequenceMatch$Forest"
def R_Mt : String := "SequenceMatch$Matches"
def R_Nm : String := "SequenceMatch$Names"
def R_Pc : String := "SequenceMatch$Places"
def R_Pl : String := "SequenceMatch$Plan"
def R_Se : String := "SequenceMatch$Search"
def R_SM : String := "SequenceMatch"
def R_Md : String := "SequenceMatchModel"
def R_La : String := "SequenceMatchLaw"
def R_In : String := "java/lang/Integer"
def R_Ar : String := "java/util/Arrays"
def T_SM : u_T := fun k => match k with
  | 0 => ("SequenceMatch", "forest", "LSequenceMatch$Forest;", true)
  | 1 => ("SequenceMatch", "search", "LSequenceMatch$Search;", true)
  | 2 => ("SequenceMatch", "rulePatterns", "[I", true)
  | 3 => ("SequenceMatch", "ruleCount", "I", false)
  | 4 => ("SequenceMatch", "toldRules", "[I", true)
  | _ => ("SequenceMatch", "toldCount", "I", false)
def t_SM : Nat → FieldType := fun k => match k with
  | 0 => .object "SequenceMatch$Forest"
  | 1 => .object "SequenceMatch$Search"
  | 2 => .array .int
  | 3 => .int
  | 4 => .array .int
  | _ => .int
set_option maxRecDepth 20000 in
theorem n_SM : ∀ a, a < 6 → ∀ b, b < 6 → a ≠ b → (T_SM a).2.1 ≠ (T_SM b).2.1 := by decide +kernel
set_option maxRecDepth 20000 in
theorem t_SM_ok : ∀ k, k < 6 → parseFieldDescriptor (T_SM k).2.2.1 = some (t_SM k) := by decide +kernel
set_option maxRecDepth 20000 in
theorem in_SM : ∀ w ∈ u_ws R_SM T_SM 6, w ∈ kG := k_inL [180, 182, 184, 186, 188, 190] (by decide +kernel) (by decide +kernel)
def T_Md : u_T := fun k => match k with
  | 0 => ("SequenceMatchModel", "thrownCode", "I", false)
  | 1 => ("SequenceMatchModel", "trees", "I", false)
  | 2 => ("SequenceMatchModel", "sort", "[I", true)
  | 3 => ("SequenceMatchModel", "name", "[I", true)
  | 4 => ("SequenceMatchModel", "kind", "[I", true)
  | 5 => ("SequenceMatchModel", "count", "[I", true)
  | 6 => ("SequenceMatchModel", "parts", "[I", true)
  | 7 => ("SequenceMatchModel", "plain", "[Z", true)
  | 8 => ("SequenceMatchModel", "fixed", "[Z", true)
  | 9 => ("SequenceMatchModel", "depth", "[I", true)
  | 10 => ("SequenceMatchModel", "size", "[I", true)
  | 11 => ("SequenceMatchModel", "tests", "[I", true)
  | 12 => ("SequenceMatchModel", "testKind", "[I", true)
  | 13 => ("SequenceMatchModel", "testValue", "[I", true)
  | 14 => ("SequenceMatchModel", "rules", "I", false)
  | 15 => ("SequenceMatchModel", "rule", "[I", true)
  | 16 => ("SequenceMatchModel", "netCount", "I", false)
  | 17 => ("SequenceMatchModel", "net", "[I", true)
  | 18 => ("SequenceMatchModel", "kept", "I", false)
  | 19 => ("SequenceMatchModel", "keptMany", "[I", true)
  | 20 => ("SequenceMatchModel", "keptTree", "[I", true)
  | 21 => ("SequenceMatchModel", "many", "[I", true)
  | 22 => ("SequenceMatchModel", "row", "[I", true)
  | 23 => ("SequenceMatchModel", "bound", "I", false)
  | 24 => ("SequenceMatchModel", "boundName", "[I", true)
  | 25 => ("SequenceMatchModel", "tried", "I", false)
  | 26 => ("SequenceMatchModel", "most", "I", false)
  | 27 => ("SequenceMatchModel", "found", "I", false)
  | 28 => ("SequenceMatchModel", "spent", "Z", false)
  | 29 => ("SequenceMatchModel", "goals", "I", false)
  | 30 => ("SequenceMatchModel", "goalNode", "[I", true)
  | 31 => ("SequenceMatchModel", "goalTree", "[I", true)
  | 32 => ("SequenceMatchModel", "goalPart", "[I", true)
  | 33 => ("SequenceMatchModel", "goalUsed", "[I", true)
  | 34 => ("SequenceMatchModel", "goalNext", "[I", true)
  | 35 => ("SequenceMatchModel", "choices", "I", false)
  | 36 => ("SequenceMatchModel", "choiceGoal", "[I", true)
  | 37 => ("SequenceMatchModel", "choiceTaken", "[I", true)
  | 38 => ("SequenceMatchModel", "choiceBound", "[I", true)
  | 39 => ("SequenceMatchModel", "choiceGoals", "[I", true)
  | 40 => ("SequenceMatchModel", "left", "[I", true)
  | 41 => ("SequenceMatchModel", "right", "[I", true)
  | 42 => ("SequenceMatchModel", "place", "[I", true)
  | _ => ("SequenceMatchModel", "now", "[I", true)
def t_Md : Nat → FieldType := fun k => match k with
  | 0 => .int
  | 1 => .int
  | 2 => .array .int
  | 3 => .array .int
  | 4 => .array .int
  | 5 => .array .int
  | 6 => .array .int
  | 7 => .array .boolean
  | 8 => .array .boolean
  | 9 => .array .int
  | 10 => .array .int
  | 11 => .array .int
  | 12 => .array .int
  | 13 => .array .int
  | 14 => .int
  | 15 => .array .int
  | 16 => .int
  | 17 => .array .int
  | 18 => .int
  | 19 => .array .int
  | 20 => .array .int
  | 21 => .array .int
  | 22 => .array .int
  | 23 => .int
  | 24 => .array .int
  | 25 => .int
  | 26 => .int
  | 27 => .int
  | 28 => .boolean
  | 29 => .int
  | 30 => .array .int
  | 31 => .array .int
  | 32 => .array .int
  | 33 => .array .int
  | 34 => .array .int
  | 35 => .int
  | 36 => .array .int
  | 37 => .array .int
  | 38 => .array .int
  | 39 => .array .int
  | 40 => .array .int
  | 41 => .array .int
  | 42 => .array .int
  | _ => .array .int
set_option maxRecDepth 20000 in
theorem n_Md : ∀ a, a < 44 → ∀ b, b < 44 → a ≠ b → (T_Md a).2.1 ≠ (T_Md b).2.1 := by decide +kernel
set_option maxRecDepth 20000 in
theorem t_Md_ok : ∀ k, k < 44 → parseFieldDescriptor (T_Md k).2.2.1 = some (t_Md k) := by decide +kernel
set_option maxRecDepth 20000 in
theorem in_Md : ∀ w ∈ u_ws R_Md T_Md 44, w ∈ kG := k_inL [757, 759, 761, 763, 765, 767, 769, 771, 773, 775, 777, 779, 781, 783, 785, 787, 789, 791, 793, 795, 797, 799, 801, 803, 805, 807, 809, 811, 813, 815, 817, 819, 821, 823, 825, 827, 829, 831, 833, 835, 837, 839, 841, 843] (by decide +kernel) (by decide +kernel)
def T_F : u_T := fun k => match k with
  | 0 => ("SequenceMatch$Forest", "treeCount", "I", false)
  | 1 => ("SequenceMatch$Forest", "sorts", "[I", true)
  | 2 => ("SequenceMatch$Forest", "names", "[I", true)
  | 3 => ("SequenceMatch$Forest", "kinds", "[I", true)
  | 4 => ("SequenceMatch$Forest", "plain", "[Z", true)
  | 5 => ("SequenceMatch$Forest", "closed", "[Z", true)
  | 6 => ("SequenceMatch$Forest", "depths", "[I", true)
  | 7 => ("SequenceMatch$Forest", "sizes", "[I", true)
  | 8 => ("SequenceMatch$Forest", "partCounts", "[I", true)
  | 9 => ("SequenceMatch$Forest", "partRows", "[I", true)
  | 10 => ("SequenceMatch$Forest", "testCounts", "[I", true)
  | 11 => ("SequenceMatch$Forest", "testKinds", "[I", true)
  | _ => ("SequenceMatch$Forest", "testValues", "[I", true)
def t_F : Nat → FieldType := fun k => match k with
  | 0 => .int
  | 1 => .array .int
  | 2 => .array .int
  | 3 => .array .int
  | 4 => .array .boolean
  | 5 => .array .boolean
  | 6 => .array .int
  | 7 => .array .int
  | 8 => .array .int
  | 9 => .array .int
  | 10 => .array .int
  | 11 => .array .int
  | _ => .array .int
set_option maxRecDepth 20000 in
theorem n_F : ∀ a, a < 13 → ∀ b, b < 13 → a ≠ b → (T_F a).2.1 ≠ (T_F b).2.1 := by decide +kernel
set_option maxRecDepth 20000 in
theorem t_F_ok : ∀ k, k < 13 → parseFieldDescriptor (T_F k).2.2.1 = some (t_F k) := by decide +kernel
set_option maxRecDepth 20000 in
theorem in_F : ∀ w ∈ u_ws R_F T_F 13, w ∈ kG := k_inL [46, 48, 50, 52, 54, 56, 58, 60, 62, 64, 66, 68, 70] (by decide +kernel) (by decide +kernel)
def T_Mt : u_T := fun k => match k with
  | 0 => ("SequenceMatch$Matches", "keptCount", "I", false)
  | 1 => ("SequenceMatch$Matches", "lengths", "[I", true)
  | _ => ("SequenceMatch$Matches", "trees", "[I", true)
def t_Mt : Nat → FieldType := fun k => match k with
  | 0 => .int
  | 1 => .array .int
  | _ => .array .int
set_option maxRecDepth 20000 in
theorem n_Mt : ∀ a, a < 3 → ∀ b, b < 3 → a ≠ b → (T_Mt a).2.1 ≠ (T_Mt b).2.1 := by decide +kernel
set_option maxRecDepth 20000 in
theorem t_Mt_ok : ∀ k, k < 3 → parseFieldDescriptor (T_Mt k).2.2.1 = some (t_Mt k) := by decide +kernel
set_option maxRecDepth 20000 in
theorem in_Mt : ∀ w ∈ u_ws R_Mt T_Mt 3, w ∈ kG := k_inL [127, 129, 131] (by decide +kernel) (by decide +kernel)
def T_Nm : u_T := fun k => match k with
  | 0 => ("SequenceMatch$Names", "lengths", "[I", true)
  | 1 => ("SequenceMatch$Names", "trees", "[I", true)
  | _ => ("SequenceMatch$Names", "givers", "[I", true)
def t_Nm : Nat → FieldType := fun k => match k with
  | 0 => .array .int
  | 1 => .array .int
  | _ => .array .int
set_option maxRecDepth 20000 in
theorem n_Nm : ∀ a, a < 3 → ∀ b, b < 3 → a ≠ b → (T_Nm a).2.1 ≠ (T_Nm b).2.1 := by decide +kernel
set_option maxRecDepth 20000 in
theorem t_Nm_ok : ∀ k, k < 3 → parseFieldDescriptor (T_Nm k).2.2.1 = some (t_Nm k) := by decide +kernel
set_option maxRecDepth 20000 in
theorem in_Nm : ∀ w ∈ u_ws R_Nm T_Nm 3, w ∈ kG := k_inL [111, 113, 115] (by decide +kernel) (by decide +kernel)
def T_Pl : u_T := fun k => match k with
  | 0 => ("SequenceMatch$Plan", "slotCount", "I", false)
  | 1 => ("SequenceMatch$Plan", "trees", "[I", true)
  | 2 => ("SequenceMatch$Plan", "parents", "[I", true)
  | _ => ("SequenceMatch$Plan", "lasts", "[Z", true)
def t_Pl : Nat → FieldType := fun k => match k with
  | 0 => .int
  | 1 => .array .int
  | 2 => .array .int
  | _ => .array .boolean
set_option maxRecDepth 20000 in
theorem n_Pl : ∀ a, a < 4 → ∀ b, b < 4 → a ≠ b → (T_Pl a).2.1 ≠ (T_Pl b).2.1 := by decide +kernel
set_option maxRecDepth 20000 in
theorem t_Pl_ok : ∀ k, k < 4 → parseFieldDescriptor (T_Pl k).2.2.1 = some (t_Pl k) := by decide +kernel
set_option maxRecDepth 20000 in
theorem in_Pl : ∀ w ∈ u_ws R_Pl T_Pl 4, w ∈ kG := k_inL [91, 93, 95, 97] (by decide +kernel) (by decide +kernel)
def T_Se : u_T := fun k => match k with
  | 0 => ("SequenceMatch$Search", "forest", "LSequenceMatch$Forest;", true)
  | 1 => ("SequenceMatch$Search", "plan", "LSequenceMatch$Plan;", true)
  | 2 => ("SequenceMatch$Search", "names", "LSequenceMatch$Names;", true)
  | 3 => ("SequenceMatch$Search", "matches", "LSequenceMatch$Matches;", true)
  | 4 => ("SequenceMatch$Search", "taken", "[I", true)
  | 5 => ("SequenceMatch$Search", "beside", "[I", true)
  | 6 => ("SequenceMatch$Search", "left", "[I", true)
  | 7 => ("SequenceMatch$Search", "row", "[I", true)
  | 8 => ("SequenceMatch$Search", "rowLength", "I", false)
  | 9 => ("SequenceMatch$Search", "wholeTree", "I", false)
  | 10 => ("SequenceMatch$Search", "tries", "I", false)
  | 11 => ("SequenceMatch$Search", "found", "I", false)
  | _ => ("SequenceMatch$Search", "spent", "Z", false)
def t_Se : Nat → FieldType := fun k => match k with
  | 0 => .object "SequenceMatch$Forest"
  | 1 => .object "SequenceMatch$Plan"
  | 2 => .object "SequenceMatch$Names"
  | 3 => .object "SequenceMatch$Matches"
  | 4 => .array .int
  | 5 => .array .int
  | 6 => .array .int
  | 7 => .array .int
  | 8 => .int
  | 9 => .int
  | 10 => .int
  | 11 => .int
  | _ => .boolean
set_option maxRecDepth 20000 in
theorem n_Se : ∀ a, a < 13 → ∀ b, b < 13 → a ≠ b → (T_Se a).2.1 ≠ (T_Se b).2.1 := by decide +kernel
set_option maxRecDepth 20000 in
theorem t_Se_ok : ∀ k, k < 13 → parseFieldDescriptor (T_Se k).2.2.1 = some (t_Se k) := by decide +kernel
set_option maxRecDepth 20000 in
theorem in_Se : ∀ w ∈ u_ws R_Se T_Se 13, w ∈ kG := k_inL [147, 149, 151, 153, 155, 157, 159, 161, 163, 165, 167, 169, 171] (by decide +kernel) (by decide +kernel)
abbrev kcl : List vw_C := [(R_SM, T_SM, 6), (R_Md, T_Md, 44), (R_F, T_F, 13), (R_Mt, T_Mt, 3), (R_Nm, T_Nm, 3), (R_Pl, T_Pl, 4), (R_Se, T_Se, 13)]
abbrev c_SM_init : ByteArray := prog_1_method_1_code
def y_SM_init : MethodName := ⟨R_SM, "<init>", "()V"⟩
abbrev c_SM_leaf : ByteArray := prog_1_method_2_code
def y_SM_leaf : MethodName := ⟨R_SM, "leaf", "(I)I"⟩
abbrev c_SM_node : ByteArray := prog_1_method_3_code
def y_SM_node : MethodName := ⟨R_SM, "node", "(I)I"⟩
abbrev c_SM_more : ByteArray := prog_1_method_4_code
def y_SM_more : MethodName := ⟨R_SM, "more", "(II)Z"⟩
abbrev c_SM_hole : ByteArray := prog_1_method_5_code
def y_SM_hole : MethodName := ⟨R_SM, "hole", "(II)I"⟩
abbrev c_SM_test : ByteArray := prog_1_method_6_code
def y_SM_test : MethodName := ⟨R_SM, "test", "(III)Z"⟩
abbrev c_SM_match : ByteArray := prog_1_method_7_code
def y_SM_match : MethodName := ⟨R_SM, "match", "(III)I"⟩
abbrev c_SM_tried : ByteArray := prog_1_method_8_code
def y_SM_tried : MethodName := ⟨R_SM, "tried", "()I"⟩
abbrev c_SM_bound : ByteArray := prog_1_method_9_code
def y_SM_bound : MethodName := ⟨R_SM, "bound", "(III)I"⟩
abbrev c_SM_many : ByteArray := prog_1_method_10_code
def y_SM_many : MethodName := ⟨R_SM, "many", "(II)I"⟩
abbrev c_SM_rule : ByteArray := prog_1_method_11_code
def y_SM_rule : MethodName := ⟨R_SM, "rule", "(I)I"⟩
abbrev c_SM_net : ByteArray := prog_1_method_12_code
def y_SM_net : MethodName := ⟨R_SM, "net", "(I)I"⟩
abbrev c_SM_rules : ByteArray := prog_1_method_13_code
def y_SM_rules : MethodName := ⟨R_SM, "rules", "(I)I"⟩
abbrev c_SM_first : ByteArray := prog_1_method_14_code
def y_SM_first : MethodName := ⟨R_SM, "first", "(I)I"⟩
abbrev c_SM_order : ByteArray := prog_1_method_15_code
def y_SM_order : MethodName := ⟨R_SM, "order", "(II)I"⟩
abbrev c_SM_parts : ByteArray := prog_1_method_16_code
def y_SM_parts : MethodName := ⟨R_SM, "parts", "(I)I"⟩
abbrev c_SM_part : ByteArray := prog_1_method_17_code
def y_SM_part : MethodName := ⟨R_SM, "part", "(II)I"⟩
abbrev c_SM_count : ByteArray := prog_1_method_18_code
def y_SM_count : MethodName := ⟨R_SM, "count", "(I)I"⟩
abbrev c_SM_newTree : ByteArray := prog_1_method_19_code
def y_SM_newTree : MethodName := ⟨R_SM, "newTree", "(III)I"⟩
abbrev c_SM_requireTree : ByteArray := prog_1_method_20_code
def y_SM_requireTree : MethodName := ⟨R_SM, "requireTree", "(I)V"⟩
abbrev c_SM_requirePlain : ByteArray := prog_1_method_21_code
def y_SM_requirePlain : MethodName := ⟨R_SM, "requirePlain", "(I)V"⟩
abbrev c_SM_requireMatch : ByteArray := prog_1_method_22_code
def y_SM_requireMatch : MethodName := ⟨R_SM, "requireMatch", "(I)V"⟩
abbrev c_SM_requireBelow : ByteArray := prog_1_method_23_code
def y_SM_requireBelow : MethodName := ⟨R_SM, "requireBelow", "(II)V"⟩
abbrev c_Md_init : ByteArray := prog_9_method_1_code
def y_Md_init : MethodName := ⟨R_Md, "<init>", "()V"⟩
abbrev c_Md_compare : ByteArray := prog_9_method_2_code
def y_Md_compare : MethodName := ⟨R_Md, "compare", "(II)I"⟩
abbrev c_Md_anyOrder : ByteArray := prog_9_method_3_code
def y_Md_anyOrder : MethodName := ⟨R_Md, "anyOrder", "(I)Z"⟩
abbrev c_Md_severals : ByteArray := prog_9_method_4_code
def y_Md_severals : MethodName := ⟨R_Md, "severals", "(I)Z"⟩
abbrev c_Md_bits : ByteArray := prog_9_method_5_code
def y_Md_bits : MethodName := ⟨R_Md, "bits", "(I)I"⟩
abbrev c_Md_testHolds : ByteArray := prog_9_method_6_code
def y_Md_testHolds : MethodName := ⟨R_Md, "testHolds", "(III)Z"⟩
abbrev c_Md_binds : ByteArray := prog_9_method_7_code
def y_Md_binds : MethodName := ⟨R_Md, "binds", "(II)Z"⟩
abbrev c_Md_goal : ByteArray := prog_9_method_8_code
def y_Md_goal : MethodName := ⟨R_Md, "goal", "(IIIII)I"⟩
abbrev c_Md_puts : ByteArray := prog_9_method_9_code
def y_Md_puts : MethodName := ⟨R_Md, "puts", "(III)I"⟩
abbrev c_Md_bit : ByteArray := prog_9_method_10_code
def y_Md_bit : MethodName := ⟨R_Md, "bit", "(I)I"⟩
abbrev c_Md_leftOf : ByteArray := prog_9_method_11_code
def y_Md_leftOf : MethodName := ⟨R_Md, "leftOf", "(I)I"⟩
abbrev c_Md_takenNext : ByteArray := prog_9_method_12_code
def y_Md_takenNext : MethodName := ⟨R_Md, "takenNext", "(II)I"⟩
abbrev c_Md_firstOf : ByteArray := prog_9_method_13_code
def y_Md_firstOf : MethodName := ⟨R_Md, "firstOf", "(II)I"⟩
abbrev c_Md_keepMatch : ByteArray := prog_9_method_14_code
def y_Md_keepMatch : MethodName := ⟨R_Md, "keepMatch", "()V"⟩
abbrev c_Md_tries : ByteArray := prog_9_method_15_code
def y_Md_tries : MethodName := ⟨R_Md, "tries", "()Z"⟩
abbrev c_Md_backTo : ByteArray := prog_9_method_16_code
def y_Md_backTo : MethodName := ⟨R_Md, "backTo", "(II)V"⟩
abbrev c_Md_otherwise : ByteArray := prog_9_method_17_code
def y_Md_otherwise : MethodName := ⟨R_Md, "otherwise", "()I"⟩
abbrev c_Md_search : ByteArray := prog_9_method_18_code
def y_Md_search : MethodName := ⟨R_Md, "search", "(III)V"⟩
abbrev c_Md_may : ByteArray := prog_9_method_19_code
def y_Md_may : MethodName := ⟨R_Md, "may", "(II)Z"⟩
abbrev c_Md_thrown : ByteArray := prog_9_method_20_code
def y_Md_thrown : MethodName := ⟨R_Md, "thrown", "()I"⟩
abbrev c_Md_noTree : ByteArray := prog_9_method_21_code
def y_Md_noTree : MethodName := ⟨R_Md, "noTree", "(I)Z"⟩
abbrev c_Md_tree : ByteArray := prog_9_method_22_code
def y_Md_tree : MethodName := ⟨R_Md, "tree", "(IIZ)I"⟩
abbrev c_Md_leaf : ByteArray := prog_9_method_23_code
def y_Md_leaf : MethodName := ⟨R_Md, "leaf", "(I)I"⟩
abbrev c_Md_node : ByteArray := prog_9_method_24_code
def y_Md_node : MethodName := ⟨R_Md, "node", "(I)I"⟩
abbrev c_Md_hole : ByteArray := prog_9_method_25_code
def y_Md_hole : MethodName := ⟨R_Md, "hole", "(II)I"⟩
abbrev c_Md_more : ByteArray := prog_9_method_26_code
def y_Md_more : MethodName := ⟨R_Md, "more", "(II)Z"⟩
abbrev c_Md_test : ByteArray := prog_9_method_27_code
def y_Md_test : MethodName := ⟨R_Md, "test", "(III)Z"⟩
abbrev c_Md_match : ByteArray := prog_9_method_28_code
def y_Md_match : MethodName := ⟨R_Md, "match", "(III)I"⟩
abbrev c_Md_tried : ByteArray := prog_9_method_29_code
def y_Md_tried : MethodName := ⟨R_Md, "tried", "()I"⟩
abbrev c_Md_bound : ByteArray := prog_9_method_30_code
def y_Md_bound : MethodName := ⟨R_Md, "bound", "(III)I"⟩
abbrev c_Md_many : ByteArray := prog_9_method_31_code
def y_Md_many : MethodName := ⟨R_Md, "many", "(II)I"⟩
abbrev c_Md_rule : ByteArray := prog_9_method_32_code
def y_Md_rule : MethodName := ⟨R_Md, "rule", "(I)I"⟩
abbrev c_Md_net : ByteArray := prog_9_method_33_code
def y_Md_net : MethodName := ⟨R_Md, "net", "(I)I"⟩
abbrev c_Md_rules : ByteArray := prog_9_method_34_code
def y_Md_rules : MethodName := ⟨R_Md, "rules", "(I)I"⟩
abbrev c_Md_first : ByteArray := prog_9_method_35_code
def y_Md_first : MethodName := ⟨R_Md, "first", "(I)I"⟩
abbrev c_Md_order : ByteArray := prog_9_method_36_code
def y_Md_order : MethodName := ⟨R_Md, "order", "(II)I"⟩
abbrev c_Md_parts : ByteArray := prog_9_method_37_code
def y_Md_parts : MethodName := ⟨R_Md, "parts", "(I)I"⟩
abbrev c_Md_part : ByteArray := prog_9_method_38_code
def y_Md_part : MethodName := ⟨R_Md, "part", "(II)I"⟩
abbrev c_Md_count : ByteArray := prog_9_method_39_code
def y_Md_count : MethodName := ⟨R_Md, "count", "(I)I"⟩
abbrev c_F_init : ByteArray := prog_2_method_1_code
def y_F_init : MethodName := ⟨R_F, "<init>", "()V"⟩
abbrev c_F_treeCount : ByteArray := prog_2_method_2_code
def y_F_treeCount : MethodName := ⟨R_F, "treeCount", "()I"⟩
abbrev c_F_isFull : ByteArray := prog_2_method_3_code
def y_F_isFull : MethodName := ⟨R_F, "isFull", "()Z"⟩
abbrev c_F_hasTree : ByteArray := prog_2_method_4_code
def y_F_hasTree : MethodName := ⟨R_F, "hasTree", "(I)Z"⟩
abbrev c_F_add : ByteArray := prog_2_method_5_code
def y_F_add : MethodName := ⟨R_F, "add", "(III)I"⟩
abbrev c_F_close : ByteArray := prog_2_method_6_code
def y_F_close : MethodName := ⟨R_F, "close", "(I)V"⟩
abbrev c_F_isPlain : ByteArray := prog_2_method_7_code
def y_F_isPlain : MethodName := ⟨R_F, "isPlain", "(I)Z"⟩
abbrev c_F_isLeaf : ByteArray := prog_2_method_8_code
def y_F_isLeaf : MethodName := ⟨R_F, "isLeaf", "(I)Z"⟩
abbrev c_F_isNode : ByteArray := prog_2_method_9_code
def y_F_isNode : MethodName := ⟨R_F, "isNode", "(I)Z"⟩
abbrev c_F_isHole : ByteArray := prog_2_method_10_code
def y_F_isHole : MethodName := ⟨R_F, "isHole", "(I)Z"⟩
abbrev c_F_isHoleOfKind : ByteArray := prog_2_method_11_code
def y_F_isHoleOfKind : MethodName := ⟨R_F, "isHoleOfKind", "(II)Z"⟩
abbrev c_F_takesSeveral : ByteArray := prog_2_method_12_code
def y_F_takesSeveral : MethodName := ⟨R_F, "takesSeveral", "(I)Z"⟩
abbrev c_F_isAnyOrder : ByteArray := prog_2_method_13_code
def y_F_isAnyOrder : MethodName := ⟨R_F, "isAnyOrder", "(I)Z"⟩
abbrev c_F_nameOf : ByteArray := prog_2_method_14_code
def y_F_nameOf : MethodName := ⟨R_F, "nameOf", "(I)I"⟩
abbrev c_F_partCount : ByteArray := prog_2_method_15_code
def y_F_partCount : MethodName := ⟨R_F, "partCount", "(I)I"⟩
abbrev c_F_partAt : ByteArray := prog_2_method_16_code
def y_F_partAt : MethodName := ⟨R_F, "partAt", "(II)I"⟩
abbrev c_F_looksLike : ByteArray := prog_2_method_17_code
def y_F_looksLike : MethodName := ⟨R_F, "looksLike", "(II)Z"⟩
abbrev c_F_mayTake : ByteArray := prog_2_method_18_code
def y_F_mayTake : MethodName := ⟨R_F, "mayTake", "(II)Z"⟩
abbrev c_F_addPart : ByteArray := prog_2_method_19_code
def y_F_addPart : MethodName := ⟨R_F, "addPart", "(II)Z"⟩
abbrev c_F_placeFor : ByteArray := prog_2_method_20_code
def y_F_placeFor : MethodName := ⟨R_F, "placeFor", "(II)I"⟩
abbrev c_F_compare : ByteArray := prog_2_method_21_code
def y_F_compare : MethodName := ⟨R_F, "compare", "(II)I"⟩
abbrev c_F_compareFrom : ByteArray := prog_2_method_22_code
def y_F_compareFrom : MethodName := ⟨R_F, "compareFrom", "(LSequenceMatch$Forest;III)I"⟩
abbrev c_F_addTest : ByteArray := prog_2_method_23_code
def y_F_addTest : MethodName := ⟨R_F, "addTest", "(III)Z"⟩
abbrev c_F_passesTests : ByteArray := prog_2_method_24_code
def y_F_passesTests : MethodName := ⟨R_F, "passesTests", "(I[II)Z"⟩
abbrev c_F_passes : ByteArray := prog_2_method_25_code
def y_F_passes : MethodName := ⟨R_F, "passes", "(II[II)Z"⟩
abbrev c_F_mayMatch : ByteArray := prog_2_method_26_code
def y_F_mayMatch : MethodName := ⟨R_F, "mayMatch", "(II)Z"⟩
abbrev c_F_hasFittingCount : ByteArray := prog_2_method_27_code
def y_F_hasFittingCount : MethodName := ⟨R_F, "hasFittingCount", "(II)Z"⟩
abbrev c_F_hasFittingStart : ByteArray := prog_2_method_28_code
def y_F_hasFittingStart : MethodName := ⟨R_F, "hasFittingStart", "(II)Z"⟩
abbrev c_Mt_init : ByteArray := prog_3_method_1_code
def y_Mt_init : MethodName := ⟨R_Mt, "<init>", "()V"⟩
abbrev c_Mt_clear : ByteArray := prog_3_method_2_code
def y_Mt_clear : MethodName := ⟨R_Mt, "clear", "()V"⟩
abbrev c_Mt_keep : ByteArray := prog_3_method_3_code
def y_Mt_keep : MethodName := ⟨R_Mt, "keep", "(LSequenceMatch$Names;)V"⟩
abbrev c_Mt_keptCount : ByteArray := prog_3_method_4_code
def y_Mt_keptCount : MethodName := ⟨R_Mt, "keptCount", "()I"⟩
abbrev c_Mt_lengthOf : ByteArray := prog_3_method_5_code
def y_Mt_lengthOf : MethodName := ⟨R_Mt, "lengthOf", "(II)I"⟩
abbrev c_Mt_treeOf : ByteArray := prog_3_method_6_code
def y_Mt_treeOf : MethodName := ⟨R_Mt, "treeOf", "(III)I"⟩
abbrev c_Nm_init : ByteArray := prog_4_method_1_code
def y_Nm_init : MethodName := ⟨R_Nm, "<init>", "()V"⟩
abbrev c_Nm_clear : ByteArray := prog_4_method_2_code
def y_Nm_clear : MethodName := ⟨R_Nm, "clear", "()V"⟩
abbrev c_Nm_hasNothing : ByteArray := prog_4_method_3_code
def y_Nm_hasNothing : MethodName := ⟨R_Nm, "hasNothing", "(I)Z"⟩
abbrev c_Nm_give : ByteArray := prog_4_method_4_code
def y_Nm_give : MethodName := ⟨R_Nm, "give", "(I[III)V"⟩
abbrev c_Nm_takeBack : ByteArray := prog_4_method_5_code
def y_Nm_takeBack : MethodName := ⟨R_Nm, "takeBack", "(II)V"⟩
abbrev c_Nm_hasSame : ByteArray := prog_4_method_6_code
def y_Nm_hasSame : MethodName := ⟨R_Nm, "hasSame", "(LSequenceMatch$Forest;I[II)Z"⟩
abbrev c_Pc_all : ByteArray := prog_5_method_2_code
def y_Pc_all : MethodName := ⟨R_Pc, "all", "(I)I"⟩
abbrev c_Pc_lowest : ByteArray := prog_5_method_3_code
def y_Pc_lowest : MethodName := ⟨R_Pc, "lowest", "(II)I"⟩
abbrev c_Pc_behind : ByteArray := prog_5_method_4_code
def y_Pc_behind : MethodName := ⟨R_Pc, "behind", "(II)I"⟩
abbrev c_Pc_nextChoice : ByteArray := prog_5_method_5_code
def y_Pc_nextChoice : MethodName := ⟨R_Pc, "nextChoice", "(II)I"⟩
abbrev c_Pl_init : ByteArray := prog_6_method_1_code
def y_Pl_init : MethodName := ⟨R_Pl, "<init>", "()V"⟩
abbrev c_Pl_lay : ByteArray := prog_6_method_2_code
def y_Pl_lay : MethodName := ⟨R_Pl, "lay", "(LSequenceMatch$Forest;I)V"⟩
abbrev c_Pl_layParts : ByteArray := prog_6_method_3_code
def y_Pl_layParts : MethodName := ⟨R_Pl, "layParts", "(LSequenceMatch$Plan;LSequenceMatch$Forest;II)V"⟩
abbrev c_Pl_slotCount : ByteArray := prog_6_method_4_code
def y_Pl_slotCount : MethodName := ⟨R_Pl, "slotCount", "()I"⟩
abbrev c_Pl_treeAt : ByteArray := prog_6_method_5_code
def y_Pl_treeAt : MethodName := ⟨R_Pl, "treeAt", "(I)I"⟩
abbrev c_Pl_parentOf : ByteArray := prog_6_method_6_code
def y_Pl_parentOf : MethodName := ⟨R_Pl, "parentOf", "(I)I"⟩
abbrev c_Pl_isLastInRow : ByteArray := prog_6_method_7_code
def y_Pl_isLastInRow : MethodName := ⟨R_Pl, "isLastInRow", "(I)Z"⟩
abbrev c_Se_init : ByteArray := prog_7_method_1_code
def y_Se_init : MethodName := ⟨R_Se, "<init>", "(LSequenceMatch$Forest;)V"⟩
abbrev c_Se_matches : ByteArray := prog_7_method_2_code
def y_Se_matches : MethodName := ⟨R_Se, "matches", "()LSequenceMatch$Matches;"⟩
abbrev c_Se_triesMade : ByteArray := prog_7_method_3_code
def y_Se_triesMade : MethodName := ⟨R_Se, "triesMade", "()I"⟩
abbrev c_Se_found : ByteArray := prog_7_method_4_code
def y_Se_found : MethodName := ⟨R_Se, "found", "()I"⟩
abbrev c_Se_isSpent : ByteArray := prog_7_method_5_code
def y_Se_isSpent : MethodName := ⟨R_Se, "isSpent", "()Z"⟩
abbrev c_Se_clear : ByteArray := prog_7_method_6_code
def y_Se_clear : MethodName := ⟨R_Se, "clear", "()V"⟩
abbrev c_Se_run : ByteArray := prog_7_method_7_code
def y_Se_run : MethodName := ⟨R_Se, "run", "(III)V"⟩
abbrev c_Se_makeTry : ByteArray := prog_7_method_8_code
def y_Se_makeTry : MethodName := ⟨R_Se, "makeTry", "(I)I"⟩
abbrev c_Se_release : ByteArray := prog_7_method_9_code
def y_Se_release : MethodName := ⟨R_Se, "release", "(I)V"⟩
abbrev c_Se_choose : ByteArray := prog_7_method_10_code
def y_Se_choose : MethodName := ⟨R_Se, "choose", "(I)Z"⟩
abbrev c_Se_firstChoice : ByteArray := prog_7_method_11_code
def y_Se_firstChoice : MethodName := ⟨R_Se, "firstChoice", "(I)I"⟩
abbrev c_Se_laterChoice : ByteArray := prog_7_method_12_code
def y_Se_laterChoice : MethodName := ⟨R_Se, "laterChoice", "(I)I"⟩
abbrev c_Se_gatherRow : ByteArray := prog_7_method_13_code
def y_Se_gatherRow : MethodName := ⟨R_Se, "gatherRow", "(I)V"⟩
abbrev c_Se_fitsLeafOrNode : ByteArray := prog_7_method_14_code
def y_Se_fitsLeafOrNode : MethodName := ⟨R_Se, "fitsLeafOrNode", "(II)Z"⟩
abbrev c_Se_fitsHole : ByteArray := prog_7_method_15_code
def y_Se_fitsHole : MethodName := ⟨R_Se, "fitsHole", "(II)Z"⟩
abbrev c_Se_rowsEndHere : ByteArray := prog_7_method_16_code
def y_Se_rowsEndHere : MethodName := ⟨R_Se, "rowsEndHere", "(I)Z"⟩
abbrev c_La_leaf : ByteArray := method_3_code
def y_La_leaf : MethodName := ⟨R_La, "leaf", "(LSequenceMatch;I[J)I"⟩
abbrev c_La_node : ByteArray := method_4_code
def y_La_node : MethodName := ⟨R_La, "node", "(LSequenceMatch;I[J)I"⟩
abbrev c_La_more : ByteArray := method_5_code
def y_La_more : MethodName := ⟨R_La, "more", "(LSequenceMatch;II[J)I"⟩
abbrev c_La_hole : ByteArray := method_6_code
def y_La_hole : MethodName := ⟨R_La, "hole", "(LSequenceMatch;II[J)I"⟩
abbrev c_La_test : ByteArray := method_7_code
def y_La_test : MethodName := ⟨R_La, "test", "(LSequenceMatch;III[J)I"⟩
abbrev c_La_match : ByteArray := method_8_code
def y_La_match : MethodName := ⟨R_La, "match", "(LSequenceMatch;III[J)I"⟩
abbrev c_La_bound : ByteArray := method_9_code
def y_La_bound : MethodName := ⟨R_La, "bound", "(LSequenceMatch;III[J)I"⟩
abbrev c_La_many : ByteArray := method_10_code
def y_La_many : MethodName := ⟨R_La, "many", "(LSequenceMatch;II[J)I"⟩
abbrev c_La_rule : ByteArray := method_11_code
def y_La_rule : MethodName := ⟨R_La, "rule", "(LSequenceMatch;I[J)I"⟩
abbrev c_La_net : ByteArray := method_12_code
def y_La_net : MethodName := ⟨R_La, "net", "(LSequenceMatch;I[J)I"⟩
abbrev c_La_first : ByteArray := method_13_code
def y_La_first : MethodName := ⟨R_La, "first", "(LSequenceMatch;I[J)I"⟩
abbrev c_La_order : ByteArray := method_14_code
def y_La_order : MethodName := ⟨R_La, "order", "(LSequenceMatch;II[J)I"⟩
abbrev c_La_parts : ByteArray := method_15_code
def y_La_parts : MethodName := ⟨R_La, "parts", "(LSequenceMatch;I[J)I"⟩
abbrev c_La_part : ByteArray := method_16_code
def y_La_part : MethodName := ⟨R_La, "part", "(LSequenceMatch;II[J)I"⟩
abbrev c_In_bitCount : ByteArray := prog_14_method_49_code
def y_In_bitCount : MethodName := ⟨R_In, "bitCount", "(I)I"⟩
abbrev c_Ar_fill : ByteArray := prog_20_method_103_code
def y_Ar_fill : MethodName := ⟨R_Ar, "fill", "([II)V"⟩
theorem q_0 : Cond.initialized R_La ∈ kG := k_in1 (i := 0) rfl rfl
theorem q_1 : Cond.initialized R_SM ∈ kG := k_in1 (i := 1) rfl rfl
theorem q_2 : Cond.initialized R_F ∈ kG := k_in1 (i := 2) rfl rfl
theorem q_3 : Cond.initialized R_Se ∈ kG := k_in1 (i := 3) rfl rfl
theorem q_4 : Cond.initialized R_Pl ∈ kG := k_in1 (i := 4) rfl rfl
theorem q_5 : Cond.initialized R_Nm ∈ kG := k_in1 (i := 5) rfl rfl
theorem q_6 : Cond.initialized R_Mt ∈ kG := k_in1 (i := 6) rfl rfl
theorem q_7 : Cond.initialized R_Md ∈ kG := k_in1 (i := 7) rfl rfl
theorem q_8 : Cond.initialized "java/lang/Throwable" ∈ kG := k_in1 (i := 8) rfl rfl
theorem q_9 : Cond.initialized "java/lang/Exception" ∈ kG := k_in1 (i := 9) rfl rfl
theorem q_10 : Cond.initialized "java/lang/RuntimeException" ∈ kG := k_in1 (i := 10) rfl rfl
theorem q_11 : Cond.initialized "java/lang/IllegalArgumentException" ∈ kG := k_in1 (i := 11) rfl rfl
theorem q_12 : Cond.initialized "java/lang/IllegalStateException" ∈ kG := k_in1 (i := 12) rfl rfl
theorem q_13 : Cond.initialized "java/lang/IndexOutOfBoundsException" ∈ kG := k_in1 (i := 13) rfl rfl
theorem q_14 : Cond.initialized "java/lang/Math" ∈ kG := k_in1 (i := 14) rfl rfl
theorem q_15 : Cond.initialized R_Ar ∈ kG := k_in1 (i := 15) rfl rfl
theorem q_16 : Cond.initialized R_Pc ∈ kG := k_in1 (i := 16) rfl rfl
theorem q_17 : Cond.initialized R_In ∈ kG := k_in1 (i := 17) rfl rfl
theorem q_18 : Cond.initialized "java/lang/System" ∈ kG := k_in1 (i := 18) rfl rfl
theorem q_19 : Cond.classLink R_La 8 R_SM ∈ kG := k_in1 (i := 19) rfl rfl
theorem q_20 : Cond.instantiable R_SM 6 ∈ kG := k_in1 (i := 20) rfl rfl
theorem q_21 : Cond.methodLink R_La 62 y_SM_init ∈ kG := k_in1 (i := 21) rfl rfl
theorem q_22 : Cond.instanceMethod y_SM_init ∈ kG := k_in1 (i := 22) rfl rfl
theorem q_23 : Cond.code y_SM_init c_SM_init 1 none ∈ kG := k_in1 (i := 23) rfl rfl
theorem q_24 : Cond.methodLink R_SM 1 ⟨"java/lang/Object", "<init>", "()V"⟩ ∈ kG := k_in1 (i := 24) rfl rfl
theorem q_25 : Cond.instanceMethod ⟨"java/lang/Object", "<init>", "()V"⟩ ∈ kG := k_in1 (i := 25) rfl rfl
theorem q_26 : Cond.code ⟨"java/lang/Object", "<init>", "()V"⟩ object_method_1_code 1 none ∈ kG := k_in1 (i := 26) rfl rfl
theorem q_27 : Cond.classLink R_SM 7 R_F ∈ kG := k_in1 (i := 27) rfl rfl
theorem q_28 : Cond.instantiable R_F 13 ∈ kG := k_in1 (i := 28) rfl rfl
theorem q_29 : Cond.methodLink R_SM 9 y_F_init ∈ kG := k_in1 (i := 29) rfl rfl
theorem q_30 : Cond.instanceMethod y_F_init ∈ kG := k_in1 (i := 30) rfl rfl
theorem q_31 : Cond.code y_F_init c_F_init 1 none ∈ kG := k_in1 (i := 31) rfl rfl
theorem q_32 : Cond.methodLink R_F 3 ⟨"java/lang/Object", "<init>", "()V"⟩ ∈ kG := k_in1 (i := 32) rfl rfl
theorem q_33 : Cond.fieldLink R_F 9 "SequenceMatch$Forest" "treeCount" "I" ∈ kG := k_in1 (i := 33) rfl rfl
theorem q_34 : Cond.fieldLink R_F 15 "SequenceMatch$Forest" "sorts" "[I" ∈ kG := k_in1 (i := 34) rfl rfl
theorem q_35 : Cond.fieldLink R_F 19 "SequenceMatch$Forest" "names" "[I" ∈ kG := k_in1 (i := 35) rfl rfl
theorem q_36 : Cond.fieldLink R_F 22 "SequenceMatch$Forest" "kinds" "[I" ∈ kG := k_in1 (i := 36) rfl rfl
theorem q_37 : Cond.fieldLink R_F 25 "SequenceMatch$Forest" "plain" "[Z" ∈ kG := k_in1 (i := 37) rfl rfl
theorem q_38 : Cond.fieldLink R_F 29 "SequenceMatch$Forest" "closed" "[Z" ∈ kG := k_in1 (i := 38) rfl rfl
theorem q_39 : Cond.fieldLink R_F 32 "SequenceMatch$Forest" "depths" "[I" ∈ kG := k_in1 (i := 39) rfl rfl
theorem q_40 : Cond.fieldLink R_F 35 "SequenceMatch$Forest" "sizes" "[I" ∈ kG := k_in1 (i := 40) rfl rfl
theorem q_41 : Cond.fieldLink R_F 38 "SequenceMatch$Forest" "partCounts" "[I" ∈ kG := k_in1 (i := 41) rfl rfl
theorem q_42 : Cond.fieldLink R_F 41 "SequenceMatch$Forest" "partRows" "[I" ∈ kG := k_in1 (i := 42) rfl rfl
theorem q_43 : Cond.fieldLink R_F 44 "SequenceMatch$Forest" "testCounts" "[I" ∈ kG := k_in1 (i := 43) rfl rfl
theorem q_44 : Cond.fieldLink R_F 47 "SequenceMatch$Forest" "testKinds" "[I" ∈ kG := k_in1 (i := 44) rfl rfl
theorem q_45 : Cond.fieldLink R_F 50 "SequenceMatch$Forest" "testValues" "[I" ∈ kG := k_in1 (i := 45) rfl rfl
theorem q_73 : Cond.arrayClass .int ∈ kG := k_in1 (i := 73) rfl rfl
theorem q_74 : Cond.arrayClass .boolean ∈ kG := k_in1 (i := 74) rfl rfl
theorem q_75 : Cond.classLink R_SM 16 R_Se ∈ kG := k_in1 (i := 75) rfl rfl
theorem q_76 : Cond.instantiable R_Se 13 ∈ kG := k_in1 (i := 76) rfl rfl
theorem q_77 : Cond.methodLink R_SM 18 y_Se_init ∈ kG := k_in1 (i := 77) rfl rfl
theorem q_78 : Cond.instanceMethod y_Se_init ∈ kG := k_in1 (i := 78) rfl rfl
theorem q_79 : Cond.code y_Se_init c_Se_init 2 none ∈ kG := k_in1 (i := 79) rfl rfl
theorem q_80 : Cond.methodLink R_Se 3 ⟨"java/lang/Object", "<init>", "()V"⟩ ∈ kG := k_in1 (i := 80) rfl rfl
theorem q_81 : Cond.classLink R_Se 15 R_Pl ∈ kG := k_in1 (i := 81) rfl rfl
theorem q_82 : Cond.instantiable R_Pl 4 ∈ kG := k_in1 (i := 82) rfl rfl
theorem q_83 : Cond.methodLink R_Se 17 y_Pl_init ∈ kG := k_in1 (i := 83) rfl rfl
theorem q_84 : Cond.instanceMethod y_Pl_init ∈ kG := k_in1 (i := 84) rfl rfl
theorem q_85 : Cond.code y_Pl_init c_Pl_init 1 none ∈ kG := k_in1 (i := 85) rfl rfl
theorem q_86 : Cond.methodLink R_Pl 3 ⟨"java/lang/Object", "<init>", "()V"⟩ ∈ kG := k_in1 (i := 86) rfl rfl
theorem q_87 : Cond.fieldLink R_Pl 9 "SequenceMatch$Plan" "slotCount" "I" ∈ kG := k_in1 (i := 87) rfl rfl
theorem q_88 : Cond.fieldLink R_Pl 15 "SequenceMatch$Plan" "trees" "[I" ∈ kG := k_in1 (i := 88) rfl rfl
theorem q_89 : Cond.fieldLink R_Pl 19 "SequenceMatch$Plan" "parents" "[I" ∈ kG := k_in1 (i := 89) rfl rfl
theorem q_90 : Cond.fieldLink R_Pl 22 "SequenceMatch$Plan" "lasts" "[Z" ∈ kG := k_in1 (i := 90) rfl rfl
theorem q_100 : Cond.classLink R_Se 22 R_Nm ∈ kG := k_in1 (i := 100) rfl rfl
theorem q_101 : Cond.instantiable R_Nm 3 ∈ kG := k_in1 (i := 101) rfl rfl
theorem q_102 : Cond.methodLink R_Se 24 y_Nm_init ∈ kG := k_in1 (i := 102) rfl rfl
theorem q_103 : Cond.instanceMethod y_Nm_init ∈ kG := k_in1 (i := 103) rfl rfl
theorem q_104 : Cond.code y_Nm_init c_Nm_init 1 none ∈ kG := k_in1 (i := 104) rfl rfl
theorem q_105 : Cond.methodLink R_Nm 3 ⟨"java/lang/Object", "<init>", "()V"⟩ ∈ kG := k_in1 (i := 105) rfl rfl
theorem q_106 : Cond.fieldLink R_Nm 9 "SequenceMatch$Names" "lengths" "[I" ∈ kG := k_in1 (i := 106) rfl rfl
theorem q_108 : Cond.fieldLink R_Nm 15 "SequenceMatch$Names" "trees" "[I" ∈ kG := k_in1 (i := 108) rfl rfl
theorem q_110 : Cond.fieldLink R_Nm 18 "SequenceMatch$Names" "givers" "[I" ∈ kG := k_in1 (i := 110) rfl rfl
theorem q_118 : Cond.classLink R_Se 29 R_Mt ∈ kG := k_in1 (i := 118) rfl rfl
theorem q_119 : Cond.instantiable R_Mt 3 ∈ kG := k_in1 (i := 119) rfl rfl
theorem q_120 : Cond.methodLink R_Se 31 y_Mt_init ∈ kG := k_in1 (i := 120) rfl rfl
theorem q_121 : Cond.instanceMethod y_Mt_init ∈ kG := k_in1 (i := 121) rfl rfl
theorem q_122 : Cond.code y_Mt_init c_Mt_init 1 none ∈ kG := k_in1 (i := 122) rfl rfl
theorem q_123 : Cond.methodLink R_Mt 3 ⟨"java/lang/Object", "<init>", "()V"⟩ ∈ kG := k_in1 (i := 123) rfl rfl
theorem q_124 : Cond.fieldLink R_Mt 9 "SequenceMatch$Matches" "keptCount" "I" ∈ kG := k_in1 (i := 124) rfl rfl
theorem q_125 : Cond.fieldLink R_Mt 15 "SequenceMatch$Matches" "lengths" "[I" ∈ kG := k_in1 (i := 125) rfl rfl
theorem q_126 : Cond.fieldLink R_Mt 19 "SequenceMatch$Matches" "trees" "[I" ∈ kG := k_in1 (i := 126) rfl rfl
theorem q_134 : Cond.fieldLink R_Se 9 "SequenceMatch$Search" "forest" "LSequenceMatch$Forest;" ∈ kG := k_in1 (i := 134) rfl rfl
theorem q_135 : Cond.fieldLink R_Se 18 "SequenceMatch$Search" "plan" "LSequenceMatch$Plan;" ∈ kG := k_in1 (i := 135) rfl rfl
theorem q_136 : Cond.fieldLink R_Se 25 "SequenceMatch$Search" "names" "LSequenceMatch$Names;" ∈ kG := k_in1 (i := 136) rfl rfl
theorem q_137 : Cond.fieldLink R_Se 32 "SequenceMatch$Search" "matches" "LSequenceMatch$Matches;" ∈ kG := k_in1 (i := 137) rfl rfl
theorem q_138 : Cond.fieldLink R_Se 36 "SequenceMatch$Search" "taken" "[I" ∈ kG := k_in1 (i := 138) rfl rfl
theorem q_139 : Cond.fieldLink R_Se 40 "SequenceMatch$Search" "beside" "[I" ∈ kG := k_in1 (i := 139) rfl rfl
theorem q_140 : Cond.fieldLink R_Se 43 "SequenceMatch$Search" "left" "[I" ∈ kG := k_in1 (i := 140) rfl rfl
theorem q_141 : Cond.fieldLink R_Se 46 "SequenceMatch$Search" "row" "[I" ∈ kG := k_in1 (i := 141) rfl rfl
theorem q_142 : Cond.fieldLink R_Se 49 "SequenceMatch$Search" "rowLength" "I" ∈ kG := k_in1 (i := 142) rfl rfl
theorem q_143 : Cond.fieldLink R_Se 53 "SequenceMatch$Search" "wholeTree" "I" ∈ kG := k_in1 (i := 143) rfl rfl
theorem q_144 : Cond.fieldLink R_Se 56 "SequenceMatch$Search" "tries" "I" ∈ kG := k_in1 (i := 144) rfl rfl
theorem q_145 : Cond.fieldLink R_Se 59 "SequenceMatch$Search" "found" "I" ∈ kG := k_in1 (i := 145) rfl rfl
theorem q_146 : Cond.fieldLink R_Se 62 "SequenceMatch$Search" "spent" "Z" ∈ kG := k_in1 (i := 146) rfl rfl
theorem q_174 : Cond.fieldLink R_SM 10 "SequenceMatch" "forest" "LSequenceMatch$Forest;" ∈ kG := k_in1 (i := 174) rfl rfl
theorem q_175 : Cond.fieldLink R_SM 21 "SequenceMatch" "search" "LSequenceMatch$Search;" ∈ kG := k_in1 (i := 175) rfl rfl
theorem q_176 : Cond.fieldLink R_SM 25 "SequenceMatch" "rulePatterns" "[I" ∈ kG := k_in1 (i := 176) rfl rfl
theorem q_177 : Cond.fieldLink R_SM 29 "SequenceMatch" "ruleCount" "I" ∈ kG := k_in1 (i := 177) rfl rfl
theorem q_178 : Cond.fieldLink R_SM 33 "SequenceMatch" "toldRules" "[I" ∈ kG := k_in1 (i := 178) rfl rfl
theorem q_179 : Cond.fieldLink R_SM 36 "SequenceMatch" "toldCount" "I" ∈ kG := k_in1 (i := 179) rfl rfl
theorem q_193 : Cond.methodLink R_La 93 y_SM_tried ∈ kG := k_in1 (i := 193) rfl rfl
theorem q_194 : Cond.instanceMethod y_SM_tried ∈ kG := k_in1 (i := 194) rfl rfl
theorem q_195 : Cond.selects R_SM y_SM_tried y_SM_tried ∈ kG := k_in1 (i := 195) rfl rfl
theorem q_196 : Cond.code y_SM_tried c_SM_tried 1 (some .int) ∈ kG := k_in1 (i := 196) rfl rfl
theorem q_197 : Cond.methodLink R_SM 90 y_Se_triesMade ∈ kG := k_in1 (i := 197) rfl rfl
theorem q_198 : Cond.instanceMethod y_Se_triesMade ∈ kG := k_in1 (i := 198) rfl rfl
theorem q_199 : Cond.selects R_Se y_Se_triesMade y_Se_triesMade ∈ kG := k_in1 (i := 199) rfl rfl
theorem q_200 : Cond.code y_Se_triesMade c_Se_triesMade 1 (some .int) ∈ kG := k_in1 (i := 200) rfl rfl
theorem q_201 : Cond.methodLink R_La 109 y_SM_rules ∈ kG := k_in1 (i := 201) rfl rfl
theorem q_202 : Cond.instanceMethod y_SM_rules ∈ kG := k_in1 (i := 202) rfl rfl
theorem q_203 : Cond.selects R_SM y_SM_rules y_SM_rules ∈ kG := k_in1 (i := 203) rfl rfl
theorem q_204 : Cond.code y_SM_rules c_SM_rules 2 (some .int) ∈ kG := k_in1 (i := 204) rfl rfl
theorem q_205 : Cond.methodLink R_La 125 y_SM_count ∈ kG := k_in1 (i := 205) rfl rfl
theorem q_206 : Cond.instanceMethod y_SM_count ∈ kG := k_in1 (i := 206) rfl rfl
theorem q_207 : Cond.selects R_SM y_SM_count y_SM_count ∈ kG := k_in1 (i := 207) rfl rfl
theorem q_208 : Cond.code y_SM_count c_SM_count 2 (some .int) ∈ kG := k_in1 (i := 208) rfl rfl
theorem q_209 : Cond.methodLink R_SM 133 y_F_treeCount ∈ kG := k_in1 (i := 209) rfl rfl
theorem q_210 : Cond.instanceMethod y_F_treeCount ∈ kG := k_in1 (i := 210) rfl rfl
theorem q_211 : Cond.selects R_F y_F_treeCount y_F_treeCount ∈ kG := k_in1 (i := 211) rfl rfl
theorem q_212 : Cond.code y_F_treeCount c_F_treeCount 1 (some .int) ∈ kG := k_in1 (i := 212) rfl rfl
theorem q_213 : Cond.methodLink R_SM 96 y_Se_matches ∈ kG := k_in1 (i := 213) rfl rfl
theorem q_214 : Cond.instanceMethod y_Se_matches ∈ kG := k_in1 (i := 214) rfl rfl
theorem q_215 : Cond.selects R_Se y_Se_matches y_Se_matches ∈ kG := k_in1 (i := 215) rfl rfl
theorem q_216 : Cond.code y_Se_matches c_Se_matches 1 (some (.object "SequenceMatch$Matches")) ∈ kG := k_in1 (i := 216) rfl rfl
theorem q_217 : Cond.methodLink R_SM 136 y_Mt_keptCount ∈ kG := k_in1 (i := 217) rfl rfl
theorem q_218 : Cond.instanceMethod y_Mt_keptCount ∈ kG := k_in1 (i := 218) rfl rfl
theorem q_219 : Cond.selects R_Mt y_Mt_keptCount y_Mt_keptCount ∈ kG := k_in1 (i := 219) rfl rfl
theorem q_220 : Cond.code y_Mt_keptCount c_Mt_keptCount 1 (some .int) ∈ kG := k_in1 (i := 220) rfl rfl
theorem q_221 : Cond.methodLink R_La 66 y_La_leaf ∈ kG := k_in1 (i := 221) rfl rfl
theorem q_222 : Cond.static y_La_leaf ∈ kG := k_in1 (i := 222) rfl rfl
theorem q_224 : Cond.classLink R_La 13 "java/lang/IllegalArgumentException" ∈ kG := k_in1 (i := 224) rfl rfl
theorem q_225 : Cond.classLink R_La 15 "java/lang/IllegalStateException" ∈ kG := k_in1 (i := 225) rfl rfl
theorem q_226 : Cond.methodLink R_La 7 y_SM_leaf ∈ kG := k_in1 (i := 226) rfl rfl
theorem q_227 : Cond.instanceMethod y_SM_leaf ∈ kG := k_in1 (i := 227) rfl rfl
theorem q_228 : Cond.selects R_SM y_SM_leaf y_SM_leaf ∈ kG := k_in1 (i := 228) rfl rfl
theorem q_229 : Cond.code y_SM_leaf c_SM_leaf 2 (some .int) ∈ kG := k_in1 (i := 229) rfl rfl
theorem q_230 : Cond.methodLink R_SM 39 y_SM_requireBelow ∈ kG := k_in1 (i := 230) rfl rfl
theorem q_231 : Cond.static y_SM_requireBelow ∈ kG := k_in1 (i := 231) rfl rfl
theorem q_232 : Cond.code y_SM_requireBelow c_SM_requireBelow 2 none ∈ kG := k_in1 (i := 232) rfl rfl
theorem q_233 : Cond.classLink R_SM 55 "java/lang/IllegalArgumentException" ∈ kG := k_in1 (i := 233) rfl rfl
theorem q_234 : Cond.instantiable "java/lang/IllegalArgumentException" 6 ∈ kG := k_in1 (i := 234) rfl rfl
theorem q_242 : Cond.selects "java/lang/IllegalArgumentException" ⟨"java/lang/Throwable", "fillInStackTrace", "(I)Ljava/lang/Throwable;"⟩ ⟨"java/lang/Throwable", "fillInStackTrace", "(I)Ljava/lang/Throwable;"⟩ ∈ kG := k_in2 (i := 2) rfl rfl
theorem q_243 : Cond.selects "java/lang/IllegalArgumentException" ⟨"java/lang/Throwable", "fillInStackTrace", "()Ljava/lang/Throwable;"⟩ ⟨"java/lang/Throwable", "fillInStackTrace", "()Ljava/lang/Throwable;"⟩ ∈ kG := k_in2 (i := 3) rfl rfl
theorem q_254 : Cond.fieldLink "java/lang/Throwable" 198 "java/lang/Throwable" "backtrace" "Ljava/lang/Object;" ∈ kG := k_in2 (i := 14) rfl rfl
theorem q_256 : Cond.instanceMethod ⟨"java/lang/Throwable", "<init>", "()V"⟩ ∈ kG := k_in2 (i := 16) rfl rfl
theorem q_257 : Cond.code ⟨"java/lang/Throwable", "<init>", "()V"⟩ prog_19_method_1_code 1 none ∈ kG := k_in2 (i := 17) rfl rfl
theorem q_258 : Cond.methodLink "java/lang/Throwable" 1 ⟨"java/lang/Object", "<init>", "()V"⟩ ∈ kG := k_in2 (i := 18) rfl rfl
theorem q_259 : Cond.fieldLink "java/lang/Throwable" 13 "java/lang/Throwable" "UNASSIGNED_STACK" "[Ljava/lang/StackTraceElement;" ∈ kG := k_in2 (i := 19) rfl rfl
theorem q_261 : Cond.fieldLink "java/lang/Throwable" 20 "java/lang/Throwable" "SUPPRESSED_SENTINEL" "Ljava/util/List;" ∈ kG := k_in2 (i := 21) rfl rfl
theorem q_263 : Cond.methodLink "java/lang/Throwable" 27 ⟨"java/lang/Throwable", "fillInStackTrace", "()Ljava/lang/Throwable;"⟩ ∈ kG := k_in2 (i := 23) rfl rfl
theorem q_264 : Cond.instanceMethod ⟨"java/lang/Throwable", "fillInStackTrace", "()Ljava/lang/Throwable;"⟩ ∈ kG := k_in2 (i := 24) rfl rfl
theorem q_266 : Cond.selects "java/lang/IllegalStateException" ⟨"java/lang/Throwable", "fillInStackTrace", "()Ljava/lang/Throwable;"⟩ ⟨"java/lang/Throwable", "fillInStackTrace", "()Ljava/lang/Throwable;"⟩ ∈ kG := k_in2 (i := 26) rfl rfl
theorem q_267 : Cond.selects "java/lang/IndexOutOfBoundsException" ⟨"java/lang/Throwable", "fillInStackTrace", "()Ljava/lang/Throwable;"⟩ ⟨"java/lang/Throwable", "fillInStackTrace", "()Ljava/lang/Throwable;"⟩ ∈ kG := k_in2 (i := 27) rfl rfl
theorem q_269 : Cond.methodLink "java/lang/Throwable" 202 ⟨"java/lang/Throwable", "fillInStackTrace", "(I)Ljava/lang/Throwable;"⟩ ∈ kG := k_in2 (i := 29) rfl rfl
theorem q_271 : Cond.instanceMethod ⟨"java/lang/Throwable", "fillInStackTrace", "(I)Ljava/lang/Throwable;"⟩ ∈ kG := k_in2 (i := 31) rfl rfl
theorem q_272 : Cond.instantiable "java/lang/Throwable" 6 ∈ kG := k_in2 (i := 32) rfl rfl
theorem q_273 : Cond.native ⟨"java/lang/Throwable", "fillInStackTrace", "(I)Ljava/lang/Throwable;"⟩ ∈ kG := k_in2 (i := 33) rfl rfl
theorem q_275 : Cond.methodLink R_SM 59 ⟨"java/lang/IllegalArgumentException", "<init>", "(Ljava/lang/String;)V"⟩ ∈ kG := k_in2 (i := 35) rfl rfl
theorem q_276 : Cond.instanceMethod ⟨"java/lang/IllegalArgumentException", "<init>", "(Ljava/lang/String;)V"⟩ ∈ kG := k_in2 (i := 36) rfl rfl
theorem q_277 : Cond.code ⟨"java/lang/IllegalArgumentException", "<init>", "(Ljava/lang/String;)V"⟩ prog_11_method_2_code 2 none ∈ kG := k_in2 (i := 37) rfl rfl
theorem q_278 : Cond.methodLink "java/lang/IllegalArgumentException" 7 ⟨"java/lang/RuntimeException", "<init>", "(Ljava/lang/String;)V"⟩ ∈ kG := k_in2 (i := 38) rfl rfl
theorem q_279 : Cond.instanceMethod ⟨"java/lang/RuntimeException", "<init>", "(Ljava/lang/String;)V"⟩ ∈ kG := k_in2 (i := 39) rfl rfl
theorem q_280 : Cond.code ⟨"java/lang/RuntimeException", "<init>", "(Ljava/lang/String;)V"⟩ prog_16_method_2_code 2 none ∈ kG := k_in2 (i := 40) rfl rfl
theorem q_281 : Cond.methodLink "java/lang/RuntimeException" 7 ⟨"java/lang/Exception", "<init>", "(Ljava/lang/String;)V"⟩ ∈ kG := k_in2 (i := 41) rfl rfl
theorem q_282 : Cond.instanceMethod ⟨"java/lang/Exception", "<init>", "(Ljava/lang/String;)V"⟩ ∈ kG := k_in2 (i := 42) rfl rfl
theorem q_283 : Cond.code ⟨"java/lang/Exception", "<init>", "(Ljava/lang/String;)V"⟩ prog_10_method_2_code 2 none ∈ kG := k_in2 (i := 43) rfl rfl
theorem q_284 : Cond.methodLink "java/lang/Exception" 7 ⟨"java/lang/Throwable", "<init>", "(Ljava/lang/String;)V"⟩ ∈ kG := k_in2 (i := 44) rfl rfl
theorem q_285 : Cond.instanceMethod ⟨"java/lang/Throwable", "<init>", "(Ljava/lang/String;)V"⟩ ∈ kG := k_in2 (i := 45) rfl rfl
theorem q_286 : Cond.code ⟨"java/lang/Throwable", "<init>", "(Ljava/lang/String;)V"⟩ prog_19_method_2_code 2 none ∈ kG := k_in2 (i := 46) rfl rfl
theorem q_288 : Cond.fieldLink "java/lang/Throwable" 31 "java/lang/Throwable" "detailMessage" "Ljava/lang/String;" ∈ kG := k_in2 (i := 48) rfl rfl
theorem q_289 : Cond.fieldLink "java/lang/Throwable" 7 "java/lang/Throwable" "cause" "Ljava/lang/Throwable;" ∈ kG := k_in2 (i := 49) rfl rfl
theorem q_290 : Cond.fieldLink "java/lang/Throwable" 17 "java/lang/Throwable" "stackTrace" "[Ljava/lang/StackTraceElement;" ∈ kG := k_in2 (i := 50) rfl rfl
theorem q_291 : Cond.fieldLink "java/lang/Throwable" 24 "java/lang/Throwable" "suppressedExceptions" "Ljava/util/List;" ∈ kG := k_in2 (i := 51) rfl rfl
theorem q_300 : Cond.arrayClass .byte ∈ kG := k_in2 (i := 60) rfl rfl
theorem q_301 : Cond.methodLink R_SM 43 y_SM_newTree ∈ kG := k_in2 (i := 61) rfl rfl
theorem q_303 : Cond.instanceMethod y_SM_newTree ∈ kG := k_in2 (i := 63) rfl rfl
theorem q_304 : Cond.code y_SM_newTree c_SM_newTree 4 (some .int) ∈ kG := k_in2 (i := 64) rfl rfl
theorem q_305 : Cond.methodLink R_SM 139 y_F_isFull ∈ kG := k_in2 (i := 65) rfl rfl
theorem q_306 : Cond.instanceMethod y_F_isFull ∈ kG := k_in2 (i := 66) rfl rfl
theorem q_307 : Cond.selects R_F y_F_isFull y_F_isFull ∈ kG := k_in2 (i := 67) rfl rfl
theorem q_308 : Cond.code y_F_isFull c_F_isFull 1 (some .boolean) ∈ kG := k_in2 (i := 68) rfl rfl
theorem q_309 : Cond.classLink R_SM 109 "java/lang/IllegalStateException" ∈ kG := k_in2 (i := 69) rfl rfl
theorem q_310 : Cond.instantiable "java/lang/IllegalStateException" 6 ∈ kG := k_in2 (i := 70) rfl rfl
theorem q_312 : Cond.selects "java/lang/IllegalStateException" ⟨"java/lang/Throwable", "fillInStackTrace", "(I)Ljava/lang/Throwable;"⟩ ⟨"java/lang/Throwable", "fillInStackTrace", "(I)Ljava/lang/Throwable;"⟩ ∈ kG := k_in2 (i := 72) rfl rfl
theorem q_319 : Cond.methodLink R_SM 113 ⟨"java/lang/IllegalStateException", "<init>", "(Ljava/lang/String;)V"⟩ ∈ kG := k_in2 (i := 79) rfl rfl
theorem q_320 : Cond.instanceMethod ⟨"java/lang/IllegalStateException", "<init>", "(Ljava/lang/String;)V"⟩ ∈ kG := k_in2 (i := 80) rfl rfl
theorem q_321 : Cond.code ⟨"java/lang/IllegalStateException", "<init>", "(Ljava/lang/String;)V"⟩ prog_12_method_2_code 2 none ∈ kG := k_in2 (i := 81) rfl rfl
theorem q_322 : Cond.methodLink "java/lang/IllegalStateException" 7 ⟨"java/lang/RuntimeException", "<init>", "(Ljava/lang/String;)V"⟩ ∈ kG := k_in2 (i := 82) rfl rfl
theorem q_325 : Cond.methodLink R_SM 144 y_F_add ∈ kG := k_in2 (i := 85) rfl rfl
theorem q_326 : Cond.instanceMethod y_F_add ∈ kG := k_in2 (i := 86) rfl rfl
theorem q_327 : Cond.selects R_F y_F_add y_F_add ∈ kG := k_in2 (i := 87) rfl rfl
theorem q_328 : Cond.code y_F_add c_F_add 5 (some .int) ∈ kG := k_in2 (i := 88) rfl rfl
theorem q_329 : Cond.methodLink R_La 76 y_La_node ∈ kG := k_in2 (i := 89) rfl rfl
theorem q_330 : Cond.static y_La_node ∈ kG := k_in2 (i := 90) rfl rfl
theorem q_332 : Cond.methodLink R_La 17 y_SM_node ∈ kG := k_in2 (i := 92) rfl rfl
theorem q_333 : Cond.instanceMethod y_SM_node ∈ kG := k_in2 (i := 93) rfl rfl
theorem q_334 : Cond.selects R_SM y_SM_node y_SM_node ∈ kG := k_in2 (i := 94) rfl rfl
theorem q_335 : Cond.code y_SM_node c_SM_node 2 (some .int) ∈ kG := k_in2 (i := 95) rfl rfl
theorem q_336 : Cond.methodLink R_La 79 y_La_more ∈ kG := k_in2 (i := 96) rfl rfl
theorem q_337 : Cond.static y_La_more ∈ kG := k_in2 (i := 97) rfl rfl
theorem q_339 : Cond.classLink R_La 24 "java/lang/IndexOutOfBoundsException" ∈ kG := k_in2 (i := 99) rfl rfl
theorem q_340 : Cond.methodLink R_La 20 y_SM_more ∈ kG := k_in2 (i := 100) rfl rfl
theorem q_341 : Cond.instanceMethod y_SM_more ∈ kG := k_in2 (i := 101) rfl rfl
theorem q_342 : Cond.selects R_SM y_SM_more y_SM_more ∈ kG := k_in2 (i := 102) rfl rfl
theorem q_343 : Cond.code y_SM_more c_SM_more 3 (some .boolean) ∈ kG := k_in2 (i := 103) rfl rfl
theorem q_344 : Cond.methodLink R_SM 47 y_SM_requireTree ∈ kG := k_in2 (i := 104) rfl rfl
theorem q_346 : Cond.instanceMethod y_SM_requireTree ∈ kG := k_in2 (i := 106) rfl rfl
theorem q_347 : Cond.code y_SM_requireTree c_SM_requireTree 2 none ∈ kG := k_in2 (i := 107) rfl rfl
theorem q_348 : Cond.methodLink R_SM 147 y_F_hasTree ∈ kG := k_in2 (i := 108) rfl rfl
theorem q_349 : Cond.instanceMethod y_F_hasTree ∈ kG := k_in2 (i := 109) rfl rfl
theorem q_350 : Cond.selects R_F y_F_hasTree y_F_hasTree ∈ kG := k_in2 (i := 110) rfl rfl
theorem q_351 : Cond.code y_F_hasTree c_F_hasTree 2 (some .boolean) ∈ kG := k_in2 (i := 111) rfl rfl
theorem q_352 : Cond.classLink R_SM 150 "java/lang/IndexOutOfBoundsException" ∈ kG := k_in2 (i := 112) rfl rfl
theorem q_353 : Cond.instantiable "java/lang/IndexOutOfBoundsException" 6 ∈ kG := k_in2 (i := 113) rfl rfl
theorem q_355 : Cond.selects "java/lang/IndexOutOfBoundsException" ⟨"java/lang/Throwable", "fillInStackTrace", "(I)Ljava/lang/Throwable;"⟩ ⟨"java/lang/Throwable", "fillInStackTrace", "(I)Ljava/lang/Throwable;"⟩ ∈ kG := k_in2 (i := 115) rfl rfl
theorem q_362 : Cond.methodLink R_SM 154 ⟨"java/lang/IndexOutOfBoundsException", "<init>", "(Ljava/lang/String;)V"⟩ ∈ kG := k_in2 (i := 122) rfl rfl
theorem q_363 : Cond.instanceMethod ⟨"java/lang/IndexOutOfBoundsException", "<init>", "(Ljava/lang/String;)V"⟩ ∈ kG := k_in2 (i := 123) rfl rfl
theorem q_364 : Cond.code ⟨"java/lang/IndexOutOfBoundsException", "<init>", "(Ljava/lang/String;)V"⟩ prog_13_method_2_code 2 none ∈ kG := k_in2 (i := 124) rfl rfl
theorem q_365 : Cond.methodLink "java/lang/IndexOutOfBoundsException" 7 ⟨"java/lang/RuntimeException", "<init>", "(Ljava/lang/String;)V"⟩ ∈ kG := k_in2 (i := 125) rfl rfl
theorem q_368 : Cond.methodLink R_SM 51 y_F_mayTake ∈ kG := k_in2 (i := 128) rfl rfl
theorem q_369 : Cond.instanceMethod y_F_mayTake ∈ kG := k_in2 (i := 129) rfl rfl
theorem q_370 : Cond.selects R_F y_F_mayTake y_F_mayTake ∈ kG := k_in2 (i := 130) rfl rfl
theorem q_371 : Cond.code y_F_mayTake c_F_mayTake 3 (some .boolean) ∈ kG := k_in2 (i := 131) rfl rfl
theorem q_373 : Cond.methodLink R_SM 62 y_F_addPart ∈ kG := k_in2 (i := 133) rfl rfl
theorem q_374 : Cond.instanceMethod y_F_addPart ∈ kG := k_in2 (i := 134) rfl rfl
theorem q_375 : Cond.selects R_F y_F_addPart y_F_addPart ∈ kG := k_in2 (i := 135) rfl rfl
theorem q_376 : Cond.code y_F_addPart c_F_addPart 7 (some .boolean) ∈ kG := k_in2 (i := 136) rfl rfl
theorem q_377 : Cond.methodLink R_F 57 y_F_placeFor ∈ kG := k_in2 (i := 137) rfl rfl
theorem q_379 : Cond.instanceMethod y_F_placeFor ∈ kG := k_in2 (i := 139) rfl rfl
theorem q_380 : Cond.code y_F_placeFor c_F_placeFor 4 (some .int) ∈ kG := k_in2 (i := 140) rfl rfl
theorem q_381 : Cond.methodLink R_F 66 y_F_isAnyOrder ∈ kG := k_in2 (i := 141) rfl rfl
theorem q_382 : Cond.instanceMethod y_F_isAnyOrder ∈ kG := k_in2 (i := 142) rfl rfl
theorem q_383 : Cond.selects R_F y_F_isAnyOrder y_F_isAnyOrder ∈ kG := k_in2 (i := 143) rfl rfl
theorem q_384 : Cond.code y_F_isAnyOrder c_F_isAnyOrder 2 (some .boolean) ∈ kG := k_in2 (i := 144) rfl rfl
theorem q_385 : Cond.methodLink R_F 70 y_F_partAt ∈ kG := k_in2 (i := 145) rfl rfl
theorem q_386 : Cond.instanceMethod y_F_partAt ∈ kG := k_in2 (i := 146) rfl rfl
theorem q_387 : Cond.selects R_F y_F_partAt y_F_partAt ∈ kG := k_in2 (i := 147) rfl rfl
theorem q_388 : Cond.code y_F_partAt c_F_partAt 3 (some .int) ∈ kG := k_in2 (i := 148) rfl rfl
theorem q_389 : Cond.methodLink R_F 73 y_F_compare ∈ kG := k_in2 (i := 149) rfl rfl
theorem q_390 : Cond.instanceMethod y_F_compare ∈ kG := k_in2 (i := 150) rfl rfl
theorem q_391 : Cond.selects R_F y_F_compare y_F_compare ∈ kG := k_in2 (i := 151) rfl rfl
theorem q_392 : Cond.code y_F_compare c_F_compare 3 (some .int) ∈ kG := k_in2 (i := 152) rfl rfl
theorem q_393 : Cond.methodLink R_F 76 y_F_compareFrom ∈ kG := k_in2 (i := 153) rfl rfl
theorem q_394 : Cond.static y_F_compareFrom ∈ kG := k_in2 (i := 154) rfl rfl
theorem q_395 : Cond.code y_F_compareFrom c_F_compareFrom 9 (some .int) ∈ kG := k_in2 (i := 155) rfl rfl
theorem q_396 : Cond.methodLink R_F 61 ⟨"java/lang/Math", "max", "(II)I"⟩ ∈ kG := k_in2 (i := 156) rfl rfl
theorem q_397 : Cond.static ⟨"java/lang/Math", "max", "(II)I"⟩ ∈ kG := k_in2 (i := 157) rfl rfl
theorem q_398 : Cond.code ⟨"java/lang/Math", "max", "(II)I"⟩ prog_15_method_65_code 2 (some .int) ∈ kG := k_in2 (i := 158) rfl rfl
theorem q_399 : Cond.methodLink R_La 83 y_La_hole ∈ kG := k_in2 (i := 159) rfl rfl
theorem q_400 : Cond.static y_La_hole ∈ kG := k_in2 (i := 160) rfl rfl
theorem q_402 : Cond.methodLink R_La 26 y_SM_hole ∈ kG := k_in2 (i := 162) rfl rfl
theorem q_403 : Cond.instanceMethod y_SM_hole ∈ kG := k_in2 (i := 163) rfl rfl
theorem q_404 : Cond.selects R_SM y_SM_hole y_SM_hole ∈ kG := k_in2 (i := 164) rfl rfl
theorem q_405 : Cond.code y_SM_hole c_SM_hole 3 (some .int) ∈ kG := k_in2 (i := 165) rfl rfl
theorem q_406 : Cond.methodLink R_La 86 y_La_test ∈ kG := k_in2 (i := 166) rfl rfl
theorem q_407 : Cond.static y_La_test ∈ kG := k_in2 (i := 167) rfl rfl
theorem q_409 : Cond.methodLink R_La 30 y_SM_test ∈ kG := k_in2 (i := 169) rfl rfl
theorem q_410 : Cond.instanceMethod y_SM_test ∈ kG := k_in2 (i := 170) rfl rfl
theorem q_411 : Cond.selects R_SM y_SM_test y_SM_test ∈ kG := k_in2 (i := 171) rfl rfl
theorem q_412 : Cond.code y_SM_test c_SM_test 4 (some .boolean) ∈ kG := k_in2 (i := 172) rfl rfl
theorem q_413 : Cond.methodLink R_SM 65 y_F_isHole ∈ kG := k_in2 (i := 173) rfl rfl
theorem q_414 : Cond.instanceMethod y_F_isHole ∈ kG := k_in2 (i := 174) rfl rfl
theorem q_415 : Cond.selects R_F y_F_isHole y_F_isHole ∈ kG := k_in2 (i := 175) rfl rfl
theorem q_416 : Cond.code y_F_isHole c_F_isHole 2 (some .boolean) ∈ kG := k_in2 (i := 176) rfl rfl
theorem q_418 : Cond.methodLink R_SM 71 y_F_addTest ∈ kG := k_in2 (i := 178) rfl rfl
theorem q_419 : Cond.instanceMethod y_F_addTest ∈ kG := k_in2 (i := 179) rfl rfl
theorem q_420 : Cond.selects R_F y_F_addTest y_F_addTest ∈ kG := k_in2 (i := 180) rfl rfl
theorem q_421 : Cond.code y_F_addTest c_F_addTest 5 (some .boolean) ∈ kG := k_in2 (i := 181) rfl rfl
theorem q_422 : Cond.methodLink R_La 90 y_La_match ∈ kG := k_in2 (i := 182) rfl rfl
theorem q_423 : Cond.static y_La_match ∈ kG := k_in2 (i := 183) rfl rfl
theorem q_425 : Cond.methodLink R_La 34 y_SM_match ∈ kG := k_in2 (i := 185) rfl rfl
theorem q_426 : Cond.instanceMethod y_SM_match ∈ kG := k_in2 (i := 186) rfl rfl
theorem q_427 : Cond.selects R_SM y_SM_match y_SM_match ∈ kG := k_in2 (i := 187) rfl rfl
theorem q_428 : Cond.code y_SM_match c_SM_match 4 (some .int) ∈ kG := k_in2 (i := 188) rfl rfl
theorem q_429 : Cond.methodLink R_SM 75 y_SM_requirePlain ∈ kG := k_in2 (i := 189) rfl rfl
theorem q_431 : Cond.instanceMethod y_SM_requirePlain ∈ kG := k_in2 (i := 191) rfl rfl
theorem q_432 : Cond.code y_SM_requirePlain c_SM_requirePlain 2 none ∈ kG := k_in2 (i := 192) rfl rfl
theorem q_433 : Cond.methodLink R_SM 155 y_F_isPlain ∈ kG := k_in2 (i := 193) rfl rfl
theorem q_434 : Cond.instanceMethod y_F_isPlain ∈ kG := k_in2 (i := 194) rfl rfl
theorem q_435 : Cond.selects R_F y_F_isPlain y_F_isPlain ∈ kG := k_in2 (i := 195) rfl rfl
theorem q_436 : Cond.code y_F_isPlain c_F_isPlain 2 (some .boolean) ∈ kG := k_in2 (i := 196) rfl rfl
theorem q_438 : Cond.methodLink R_SM 78 y_Se_run ∈ kG := k_in2 (i := 198) rfl rfl
theorem q_439 : Cond.instanceMethod y_Se_run ∈ kG := k_in2 (i := 199) rfl rfl
theorem q_440 : Cond.selects R_Se y_Se_run y_Se_run ∈ kG := k_in2 (i := 200) rfl rfl
theorem q_441 : Cond.code y_Se_run c_Se_run 6 none ∈ kG := k_in2 (i := 201) rfl rfl
theorem q_442 : Cond.methodLink R_Se 70 y_Se_clear ∈ kG := k_in2 (i := 202) rfl rfl
theorem q_443 : Cond.instanceMethod y_Se_clear ∈ kG := k_in2 (i := 203) rfl rfl
theorem q_444 : Cond.selects R_Se y_Se_clear y_Se_clear ∈ kG := k_in2 (i := 204) rfl rfl
theorem q_445 : Cond.code y_Se_clear c_Se_clear 1 none ∈ kG := k_in2 (i := 205) rfl rfl
theorem q_446 : Cond.methodLink R_Se 66 y_Mt_clear ∈ kG := k_in2 (i := 206) rfl rfl
theorem q_447 : Cond.instanceMethod y_Mt_clear ∈ kG := k_in2 (i := 207) rfl rfl
theorem q_448 : Cond.selects R_Mt y_Mt_clear y_Mt_clear ∈ kG := k_in2 (i := 208) rfl rfl
theorem q_449 : Cond.code y_Mt_clear c_Mt_clear 1 none ∈ kG := k_in2 (i := 209) rfl rfl
theorem q_450 : Cond.methodLink R_Se 69 y_Nm_clear ∈ kG := k_in2 (i := 210) rfl rfl
theorem q_451 : Cond.instanceMethod y_Nm_clear ∈ kG := k_in2 (i := 211) rfl rfl
theorem q_452 : Cond.selects R_Nm y_Nm_clear y_Nm_clear ∈ kG := k_in2 (i := 212) rfl rfl
theorem q_453 : Cond.code y_Nm_clear c_Nm_clear 1 none ∈ kG := k_in2 (i := 213) rfl rfl
theorem q_454 : Cond.methodLink R_Nm 21 y_Ar_fill ∈ kG := k_in2 (i := 214) rfl rfl
theorem q_455 : Cond.static y_Ar_fill ∈ kG := k_in2 (i := 215) rfl rfl
theorem q_456 : Cond.code y_Ar_fill c_Ar_fill 4 none ∈ kG := k_in2 (i := 216) rfl rfl
theorem q_457 : Cond.methodLink R_Se 71 y_Pl_lay ∈ kG := k_in2 (i := 217) rfl rfl
theorem q_458 : Cond.instanceMethod y_Pl_lay ∈ kG := k_in2 (i := 218) rfl rfl
theorem q_459 : Cond.selects R_Pl y_Pl_lay y_Pl_lay ∈ kG := k_in2 (i := 219) rfl rfl
theorem q_460 : Cond.code y_Pl_lay c_Pl_lay 3 none ∈ kG := k_in2 (i := 220) rfl rfl
theorem q_461 : Cond.methodLink R_Pl 26 y_Pl_layParts ∈ kG := k_in2 (i := 221) rfl rfl
theorem q_462 : Cond.static y_Pl_layParts ∈ kG := k_in2 (i := 222) rfl rfl
theorem q_463 : Cond.code y_Pl_layParts c_Pl_layParts 8 none ∈ kG := k_in2 (i := 223) rfl rfl
theorem q_464 : Cond.methodLink R_Pl 30 y_F_partCount ∈ kG := k_in2 (i := 224) rfl rfl
theorem q_465 : Cond.instanceMethod y_F_partCount ∈ kG := k_in2 (i := 225) rfl rfl
theorem q_466 : Cond.selects R_F y_F_partCount y_F_partCount ∈ kG := k_in2 (i := 226) rfl rfl
theorem q_467 : Cond.code y_F_partCount c_F_partCount 2 (some .int) ∈ kG := k_in2 (i := 227) rfl rfl
theorem q_468 : Cond.methodLink R_Pl 36 y_F_partAt ∈ kG := k_in2 (i := 228) rfl rfl
theorem q_469 : Cond.methodLink R_Se 75 y_Se_release ∈ kG := k_in2 (i := 229) rfl rfl
theorem q_471 : Cond.instanceMethod y_Se_release ∈ kG := k_in2 (i := 231) rfl rfl
theorem q_472 : Cond.code y_Se_release c_Se_release 3 none ∈ kG := k_in2 (i := 232) rfl rfl
theorem q_473 : Cond.methodLink R_Se 116 y_Pl_parentOf ∈ kG := k_in2 (i := 233) rfl rfl
theorem q_474 : Cond.instanceMethod y_Pl_parentOf ∈ kG := k_in2 (i := 234) rfl rfl
theorem q_475 : Cond.selects R_Pl y_Pl_parentOf y_Pl_parentOf ∈ kG := k_in2 (i := 235) rfl rfl
theorem q_476 : Cond.code y_Pl_parentOf c_Pl_parentOf 2 (some .int) ∈ kG := k_in2 (i := 236) rfl rfl
theorem q_477 : Cond.methodLink R_Se 90 y_Pl_treeAt ∈ kG := k_in2 (i := 237) rfl rfl
theorem q_478 : Cond.instanceMethod y_Pl_treeAt ∈ kG := k_in2 (i := 238) rfl rfl
theorem q_479 : Cond.selects R_Pl y_Pl_treeAt y_Pl_treeAt ∈ kG := k_in2 (i := 239) rfl rfl
theorem q_480 : Cond.code y_Pl_treeAt c_Pl_treeAt 2 (some .int) ∈ kG := k_in3 (i := 0) rfl rfl
theorem q_481 : Cond.methodLink R_Se 93 y_F_isHole ∈ kG := k_in3 (i := 1) rfl rfl
theorem q_482 : Cond.methodLink R_Se 119 y_F_nameOf ∈ kG := k_in3 (i := 2) rfl rfl
theorem q_483 : Cond.instanceMethod y_F_nameOf ∈ kG := k_in3 (i := 3) rfl rfl
theorem q_484 : Cond.selects R_F y_F_nameOf y_F_nameOf ∈ kG := k_in3 (i := 4) rfl rfl
theorem q_485 : Cond.code y_F_nameOf c_F_nameOf 2 (some .int) ∈ kG := k_in3 (i := 5) rfl rfl
theorem q_486 : Cond.methodLink R_Se 122 y_Nm_takeBack ∈ kG := k_in3 (i := 6) rfl rfl
theorem q_487 : Cond.instanceMethod y_Nm_takeBack ∈ kG := k_in3 (i := 7) rfl rfl
theorem q_488 : Cond.selects R_Nm y_Nm_takeBack y_Nm_takeBack ∈ kG := k_in3 (i := 8) rfl rfl
theorem q_489 : Cond.code y_Nm_takeBack c_Nm_takeBack 3 none ∈ kG := k_in3 (i := 9) rfl rfl
theorem q_490 : Cond.methodLink R_Se 79 y_Se_choose ∈ kG := k_in3 (i := 10) rfl rfl
theorem q_492 : Cond.instanceMethod y_Se_choose ∈ kG := k_in3 (i := 12) rfl rfl
theorem q_493 : Cond.code y_Se_choose c_Se_choose 3 (some .boolean) ∈ kG := k_in3 (i := 13) rfl rfl
theorem q_494 : Cond.methodLink R_Se 126 y_Se_firstChoice ∈ kG := k_in3 (i := 14) rfl rfl
theorem q_496 : Cond.instanceMethod y_Se_firstChoice ∈ kG := k_in3 (i := 16) rfl rfl
theorem q_497 : Cond.code y_Se_firstChoice c_Se_firstChoice 3 (some .int) ∈ kG := k_in3 (i := 17) rfl rfl
theorem q_498 : Cond.methodLink R_Se 132 y_F_isHoleOfKind ∈ kG := k_in3 (i := 18) rfl rfl
theorem q_499 : Cond.instanceMethod y_F_isHoleOfKind ∈ kG := k_in3 (i := 19) rfl rfl
theorem q_500 : Cond.selects R_F y_F_isHoleOfKind y_F_isHoleOfKind ∈ kG := k_in3 (i := 20) rfl rfl
theorem q_501 : Cond.code y_F_isHoleOfKind c_F_isHoleOfKind 3 (some .boolean) ∈ kG := k_in3 (i := 21) rfl rfl
theorem q_502 : Cond.methodLink R_Se 135 y_Pc_lowest ∈ kG := k_in3 (i := 22) rfl rfl
theorem q_503 : Cond.static y_Pc_lowest ∈ kG := k_in3 (i := 23) rfl rfl
theorem q_504 : Cond.code y_Pc_lowest c_Pc_lowest 6 (some .int) ∈ kG := k_in3 (i := 24) rfl rfl
theorem q_505 : Cond.methodLink R_Se 129 y_Se_laterChoice ∈ kG := k_in3 (i := 25) rfl rfl
theorem q_507 : Cond.instanceMethod y_Se_laterChoice ∈ kG := k_in3 (i := 27) rfl rfl
theorem q_508 : Cond.code y_Se_laterChoice c_Se_laterChoice 4 (some .int) ∈ kG := k_in3 (i := 28) rfl rfl
theorem q_509 : Cond.methodLink R_Se 141 y_F_isAnyOrder ∈ kG := k_in3 (i := 29) rfl rfl
theorem q_510 : Cond.methodLink R_Se 144 y_F_takesSeveral ∈ kG := k_in3 (i := 30) rfl rfl
theorem q_511 : Cond.instanceMethod y_F_takesSeveral ∈ kG := k_in3 (i := 31) rfl rfl
theorem q_512 : Cond.selects R_F y_F_takesSeveral y_F_takesSeveral ∈ kG := k_in3 (i := 32) rfl rfl
theorem q_513 : Cond.code y_F_takesSeveral c_F_takesSeveral 2 (some .boolean) ∈ kG := k_in3 (i := 33) rfl rfl
theorem q_514 : Cond.methodLink R_F 53 y_F_isHoleOfKind ∈ kG := k_in3 (i := 34) rfl rfl
theorem q_515 : Cond.methodLink R_Se 147 y_Pc_nextChoice ∈ kG := k_in3 (i := 35) rfl rfl
theorem q_516 : Cond.static y_Pc_nextChoice ∈ kG := k_in3 (i := 36) rfl rfl
theorem q_517 : Cond.code y_Pc_nextChoice c_Pc_nextChoice 6 (some .int) ∈ kG := k_in3 (i := 37) rfl rfl
theorem q_518 : Cond.methodLink R_Pc 9 y_Pc_behind ∈ kG := k_in3 (i := 38) rfl rfl
theorem q_519 : Cond.static y_Pc_behind ∈ kG := k_in3 (i := 39) rfl rfl
theorem q_520 : Cond.code y_Pc_behind c_Pc_behind 2 (some .int) ∈ kG := k_in3 (i := 40) rfl rfl
theorem q_521 : Cond.methodLink R_Pc 15 y_Pc_lowest ∈ kG := k_in3 (i := 41) rfl rfl
theorem q_522 : Cond.methodLink R_Se 150 y_In_bitCount ∈ kG := k_in3 (i := 42) rfl rfl
theorem q_523 : Cond.static y_In_bitCount ∈ kG := k_in3 (i := 43) rfl rfl
theorem q_524 : Cond.code y_In_bitCount c_In_bitCount 1 (some .int) ∈ kG := k_in3 (i := 44) rfl rfl
theorem q_525 : Cond.constant R_In 265 1431655765 ∈ kG := k_in3 (i := 45) rfl rfl
theorem q_526 : Cond.constant R_In 266 858993459 ∈ kG := k_in3 (i := 46) rfl rfl
theorem q_527 : Cond.constant R_In 267 252645135 ∈ kG := k_in3 (i := 47) rfl rfl
theorem q_528 : Cond.methodLink R_Se 155 y_Pc_behind ∈ kG := k_in3 (i := 48) rfl rfl
theorem q_529 : Cond.methodLink R_Se 83 y_Se_makeTry ∈ kG := k_in3 (i := 49) rfl rfl
theorem q_531 : Cond.instanceMethod y_Se_makeTry ∈ kG := k_in3 (i := 51) rfl rfl
theorem q_532 : Cond.code y_Se_makeTry c_Se_makeTry 4 (some .int) ∈ kG := k_in3 (i := 52) rfl rfl
theorem q_533 : Cond.methodLink R_Se 87 y_Se_gatherRow ∈ kG := k_in3 (i := 53) rfl rfl
theorem q_535 : Cond.instanceMethod y_Se_gatherRow ∈ kG := k_in3 (i := 55) rfl rfl
theorem q_536 : Cond.code y_Se_gatherRow c_Se_gatherRow 4 none ∈ kG := k_in3 (i := 56) rfl rfl
theorem q_537 : Cond.methodLink R_Se 158 y_F_partCount ∈ kG := k_in3 (i := 57) rfl rfl
theorem q_538 : Cond.methodLink R_Se 161 y_F_partAt ∈ kG := k_in3 (i := 58) rfl rfl
theorem q_539 : Cond.methodLink R_Se 98 y_Se_fitsHole ∈ kG := k_in3 (i := 59) rfl rfl
theorem q_541 : Cond.instanceMethod y_Se_fitsHole ∈ kG := k_in3 (i := 61) rfl rfl
theorem q_542 : Cond.code y_Se_fitsHole c_Se_fitsHole 4 (some .boolean) ∈ kG := k_in3 (i := 62) rfl rfl
theorem q_543 : Cond.methodLink R_Se 170 y_F_isLeaf ∈ kG := k_in3 (i := 63) rfl rfl
theorem q_544 : Cond.instanceMethod y_F_isLeaf ∈ kG := k_in3 (i := 64) rfl rfl
theorem q_545 : Cond.selects R_F y_F_isLeaf y_F_isLeaf ∈ kG := k_in3 (i := 65) rfl rfl
theorem q_546 : Cond.code y_F_isLeaf c_F_isLeaf 2 (some .boolean) ∈ kG := k_in3 (i := 66) rfl rfl
theorem q_547 : Cond.methodLink R_Se 173 y_F_passesTests ∈ kG := k_in3 (i := 67) rfl rfl
theorem q_548 : Cond.instanceMethod y_F_passesTests ∈ kG := k_in3 (i := 68) rfl rfl
theorem q_549 : Cond.selects R_F y_F_passesTests y_F_passesTests ∈ kG := k_in3 (i := 69) rfl rfl
theorem q_550 : Cond.code y_F_passesTests c_F_passesTests 6 (some .boolean) ∈ kG := k_in3 (i := 70) rfl rfl
theorem q_551 : Cond.methodLink R_F 80 y_F_passes ∈ kG := k_in3 (i := 71) rfl rfl
theorem q_553 : Cond.instanceMethod y_F_passes ∈ kG := k_in3 (i := 73) rfl rfl
theorem q_554 : Cond.code y_F_passes c_F_passes 6 (some .boolean) ∈ kG := k_in3 (i := 74) rfl rfl
theorem q_555 : Cond.methodLink R_F 84 y_F_isLeaf ∈ kG := k_in3 (i := 75) rfl rfl
theorem q_556 : Cond.methodLink R_F 87 y_F_isNode ∈ kG := k_in3 (i := 76) rfl rfl
theorem q_557 : Cond.instanceMethod y_F_isNode ∈ kG := k_in3 (i := 77) rfl rfl
theorem q_558 : Cond.selects R_F y_F_isNode y_F_isNode ∈ kG := k_in3 (i := 78) rfl rfl
theorem q_559 : Cond.code y_F_isNode c_F_isNode 2 (some .boolean) ∈ kG := k_in3 (i := 79) rfl rfl
theorem q_560 : Cond.methodLink R_Se 177 y_Nm_hasNothing ∈ kG := k_in3 (i := 80) rfl rfl
theorem q_561 : Cond.instanceMethod y_Nm_hasNothing ∈ kG := k_in3 (i := 81) rfl rfl
theorem q_562 : Cond.selects R_Nm y_Nm_hasNothing y_Nm_hasNothing ∈ kG := k_in3 (i := 82) rfl rfl
theorem q_563 : Cond.code y_Nm_hasNothing c_Nm_hasNothing 2 (some .boolean) ∈ kG := k_in3 (i := 83) rfl rfl
theorem q_564 : Cond.methodLink R_Se 180 y_Nm_give ∈ kG := k_in3 (i := 84) rfl rfl
theorem q_565 : Cond.instanceMethod y_Nm_give ∈ kG := k_in3 (i := 85) rfl rfl
theorem q_566 : Cond.selects R_Nm y_Nm_give y_Nm_give ∈ kG := k_in3 (i := 86) rfl rfl
theorem q_567 : Cond.code y_Nm_give c_Nm_give 5 none ∈ kG := k_in3 (i := 87) rfl rfl
theorem q_568 : Cond.methodLink R_Nm 27 ⟨"java/lang/System", "arraycopy", "(Ljava/lang/Object;ILjava/lang/Object;II)V"⟩ ∈ kG := k_in3 (i := 88) rfl rfl
theorem q_569 : Cond.static ⟨"java/lang/System", "arraycopy", "(Ljava/lang/Object;ILjava/lang/Object;II)V"⟩ ∈ kG := k_in3 (i := 89) rfl rfl
theorem q_570 : Cond.native ⟨"java/lang/System", "arraycopy", "(Ljava/lang/Object;ILjava/lang/Object;II)V"⟩ ∈ kG := k_in3 (i := 90) rfl rfl
theorem q_571 : Cond.methodLink R_Se 184 y_Nm_hasSame ∈ kG := k_in3 (i := 91) rfl rfl
theorem q_572 : Cond.instanceMethod y_Nm_hasSame ∈ kG := k_in3 (i := 92) rfl rfl
theorem q_573 : Cond.selects R_Nm y_Nm_hasSame y_Nm_hasSame ∈ kG := k_in3 (i := 93) rfl rfl
theorem q_574 : Cond.code y_Nm_hasSame c_Nm_hasSame 6 (some .boolean) ∈ kG := k_in3 (i := 94) rfl rfl
theorem q_575 : Cond.methodLink R_Nm 33 y_F_compare ∈ kG := k_in3 (i := 95) rfl rfl
theorem q_576 : Cond.methodLink R_Se 102 y_Se_fitsLeafOrNode ∈ kG := k_in3 (i := 96) rfl rfl
theorem q_578 : Cond.instanceMethod y_Se_fitsLeafOrNode ∈ kG := k_in3 (i := 98) rfl rfl
theorem q_579 : Cond.code y_Se_fitsLeafOrNode c_Se_fitsLeafOrNode 3 (some .boolean) ∈ kG := k_in3 (i := 99) rfl rfl
theorem q_580 : Cond.methodLink R_Se 164 y_F_looksLike ∈ kG := k_in3 (i := 100) rfl rfl
theorem q_581 : Cond.instanceMethod y_F_looksLike ∈ kG := k_in3 (i := 101) rfl rfl
theorem q_582 : Cond.selects R_F y_F_looksLike y_F_looksLike ∈ kG := k_in3 (i := 102) rfl rfl
theorem q_583 : Cond.code y_F_looksLike c_F_looksLike 3 (some .boolean) ∈ kG := k_in3 (i := 103) rfl rfl
theorem q_584 : Cond.methodLink R_Se 167 y_Pc_all ∈ kG := k_in3 (i := 104) rfl rfl
theorem q_585 : Cond.static y_Pc_all ∈ kG := k_in3 (i := 105) rfl rfl
theorem q_586 : Cond.code y_Pc_all c_Pc_all 1 (some .int) ∈ kG := k_in3 (i := 106) rfl rfl
theorem q_587 : Cond.methodLink R_Se 105 y_Se_rowsEndHere ∈ kG := k_in3 (i := 107) rfl rfl
theorem q_589 : Cond.instanceMethod y_Se_rowsEndHere ∈ kG := k_in3 (i := 109) rfl rfl
theorem q_590 : Cond.code y_Se_rowsEndHere c_Se_rowsEndHere 5 (some .boolean) ∈ kG := k_in3 (i := 110) rfl rfl
theorem q_591 : Cond.methodLink R_Se 188 y_F_isNode ∈ kG := k_in3 (i := 111) rfl rfl
theorem q_592 : Cond.methodLink R_Se 191 y_Pl_isLastInRow ∈ kG := k_in3 (i := 112) rfl rfl
theorem q_593 : Cond.instanceMethod y_Pl_isLastInRow ∈ kG := k_in3 (i := 113) rfl rfl
theorem q_594 : Cond.selects R_Pl y_Pl_isLastInRow y_Pl_isLastInRow ∈ kG := k_in3 (i := 114) rfl rfl
theorem q_595 : Cond.code y_Pl_isLastInRow c_Pl_isLastInRow 2 (some .boolean) ∈ kG := k_in3 (i := 115) rfl rfl
theorem q_596 : Cond.methodLink R_Se 108 y_Pl_slotCount ∈ kG := k_in3 (i := 116) rfl rfl
theorem q_597 : Cond.instanceMethod y_Pl_slotCount ∈ kG := k_in3 (i := 117) rfl rfl
theorem q_598 : Cond.selects R_Pl y_Pl_slotCount y_Pl_slotCount ∈ kG := k_in3 (i := 118) rfl rfl
theorem q_599 : Cond.code y_Pl_slotCount c_Pl_slotCount 1 (some .int) ∈ kG := k_in3 (i := 119) rfl rfl
theorem q_600 : Cond.methodLink R_Se 112 y_Mt_keep ∈ kG := k_in3 (i := 120) rfl rfl
theorem q_601 : Cond.instanceMethod y_Mt_keep ∈ kG := k_in3 (i := 121) rfl rfl
theorem q_602 : Cond.selects R_Mt y_Mt_keep y_Mt_keep ∈ kG := k_in3 (i := 122) rfl rfl
theorem q_603 : Cond.code y_Mt_keep c_Mt_keep 2 none ∈ kG := k_in3 (i := 123) rfl rfl
theorem q_604 : Cond.methodLink R_Mt 25 ⟨"java/lang/System", "arraycopy", "(Ljava/lang/Object;ILjava/lang/Object;II)V"⟩ ∈ kG := k_in3 (i := 124) rfl rfl
theorem q_605 : Cond.methodLink R_SM 82 y_Se_isSpent ∈ kG := k_in3 (i := 125) rfl rfl
theorem q_606 : Cond.instanceMethod y_Se_isSpent ∈ kG := k_in3 (i := 126) rfl rfl
theorem q_607 : Cond.selects R_Se y_Se_isSpent y_Se_isSpent ∈ kG := k_in3 (i := 127) rfl rfl
theorem q_608 : Cond.code y_Se_isSpent c_Se_isSpent 1 (some .boolean) ∈ kG := k_in3 (i := 128) rfl rfl
theorem q_609 : Cond.methodLink R_SM 86 y_Se_found ∈ kG := k_in3 (i := 129) rfl rfl
theorem q_610 : Cond.instanceMethod y_Se_found ∈ kG := k_in3 (i := 130) rfl rfl
theorem q_611 : Cond.selects R_Se y_Se_found y_Se_found ∈ kG := k_in3 (i := 131) rfl rfl
theorem q_612 : Cond.code y_Se_found c_Se_found 1 (some .int) ∈ kG := k_in3 (i := 132) rfl rfl
theorem q_613 : Cond.methodLink R_La 97 y_La_bound ∈ kG := k_in3 (i := 133) rfl rfl
theorem q_614 : Cond.static y_La_bound ∈ kG := k_in3 (i := 134) rfl rfl
theorem q_616 : Cond.methodLink R_La 38 y_SM_bound ∈ kG := k_in3 (i := 136) rfl rfl
theorem q_617 : Cond.instanceMethod y_SM_bound ∈ kG := k_in3 (i := 137) rfl rfl
theorem q_618 : Cond.selects R_SM y_SM_bound y_SM_bound ∈ kG := k_in3 (i := 138) rfl rfl
theorem q_619 : Cond.code y_SM_bound c_SM_bound 4 (some .int) ∈ kG := k_in3 (i := 139) rfl rfl
theorem q_620 : Cond.methodLink R_SM 93 y_SM_requireMatch ∈ kG := k_in3 (i := 140) rfl rfl
theorem q_622 : Cond.instanceMethod y_SM_requireMatch ∈ kG := k_in3 (i := 142) rfl rfl
theorem q_623 : Cond.code y_SM_requireMatch c_SM_requireMatch 2 none ∈ kG := k_in3 (i := 143) rfl rfl
theorem q_625 : Cond.methodLink R_SM 100 y_Mt_treeOf ∈ kG := k_in3 (i := 145) rfl rfl
theorem q_626 : Cond.instanceMethod y_Mt_treeOf ∈ kG := k_in3 (i := 146) rfl rfl
theorem q_627 : Cond.selects R_Mt y_Mt_treeOf y_Mt_treeOf ∈ kG := k_in3 (i := 147) rfl rfl
theorem q_628 : Cond.code y_Mt_treeOf c_Mt_treeOf 4 (some .int) ∈ kG := k_in3 (i := 148) rfl rfl
theorem q_629 : Cond.methodLink R_Mt 32 y_Mt_lengthOf ∈ kG := k_in3 (i := 149) rfl rfl
theorem q_630 : Cond.instanceMethod y_Mt_lengthOf ∈ kG := k_in3 (i := 150) rfl rfl
theorem q_631 : Cond.selects R_Mt y_Mt_lengthOf y_Mt_lengthOf ∈ kG := k_in3 (i := 151) rfl rfl
theorem q_632 : Cond.code y_Mt_lengthOf c_Mt_lengthOf 3 (some .int) ∈ kG := k_in3 (i := 152) rfl rfl
theorem q_633 : Cond.methodLink R_La 100 y_La_many ∈ kG := k_in3 (i := 153) rfl rfl
theorem q_634 : Cond.static y_La_many ∈ kG := k_in3 (i := 154) rfl rfl
theorem q_636 : Cond.methodLink R_La 41 y_SM_many ∈ kG := k_in3 (i := 156) rfl rfl
theorem q_637 : Cond.instanceMethod y_SM_many ∈ kG := k_in3 (i := 157) rfl rfl
theorem q_638 : Cond.selects R_SM y_SM_many y_SM_many ∈ kG := k_in3 (i := 158) rfl rfl
theorem q_639 : Cond.code y_SM_many c_SM_many 3 (some .int) ∈ kG := k_in3 (i := 159) rfl rfl
theorem q_640 : Cond.methodLink R_SM 105 y_Mt_lengthOf ∈ kG := k_in3 (i := 160) rfl rfl
theorem q_641 : Cond.methodLink R_La 103 y_La_rule ∈ kG := k_in3 (i := 161) rfl rfl
theorem q_642 : Cond.static y_La_rule ∈ kG := k_in3 (i := 162) rfl rfl
theorem q_644 : Cond.methodLink R_La 44 y_SM_rule ∈ kG := k_in3 (i := 164) rfl rfl
theorem q_645 : Cond.instanceMethod y_SM_rule ∈ kG := k_in3 (i := 165) rfl rfl
theorem q_646 : Cond.selects R_SM y_SM_rule y_SM_rule ∈ kG := k_in3 (i := 166) rfl rfl
theorem q_647 : Cond.code y_SM_rule c_SM_rule 2 (some .int) ∈ kG := k_in3 (i := 167) rfl rfl
theorem q_649 : Cond.methodLink R_SM 114 y_F_close ∈ kG := k_in3 (i := 169) rfl rfl
theorem q_650 : Cond.instanceMethod y_F_close ∈ kG := k_in3 (i := 170) rfl rfl
theorem q_651 : Cond.selects R_F y_F_close y_F_close ∈ kG := k_in3 (i := 171) rfl rfl
theorem q_652 : Cond.code y_F_close c_F_close 2 none ∈ kG := k_in3 (i := 172) rfl rfl
theorem q_653 : Cond.methodLink R_La 106 y_La_net ∈ kG := k_in3 (i := 173) rfl rfl
theorem q_654 : Cond.static y_La_net ∈ kG := k_in3 (i := 174) rfl rfl
theorem q_656 : Cond.methodLink R_La 47 y_SM_net ∈ kG := k_in3 (i := 176) rfl rfl
theorem q_657 : Cond.instanceMethod y_SM_net ∈ kG := k_in3 (i := 177) rfl rfl
theorem q_658 : Cond.selects R_SM y_SM_net y_SM_net ∈ kG := k_in3 (i := 178) rfl rfl
theorem q_659 : Cond.code y_SM_net c_SM_net 3 (some .int) ∈ kG := k_in3 (i := 179) rfl rfl
theorem q_660 : Cond.methodLink R_SM 117 y_F_mayMatch ∈ kG := k_in3 (i := 180) rfl rfl
theorem q_661 : Cond.instanceMethod y_F_mayMatch ∈ kG := k_in3 (i := 181) rfl rfl
theorem q_662 : Cond.selects R_F y_F_mayMatch y_F_mayMatch ∈ kG := k_in3 (i := 182) rfl rfl
theorem q_663 : Cond.code y_F_mayMatch c_F_mayMatch 3 (some .boolean) ∈ kG := k_in3 (i := 183) rfl rfl
theorem q_664 : Cond.methodLink R_F 90 y_F_isHole ∈ kG := k_in3 (i := 184) rfl rfl
theorem q_665 : Cond.methodLink R_F 93 y_F_looksLike ∈ kG := k_in3 (i := 185) rfl rfl
theorem q_666 : Cond.methodLink R_F 96 y_F_hasFittingCount ∈ kG := k_in3 (i := 186) rfl rfl
theorem q_668 : Cond.instanceMethod y_F_hasFittingCount ∈ kG := k_in3 (i := 188) rfl rfl
theorem q_669 : Cond.code y_F_hasFittingCount c_F_hasFittingCount 7 (some .boolean) ∈ kG := k_in3 (i := 189) rfl rfl
theorem q_670 : Cond.methodLink R_F 102 y_F_takesSeveral ∈ kG := k_in3 (i := 190) rfl rfl
theorem q_671 : Cond.methodLink R_F 99 y_F_hasFittingStart ∈ kG := k_in3 (i := 191) rfl rfl
theorem q_673 : Cond.instanceMethod y_F_hasFittingStart ∈ kG := k_in3 (i := 193) rfl rfl
theorem q_674 : Cond.code y_F_hasFittingStart c_F_hasFittingStart 3 (some .boolean) ∈ kG := k_in3 (i := 194) rfl rfl
theorem q_675 : Cond.methodLink R_La 113 y_La_first ∈ kG := k_in3 (i := 195) rfl rfl
theorem q_676 : Cond.static y_La_first ∈ kG := k_in3 (i := 196) rfl rfl
theorem q_678 : Cond.methodLink R_La 50 y_SM_first ∈ kG := k_in3 (i := 198) rfl rfl
theorem q_679 : Cond.instanceMethod y_SM_first ∈ kG := k_in3 (i := 199) rfl rfl
theorem q_680 : Cond.selects R_SM y_SM_first y_SM_first ∈ kG := k_in3 (i := 200) rfl rfl
theorem q_681 : Cond.code y_SM_first c_SM_first 4 (some .int) ∈ kG := k_in3 (i := 201) rfl rfl
theorem q_682 : Cond.methodLink R_SM 120 y_Se_clear ∈ kG := k_in3 (i := 202) rfl rfl
theorem q_683 : Cond.methodLink R_La 116 y_La_order ∈ kG := k_in3 (i := 203) rfl rfl
theorem q_684 : Cond.static y_La_order ∈ kG := k_in3 (i := 204) rfl rfl
theorem q_686 : Cond.methodLink R_La 53 y_SM_order ∈ kG := k_in3 (i := 206) rfl rfl
theorem q_687 : Cond.instanceMethod y_SM_order ∈ kG := k_in3 (i := 207) rfl rfl
theorem q_688 : Cond.selects R_SM y_SM_order y_SM_order ∈ kG := k_in3 (i := 208) rfl rfl
theorem q_689 : Cond.code y_SM_order c_SM_order 3 (some .int) ∈ kG := k_in3 (i := 209) rfl rfl
theorem q_690 : Cond.methodLink R_SM 123 y_F_compare ∈ kG := k_in3 (i := 210) rfl rfl
theorem q_691 : Cond.methodLink R_La 119 y_La_parts ∈ kG := k_in3 (i := 211) rfl rfl
theorem q_692 : Cond.static y_La_parts ∈ kG := k_in3 (i := 212) rfl rfl
theorem q_694 : Cond.methodLink R_La 56 y_SM_parts ∈ kG := k_in3 (i := 214) rfl rfl
theorem q_695 : Cond.instanceMethod y_SM_parts ∈ kG := k_in3 (i := 215) rfl rfl
theorem q_696 : Cond.selects R_SM y_SM_parts y_SM_parts ∈ kG := k_in3 (i := 216) rfl rfl
theorem q_697 : Cond.code y_SM_parts c_SM_parts 2 (some .int) ∈ kG := k_in3 (i := 217) rfl rfl
theorem q_698 : Cond.methodLink R_SM 126 y_F_partCount ∈ kG := k_in3 (i := 218) rfl rfl
theorem q_699 : Cond.methodLink R_La 122 y_La_part ∈ kG := k_in3 (i := 219) rfl rfl
theorem q_700 : Cond.static y_La_part ∈ kG := k_in3 (i := 220) rfl rfl
theorem q_702 : Cond.methodLink R_La 59 y_SM_part ∈ kG := k_in3 (i := 222) rfl rfl
theorem q_703 : Cond.instanceMethod y_SM_part ∈ kG := k_in3 (i := 223) rfl rfl
theorem q_704 : Cond.selects R_SM y_SM_part y_SM_part ∈ kG := k_in3 (i := 224) rfl rfl
theorem q_705 : Cond.code y_SM_part c_SM_part 3 (some .int) ∈ kG := k_in3 (i := 225) rfl rfl
theorem q_706 : Cond.methodLink R_SM 130 y_F_partAt ∈ kG := k_in3 (i := 226) rfl rfl
theorem q_707 : Cond.classLink R_La 63 R_Md ∈ kG := k_in3 (i := 227) rfl rfl
theorem q_708 : Cond.instantiable R_Md 44 ∈ kG := k_in3 (i := 228) rfl rfl
theorem q_709 : Cond.methodLink R_La 65 y_Md_init ∈ kG := k_in3 (i := 229) rfl rfl
theorem q_710 : Cond.instanceMethod y_Md_init ∈ kG := k_in3 (i := 230) rfl rfl
theorem q_711 : Cond.code y_Md_init c_Md_init 1 none ∈ kG := k_in3 (i := 231) rfl rfl
theorem q_712 : Cond.methodLink R_Md 1 ⟨"java/lang/Object", "<init>", "()V"⟩ ∈ kG := k_in3 (i := 232) rfl rfl
theorem q_713 : Cond.fieldLink R_Md 7 "SequenceMatchModel" "thrownCode" "I" ∈ kG := k_in3 (i := 233) rfl rfl
theorem q_714 : Cond.fieldLink R_Md 13 "SequenceMatchModel" "trees" "I" ∈ kG := k_in3 (i := 234) rfl rfl
theorem q_715 : Cond.fieldLink R_Md 16 "SequenceMatchModel" "sort" "[I" ∈ kG := k_in3 (i := 235) rfl rfl
theorem q_716 : Cond.fieldLink R_Md 20 "SequenceMatchModel" "name" "[I" ∈ kG := k_in3 (i := 236) rfl rfl
theorem q_717 : Cond.fieldLink R_Md 23 "SequenceMatchModel" "kind" "[I" ∈ kG := k_in3 (i := 237) rfl rfl
theorem q_718 : Cond.fieldLink R_Md 26 "SequenceMatchModel" "count" "[I" ∈ kG := k_in3 (i := 238) rfl rfl
theorem q_719 : Cond.fieldLink R_Md 29 "SequenceMatchModel" "parts" "[I" ∈ kG := k_in3 (i := 239) rfl rfl
theorem q_720 : Cond.fieldLink R_Md 32 "SequenceMatchModel" "plain" "[Z" ∈ kG := k_in4 (i := 0) rfl rfl
theorem q_721 : Cond.fieldLink R_Md 36 "SequenceMatchModel" "fixed" "[Z" ∈ kG := k_in4 (i := 1) rfl rfl
theorem q_722 : Cond.fieldLink R_Md 39 "SequenceMatchModel" "depth" "[I" ∈ kG := k_in4 (i := 2) rfl rfl
theorem q_723 : Cond.fieldLink R_Md 42 "SequenceMatchModel" "size" "[I" ∈ kG := k_in4 (i := 3) rfl rfl
theorem q_724 : Cond.fieldLink R_Md 45 "SequenceMatchModel" "tests" "[I" ∈ kG := k_in4 (i := 4) rfl rfl
theorem q_725 : Cond.fieldLink R_Md 48 "SequenceMatchModel" "testKind" "[I" ∈ kG := k_in4 (i := 5) rfl rfl
theorem q_726 : Cond.fieldLink R_Md 51 "SequenceMatchModel" "testValue" "[I" ∈ kG := k_in4 (i := 6) rfl rfl
theorem q_727 : Cond.fieldLink R_Md 54 "SequenceMatchModel" "rules" "I" ∈ kG := k_in4 (i := 7) rfl rfl
theorem q_728 : Cond.fieldLink R_Md 57 "SequenceMatchModel" "rule" "[I" ∈ kG := k_in4 (i := 8) rfl rfl
theorem q_729 : Cond.fieldLink R_Md 60 "SequenceMatchModel" "netCount" "I" ∈ kG := k_in4 (i := 9) rfl rfl
theorem q_730 : Cond.fieldLink R_Md 63 "SequenceMatchModel" "net" "[I" ∈ kG := k_in4 (i := 10) rfl rfl
theorem q_731 : Cond.fieldLink R_Md 66 "SequenceMatchModel" "kept" "I" ∈ kG := k_in4 (i := 11) rfl rfl
theorem q_732 : Cond.fieldLink R_Md 69 "SequenceMatchModel" "keptMany" "[I" ∈ kG := k_in4 (i := 12) rfl rfl
theorem q_733 : Cond.fieldLink R_Md 72 "SequenceMatchModel" "keptTree" "[I" ∈ kG := k_in4 (i := 13) rfl rfl
theorem q_734 : Cond.fieldLink R_Md 75 "SequenceMatchModel" "many" "[I" ∈ kG := k_in4 (i := 14) rfl rfl
theorem q_735 : Cond.fieldLink R_Md 78 "SequenceMatchModel" "row" "[I" ∈ kG := k_in4 (i := 15) rfl rfl
theorem q_736 : Cond.fieldLink R_Md 81 "SequenceMatchModel" "bound" "I" ∈ kG := k_in4 (i := 16) rfl rfl
theorem q_737 : Cond.fieldLink R_Md 84 "SequenceMatchModel" "boundName" "[I" ∈ kG := k_in4 (i := 17) rfl rfl
theorem q_738 : Cond.fieldLink R_Md 87 "SequenceMatchModel" "tried" "I" ∈ kG := k_in4 (i := 18) rfl rfl
theorem q_739 : Cond.fieldLink R_Md 90 "SequenceMatchModel" "most" "I" ∈ kG := k_in4 (i := 19) rfl rfl
theorem q_740 : Cond.fieldLink R_Md 93 "SequenceMatchModel" "found" "I" ∈ kG := k_in4 (i := 20) rfl rfl
theorem q_741 : Cond.fieldLink R_Md 96 "SequenceMatchModel" "spent" "Z" ∈ kG := k_in4 (i := 21) rfl rfl
theorem q_742 : Cond.fieldLink R_Md 100 "SequenceMatchModel" "goals" "I" ∈ kG := k_in4 (i := 22) rfl rfl
theorem q_743 : Cond.fieldLink R_Md 103 "SequenceMatchModel" "goalNode" "[I" ∈ kG := k_in4 (i := 23) rfl rfl
theorem q_744 : Cond.fieldLink R_Md 106 "SequenceMatchModel" "goalTree" "[I" ∈ kG := k_in4 (i := 24) rfl rfl
theorem q_745 : Cond.fieldLink R_Md 109 "SequenceMatchModel" "goalPart" "[I" ∈ kG := k_in4 (i := 25) rfl rfl
theorem q_746 : Cond.fieldLink R_Md 112 "SequenceMatchModel" "goalUsed" "[I" ∈ kG := k_in4 (i := 26) rfl rfl
theorem q_747 : Cond.fieldLink R_Md 115 "SequenceMatchModel" "goalNext" "[I" ∈ kG := k_in4 (i := 27) rfl rfl
theorem q_748 : Cond.fieldLink R_Md 118 "SequenceMatchModel" "choices" "I" ∈ kG := k_in4 (i := 28) rfl rfl
theorem q_749 : Cond.fieldLink R_Md 121 "SequenceMatchModel" "choiceGoal" "[I" ∈ kG := k_in4 (i := 29) rfl rfl
theorem q_750 : Cond.fieldLink R_Md 124 "SequenceMatchModel" "choiceTaken" "[I" ∈ kG := k_in4 (i := 30) rfl rfl
theorem q_751 : Cond.fieldLink R_Md 127 "SequenceMatchModel" "choiceBound" "[I" ∈ kG := k_in4 (i := 31) rfl rfl
theorem q_752 : Cond.fieldLink R_Md 130 "SequenceMatchModel" "choiceGoals" "[I" ∈ kG := k_in4 (i := 32) rfl rfl
theorem q_753 : Cond.fieldLink R_Md 133 "SequenceMatchModel" "left" "[I" ∈ kG := k_in4 (i := 33) rfl rfl
theorem q_754 : Cond.fieldLink R_Md 136 "SequenceMatchModel" "right" "[I" ∈ kG := k_in4 (i := 34) rfl rfl
theorem q_755 : Cond.fieldLink R_Md 139 "SequenceMatchModel" "place" "[I" ∈ kG := k_in4 (i := 35) rfl rfl
theorem q_756 : Cond.fieldLink R_Md 142 "SequenceMatchModel" "now" "[I" ∈ kG := k_in4 (i := 36) rfl rfl
theorem q_846 : Cond.methodLink R_La 72 y_Md_thrown ∈ kG := k_in4 (i := 126) rfl rfl
theorem q_847 : Cond.instanceMethod y_Md_thrown ∈ kG := k_in4 (i := 127) rfl rfl
theorem q_848 : Cond.selects R_Md y_Md_thrown y_Md_thrown ∈ kG := k_in4 (i := 128) rfl rfl
theorem q_849 : Cond.code y_Md_thrown c_Md_thrown 1 (some .int) ∈ kG := k_in4 (i := 129) rfl rfl
theorem q_850 : Cond.methodLink R_La 71 y_Md_leaf ∈ kG := k_in4 (i := 130) rfl rfl
theorem q_851 : Cond.instanceMethod y_Md_leaf ∈ kG := k_in4 (i := 131) rfl rfl
theorem q_852 : Cond.selects R_Md y_Md_leaf y_Md_leaf ∈ kG := k_in4 (i := 132) rfl rfl
theorem q_853 : Cond.code y_Md_leaf c_Md_leaf 2 (some .int) ∈ kG := k_in4 (i := 133) rfl rfl
theorem q_854 : Cond.methodLink R_Md 203 y_Md_tree ∈ kG := k_in4 (i := 134) rfl rfl
theorem q_856 : Cond.instanceMethod y_Md_tree ∈ kG := k_in4 (i := 136) rfl rfl
theorem q_857 : Cond.code y_Md_tree c_Md_tree 4 (some .int) ∈ kG := k_in4 (i := 137) rfl rfl
theorem q_858 : Cond.methodLink R_La 78 y_Md_node ∈ kG := k_in4 (i := 138) rfl rfl
theorem q_859 : Cond.instanceMethod y_Md_node ∈ kG := k_in4 (i := 139) rfl rfl
theorem q_860 : Cond.selects R_Md y_Md_node y_Md_node ∈ kG := k_in4 (i := 140) rfl rfl
theorem q_861 : Cond.code y_Md_node c_Md_node 2 (some .int) ∈ kG := k_in4 (i := 141) rfl rfl
theorem q_862 : Cond.methodLink R_La 85 y_Md_hole ∈ kG := k_in4 (i := 142) rfl rfl
theorem q_863 : Cond.instanceMethod y_Md_hole ∈ kG := k_in4 (i := 143) rfl rfl
theorem q_864 : Cond.selects R_Md y_Md_hole y_Md_hole ∈ kG := k_in4 (i := 144) rfl rfl
theorem q_865 : Cond.code y_Md_hole c_Md_hole 4 (some .int) ∈ kG := k_in4 (i := 145) rfl rfl
theorem q_866 : Cond.methodLink R_La 82 y_Md_more ∈ kG := k_in4 (i := 146) rfl rfl
theorem q_867 : Cond.instanceMethod y_Md_more ∈ kG := k_in4 (i := 147) rfl rfl
theorem q_868 : Cond.selects R_Md y_Md_more y_Md_more ∈ kG := k_in4 (i := 148) rfl rfl
theorem q_869 : Cond.code y_Md_more c_Md_more 5 (some .boolean) ∈ kG := k_in4 (i := 149) rfl rfl
theorem q_870 : Cond.methodLink R_Md 207 y_Md_noTree ∈ kG := k_in4 (i := 150) rfl rfl
theorem q_872 : Cond.instanceMethod y_Md_noTree ∈ kG := k_in4 (i := 152) rfl rfl
theorem q_873 : Cond.code y_Md_noTree c_Md_noTree 2 (some .boolean) ∈ kG := k_in4 (i := 153) rfl rfl
theorem q_874 : Cond.methodLink R_Md 168 y_Md_anyOrder ∈ kG := k_in4 (i := 154) rfl rfl
theorem q_875 : Cond.static y_Md_anyOrder ∈ kG := k_in4 (i := 155) rfl rfl
theorem q_876 : Cond.code y_Md_anyOrder c_Md_anyOrder 1 (some .boolean) ∈ kG := k_in4 (i := 156) rfl rfl
theorem q_877 : Cond.methodLink R_Md 149 y_Md_compare ∈ kG := k_in4 (i := 157) rfl rfl
theorem q_879 : Cond.instanceMethod y_Md_compare ∈ kG := k_in4 (i := 159) rfl rfl
theorem q_880 : Cond.code y_Md_compare c_Md_compare 7 (some .int) ∈ kG := k_in4 (i := 160) rfl rfl
theorem q_881 : Cond.methodLink R_La 89 y_Md_test ∈ kG := k_in4 (i := 161) rfl rfl
theorem q_882 : Cond.instanceMethod y_Md_test ∈ kG := k_in4 (i := 162) rfl rfl
theorem q_883 : Cond.selects R_Md y_Md_test y_Md_test ∈ kG := k_in4 (i := 163) rfl rfl
theorem q_884 : Cond.code y_Md_test c_Md_test 4 (some .boolean) ∈ kG := k_in4 (i := 164) rfl rfl
theorem q_885 : Cond.methodLink R_La 92 y_Md_match ∈ kG := k_in4 (i := 165) rfl rfl
theorem q_886 : Cond.instanceMethod y_Md_match ∈ kG := k_in4 (i := 166) rfl rfl
theorem q_887 : Cond.selects R_Md y_Md_match y_Md_match ∈ kG := k_in4 (i := 167) rfl rfl
theorem q_888 : Cond.code y_Md_match c_Md_match 4 (some .int) ∈ kG := k_in4 (i := 168) rfl rfl
theorem q_889 : Cond.methodLink R_Md 210 y_Md_search ∈ kG := k_in4 (i := 169) rfl rfl
theorem q_891 : Cond.instanceMethod y_Md_search ∈ kG := k_in4 (i := 171) rfl rfl
theorem q_892 : Cond.code y_Md_search c_Md_search 5 none ∈ kG := k_in4 (i := 172) rfl rfl
theorem q_893 : Cond.methodLink R_Md 188 y_Md_tries ∈ kG := k_in4 (i := 173) rfl rfl
theorem q_895 : Cond.instanceMethod y_Md_tries ∈ kG := k_in4 (i := 175) rfl rfl
theorem q_896 : Cond.code y_Md_tries c_Md_tries 1 (some .boolean) ∈ kG := k_in4 (i := 176) rfl rfl
theorem q_897 : Cond.methodLink R_Md 192 y_Md_puts ∈ kG := k_in4 (i := 177) rfl rfl
theorem q_899 : Cond.instanceMethod y_Md_puts ∈ kG := k_in4 (i := 179) rfl rfl
theorem q_900 : Cond.code y_Md_puts c_Md_puts 5 (some .int) ∈ kG := k_in4 (i := 180) rfl rfl
theorem q_901 : Cond.methodLink R_Md 153 y_Md_binds ∈ kG := k_in4 (i := 181) rfl rfl
theorem q_903 : Cond.instanceMethod y_Md_binds ∈ kG := k_in4 (i := 183) rfl rfl
theorem q_904 : Cond.code y_Md_binds c_Md_binds 5 (some .boolean) ∈ kG := k_in4 (i := 184) rfl rfl
theorem q_905 : Cond.methodLink R_Md 145 y_Md_testHolds ∈ kG := k_in4 (i := 185) rfl rfl
theorem q_907 : Cond.instanceMethod y_Md_testHolds ∈ kG := k_in4 (i := 187) rfl rfl
theorem q_908 : Cond.code y_Md_testHolds c_Md_testHolds 6 (some .boolean) ∈ kG := k_in4 (i := 188) rfl rfl
theorem q_909 : Cond.methodLink R_Md 157 y_Md_goal ∈ kG := k_in4 (i := 189) rfl rfl
theorem q_911 : Cond.instanceMethod y_Md_goal ∈ kG := k_in4 (i := 191) rfl rfl
theorem q_912 : Cond.code y_Md_goal c_Md_goal 6 (some .int) ∈ kG := k_in4 (i := 192) rfl rfl
theorem q_913 : Cond.methodLink R_Md 196 y_Md_keepMatch ∈ kG := k_in4 (i := 193) rfl rfl
theorem q_915 : Cond.instanceMethod y_Md_keepMatch ∈ kG := k_in4 (i := 195) rfl rfl
theorem q_916 : Cond.code y_Md_keepMatch c_Md_keepMatch 3 none ∈ kG := k_in4 (i := 196) rfl rfl
theorem q_917 : Cond.methodLink R_Md 199 y_Md_otherwise ∈ kG := k_in4 (i := 197) rfl rfl
theorem q_919 : Cond.instanceMethod y_Md_otherwise ∈ kG := k_in4 (i := 199) rfl rfl
theorem q_920 : Cond.code y_Md_otherwise c_Md_otherwise 7 (some .int) ∈ kG := k_in4 (i := 200) rfl rfl
theorem q_921 : Cond.methodLink R_Md 181 y_Md_backTo ∈ kG := k_in4 (i := 201) rfl rfl
theorem q_923 : Cond.instanceMethod y_Md_backTo ∈ kG := k_in4 (i := 203) rfl rfl
theorem q_924 : Cond.code y_Md_backTo c_Md_backTo 3 none ∈ kG := k_in4 (i := 204) rfl rfl
theorem q_925 : Cond.methodLink R_Md 185 y_Md_takenNext ∈ kG := k_in4 (i := 205) rfl rfl
theorem q_927 : Cond.instanceMethod y_Md_takenNext ∈ kG := k_in4 (i := 207) rfl rfl
theorem q_928 : Cond.code y_Md_takenNext c_Md_takenNext 8 (some .int) ∈ kG := k_in4 (i := 208) rfl rfl
theorem q_929 : Cond.methodLink R_Md 165 y_Md_leftOf ∈ kG := k_in4 (i := 209) rfl rfl
theorem q_931 : Cond.instanceMethod y_Md_leftOf ∈ kG := k_in4 (i := 211) rfl rfl
theorem q_932 : Cond.code y_Md_leftOf c_Md_leftOf 4 (some .int) ∈ kG := k_in4 (i := 212) rfl rfl
theorem q_933 : Cond.methodLink R_Md 161 y_Md_bit ∈ kG := k_in4 (i := 213) rfl rfl
theorem q_934 : Cond.static y_Md_bit ∈ kG := k_in4 (i := 214) rfl rfl
theorem q_935 : Cond.code y_Md_bit c_Md_bit 1 (some .int) ∈ kG := k_in4 (i := 215) rfl rfl
theorem q_936 : Cond.methodLink R_Md 172 y_Md_severals ∈ kG := k_in4 (i := 216) rfl rfl
theorem q_938 : Cond.instanceMethod y_Md_severals ∈ kG := k_in4 (i := 218) rfl rfl
theorem q_939 : Cond.code y_Md_severals c_Md_severals 2 (some .boolean) ∈ kG := k_in4 (i := 219) rfl rfl
theorem q_940 : Cond.methodLink R_Md 175 y_Md_bits ∈ kG := k_in4 (i := 220) rfl rfl
theorem q_941 : Cond.static y_Md_bits ∈ kG := k_in4 (i := 221) rfl rfl
theorem q_942 : Cond.code y_Md_bits c_Md_bits 3 (some .int) ∈ kG := k_in4 (i := 222) rfl rfl
theorem q_943 : Cond.methodLink R_Md 178 y_Md_firstOf ∈ kG := k_in4 (i := 223) rfl rfl
theorem q_944 : Cond.static y_Md_firstOf ∈ kG := k_in4 (i := 224) rfl rfl
theorem q_945 : Cond.code y_Md_firstOf c_Md_firstOf 5 (some .int) ∈ kG := k_in4 (i := 225) rfl rfl
theorem q_946 : Cond.methodLink R_La 96 y_Md_tried ∈ kG := k_in4 (i := 226) rfl rfl
theorem q_947 : Cond.instanceMethod y_Md_tried ∈ kG := k_in4 (i := 227) rfl rfl
theorem q_948 : Cond.selects R_Md y_Md_tried y_Md_tried ∈ kG := k_in4 (i := 228) rfl rfl
theorem q_949 : Cond.code y_Md_tried c_Md_tried 1 (some .int) ∈ kG := k_in4 (i := 229) rfl rfl
theorem q_950 : Cond.methodLink R_La 99 y_Md_bound ∈ kG := k_in4 (i := 230) rfl rfl
theorem q_951 : Cond.instanceMethod y_Md_bound ∈ kG := k_in4 (i := 231) rfl rfl
theorem q_952 : Cond.selects R_Md y_Md_bound y_Md_bound ∈ kG := k_in4 (i := 232) rfl rfl
theorem q_953 : Cond.code y_Md_bound c_Md_bound 4 (some .int) ∈ kG := k_in4 (i := 233) rfl rfl
theorem q_954 : Cond.methodLink R_La 102 y_Md_many ∈ kG := k_in4 (i := 234) rfl rfl
theorem q_955 : Cond.instanceMethod y_Md_many ∈ kG := k_in4 (i := 235) rfl rfl
theorem q_956 : Cond.selects R_Md y_Md_many y_Md_many ∈ kG := k_in4 (i := 236) rfl rfl
theorem q_957 : Cond.code y_Md_many c_Md_many 3 (some .int) ∈ kG := k_in4 (i := 237) rfl rfl
theorem q_958 : Cond.methodLink R_La 105 y_Md_rule ∈ kG := k_in4 (i := 238) rfl rfl
theorem q_959 : Cond.instanceMethod y_Md_rule ∈ kG := k_in4 (i := 239) rfl rfl
theorem q_960 : Cond.selects R_Md y_Md_rule y_Md_rule ∈ kG := k_in5 (i := 0) rfl rfl
theorem q_961 : Cond.code y_Md_rule c_Md_rule 2 (some .int) ∈ kG := k_in5 (i := 1) rfl rfl
theorem q_962 : Cond.methodLink R_La 108 y_Md_net ∈ kG := k_in5 (i := 2) rfl rfl
theorem q_963 : Cond.instanceMethod y_Md_net ∈ kG := k_in5 (i := 3) rfl rfl
theorem q_964 : Cond.selects R_Md y_Md_net y_Md_net ∈ kG := k_in5 (i := 4) rfl rfl
theorem q_965 : Cond.code y_Md_net c_Md_net 3 (some .int) ∈ kG := k_in5 (i := 5) rfl rfl
theorem q_966 : Cond.methodLink R_Md 214 y_Md_may ∈ kG := k_in5 (i := 6) rfl rfl
theorem q_968 : Cond.instanceMethod y_Md_may ∈ kG := k_in5 (i := 8) rfl rfl
theorem q_969 : Cond.code y_Md_may c_Md_may 8 (some .boolean) ∈ kG := k_in5 (i := 9) rfl rfl
theorem q_970 : Cond.methodLink R_La 112 y_Md_rules ∈ kG := k_in5 (i := 10) rfl rfl
theorem q_971 : Cond.instanceMethod y_Md_rules ∈ kG := k_in5 (i := 11) rfl rfl
theorem q_972 : Cond.selects R_Md y_Md_rules y_Md_rules ∈ kG := k_in5 (i := 12) rfl rfl
theorem q_973 : Cond.code y_Md_rules c_Md_rules 2 (some .int) ∈ kG := k_in5 (i := 13) rfl rfl
theorem q_974 : Cond.methodLink R_La 115 y_Md_first ∈ kG := k_in5 (i := 14) rfl rfl
theorem q_975 : Cond.instanceMethod y_Md_first ∈ kG := k_in5 (i := 15) rfl rfl
theorem q_976 : Cond.selects R_Md y_Md_first y_Md_first ∈ kG := k_in5 (i := 16) rfl rfl
theorem q_977 : Cond.code y_Md_first c_Md_first 4 (some .int) ∈ kG := k_in5 (i := 17) rfl rfl
theorem q_978 : Cond.methodLink R_La 118 y_Md_order ∈ kG := k_in5 (i := 18) rfl rfl
theorem q_979 : Cond.instanceMethod y_Md_order ∈ kG := k_in5 (i := 19) rfl rfl
theorem q_980 : Cond.selects R_Md y_Md_order y_Md_order ∈ kG := k_in5 (i := 20) rfl rfl
theorem q_981 : Cond.code y_Md_order c_Md_order 3 (some .int) ∈ kG := k_in5 (i := 21) rfl rfl
theorem q_982 : Cond.methodLink R_La 121 y_Md_parts ∈ kG := k_in5 (i := 22) rfl rfl
theorem q_983 : Cond.instanceMethod y_Md_parts ∈ kG := k_in5 (i := 23) rfl rfl
theorem q_984 : Cond.selects R_Md y_Md_parts y_Md_parts ∈ kG := k_in5 (i := 24) rfl rfl
theorem q_985 : Cond.code y_Md_parts c_Md_parts 2 (some .int) ∈ kG := k_in5 (i := 25) rfl rfl
theorem q_986 : Cond.methodLink R_La 124 y_Md_part ∈ kG := k_in5 (i := 26) rfl rfl
theorem q_987 : Cond.instanceMethod y_Md_part ∈ kG := k_in5 (i := 27) rfl rfl
theorem q_988 : Cond.selects R_Md y_Md_part y_Md_part ∈ kG := k_in5 (i := 28) rfl rfl
theorem q_989 : Cond.code y_Md_part c_Md_part 3 (some .int) ∈ kG := k_in5 (i := 29) rfl rfl
theorem q_990 : Cond.methodLink R_La 128 y_Md_count ∈ kG := k_in5 (i := 30) rfl rfl
theorem q_991 : Cond.instanceMethod y_Md_count ∈ kG := k_in5 (i := 31) rfl rfl
theorem q_992 : Cond.selects R_Md y_Md_count y_Md_count ∈ kG := k_in5 (i := 32) rfl rfl
theorem q_993 : Cond.code y_Md_count c_Md_count 2 (some .int) ∈ kG := k_in5 (i := 33) rfl rfl
theorem q_994 : Cond.arrayClass .long ∈ kG := k_in5 (i := 34) rfl rfl
theorem s_0 : Cond.selects "java/lang/Throwable" ⟨"java/lang/Throwable", "fillInStackTrace", "(I)Ljava/lang/Throwable;"⟩ ⟨"java/lang/Throwable", "fillInStackTrace", "(I)Ljava/lang/Throwable;"⟩ ∈ kG := k_inS (i := 0) (by decide +kernel) rfl
theorem s_1 : Cond.selects R_SM y_SM_newTree y_SM_newTree ∈ kG := k_inS (i := 1) (by decide +kernel) rfl
theorem s_2 : Cond.selects R_SM y_SM_requireTree y_SM_requireTree ∈ kG := k_inS (i := 2) (by decide +kernel) rfl
theorem s_3 : Cond.selects R_F y_F_placeFor y_F_placeFor ∈ kG := k_inS (i := 3) (by decide +kernel) rfl
theorem s_4 : Cond.selects R_SM y_SM_requirePlain y_SM_requirePlain ∈ kG := k_inS (i := 4) (by decide +kernel) rfl
theorem s_5 : Cond.selects R_Se y_Se_release y_Se_release ∈ kG := k_inS (i := 5) (by decide +kernel) rfl
theorem s_6 : Cond.selects R_Se y_Se_choose y_Se_choose ∈ kG := k_inS (i := 6) (by decide +kernel) rfl
theorem s_7 : Cond.selects R_Se y_Se_firstChoice y_Se_firstChoice ∈ kG := k_inS (i := 7) (by decide +kernel) rfl
theorem s_8 : Cond.selects R_Se y_Se_laterChoice y_Se_laterChoice ∈ kG := k_inS (i := 8) (by decide +kernel) rfl
theorem s_9 : Cond.selects R_Se y_Se_makeTry y_Se_makeTry ∈ kG := k_inS (i := 9) (by decide +kernel) rfl
theorem s_10 : Cond.selects R_Se y_Se_gatherRow y_Se_gatherRow ∈ kG := k_inS (i := 10) (by decide +kernel) rfl
theorem s_11 : Cond.selects R_Se y_Se_fitsHole y_Se_fitsHole ∈ kG := k_inS (i := 11) (by decide +kernel) rfl
theorem s_12 : Cond.selects R_F y_F_passes y_F_passes ∈ kG := k_inS (i := 12) (by decide +kernel) rfl
theorem s_13 : Cond.selects R_Se y_Se_fitsLeafOrNode y_Se_fitsLeafOrNode ∈ kG := k_inS (i := 13) (by decide +kernel) rfl
theorem s_14 : Cond.selects R_Se y_Se_rowsEndHere y_Se_rowsEndHere ∈ kG := k_inS (i := 14) (by decide +kernel) rfl
theorem s_15 : Cond.selects R_SM y_SM_requireMatch y_SM_requireMatch ∈ kG := k_inS (i := 15) (by decide +kernel) rfl
theorem s_16 : Cond.selects R_F y_F_hasFittingCount y_F_hasFittingCount ∈ kG := k_inS (i := 16) (by decide +kernel) rfl
theorem s_17 : Cond.selects R_F y_F_hasFittingStart y_F_hasFittingStart ∈ kG := k_inS (i := 17) (by decide +kernel) rfl
theorem s_18 : Cond.selects R_Md y_Md_tree y_Md_tree ∈ kG := k_inS (i := 18) (by decide +kernel) rfl
theorem s_19 : Cond.selects R_Md y_Md_noTree y_Md_noTree ∈ kG := k_inS (i := 19) (by decide +kernel) rfl
theorem s_20 : Cond.selects R_Md y_Md_compare y_Md_compare ∈ kG := k_inS (i := 20) (by decide +kernel) rfl
theorem s_21 : Cond.selects R_Md y_Md_search y_Md_search ∈ kG := k_inS (i := 21) (by decide +kernel) rfl
theorem s_22 : Cond.selects R_Md y_Md_tries y_Md_tries ∈ kG := k_inS (i := 22) (by decide +kernel) rfl
theorem s_23 : Cond.selects R_Md y_Md_puts y_Md_puts ∈ kG := k_inS (i := 23) (by decide +kernel) rfl
theorem s_24 : Cond.selects R_Md y_Md_binds y_Md_binds ∈ kG := k_inS (i := 24) (by decide +kernel) rfl
theorem s_25 : Cond.selects R_Md y_Md_testHolds y_Md_testHolds ∈ kG := k_inS (i := 25) (by decide +kernel) rfl
theorem s_26 : Cond.selects R_Md y_Md_goal y_Md_goal ∈ kG := k_inS (i := 26) (by decide +kernel) rfl
theorem s_27 : Cond.selects R_Md y_Md_keepMatch y_Md_keepMatch ∈ kG := k_inS (i := 27) (by decide +kernel) rfl
theorem s_28 : Cond.selects R_Md y_Md_otherwise y_Md_otherwise ∈ kG := k_inS (i := 28) (by decide +kernel) rfl
theorem s_29 : Cond.selects R_Md y_Md_backTo y_Md_backTo ∈ kG := k_inS (i := 29) (by decide +kernel) rfl
theorem s_30 : Cond.selects R_Md y_Md_takenNext y_Md_takenNext ∈ kG := k_inS (i := 30) (by decide +kernel) rfl
theorem s_31 : Cond.selects R_Md y_Md_leftOf y_Md_leftOf ∈ kG := k_inS (i := 31) (by decide +kernel) rfl
theorem s_32 : Cond.selects R_Md y_Md_severals y_Md_severals ∈ kG := k_inS (i := 32) (by decide +kernel) rfl
theorem s_33 : Cond.selects R_Md y_Md_may y_Md_may ∈ kG := k_inS (i := 33) (by decide +kernel) rfl
def ws_SM_init : List Cond := Cond.code y_SM_init c_SM_init 1 none :: kG
theorem h_SM_init : y_SM_init.cls = R_SM ∧ y_SM_init.cls ≠ "java/lang/invoke/MethodHandle" ∧ y_SM_init.cls ≠ "java/lang/invoke/VarHandle" ∧ (parseMethodDescriptor y_SM_init.desc).map (fun d => d.parameters.length) = some 0 := by decide +kernel
def ws_SM_leaf : List Cond := Cond.code y_SM_leaf c_SM_leaf 2 (some .int) :: kG
theorem h_SM_leaf : y_SM_leaf.cls = R_SM ∧ y_SM_leaf.cls ≠ "java/lang/invoke/MethodHandle" ∧ y_SM_leaf.cls ≠ "java/lang/invoke/VarHandle" ∧ (parseMethodDescriptor y_SM_leaf.desc).map (fun d => d.parameters.length) = some 1 := by decide +kernel
def ws_SM_node : List Cond := Cond.code y_SM_node c_SM_node 2 (some .int) :: kG
theorem h_SM_node : y_SM_node.cls = R_SM ∧ y_SM_node.cls ≠ "java/lang/invoke/MethodHandle" ∧ y_SM_node.cls ≠ "java/lang/invoke/VarHandle" ∧ (parseMethodDescriptor y_SM_node.desc).map (fun d => d.parameters.length) = some 1 := by decide +kernel
def ws_SM_more : List Cond := Cond.code y_SM_more c_SM_more 3 (some .boolean) :: kG
theorem h_SM_more : y_SM_more.cls = R_SM ∧ y_SM_more.cls ≠ "java/lang/invoke/MethodHandle" ∧ y_SM_more.cls ≠ "java/lang/invoke/VarHandle" ∧ (parseMethodDescriptor y_SM_more.desc).map (fun d => d.parameters.length) = some 2 := by decide +kernel
def ws_SM_hole : List Cond := Cond.code y_SM_hole c_SM_hole 3 (some .int) :: kG
theorem h_SM_hole : y_SM_hole.cls = R_SM ∧ y_SM_hole.cls ≠ "java/lang/invoke/MethodHandle" ∧ y_SM_hole.cls ≠ "java/lang/invoke/VarHandle" ∧ (parseMethodDescriptor y_SM_hole.desc).map (fun d => d.parameters.length) = some 2 := by decide +kernel
def ws_SM_test : List Cond := Cond.code y_SM_test c_SM_test 4 (some .boolean) :: kG
theorem h_SM_test : y_SM_test.cls = R_SM ∧ y_SM_test.cls ≠ "java/lang/invoke/MethodHandle" ∧ y_SM_test.cls ≠ "java/lang/invoke/VarHandle" ∧ (parseMethodDescriptor y_SM_test.desc).map (fun d => d.parameters.length) = some 3 := by decide +kernel
def ws_SM_match : List Cond := Cond.code y_SM_match c_SM_match 4 (some .int) :: kG
theorem h_SM_match : y_SM_match.cls = R_SM ∧ y_SM_match.cls ≠ "java/lang/invoke/MethodHandle" ∧ y_SM_match.cls ≠ "java/lang/invoke/VarHandle" ∧ (parseMethodDescriptor y_SM_match.desc).map (fun d => d.parameters.length) = some 3 := by decide +kernel
def ws_SM_tried : List Cond := Cond.code y_SM_tried c_SM_tried 1 (some .int) :: kG
theorem h_SM_tried : y_SM_tried.cls = R_SM ∧ y_SM_tried.cls ≠ "java/lang/invoke/MethodHandle" ∧ y_SM_tried.cls ≠ "java/lang/invoke/VarHandle" ∧ (parseMethodDescriptor y_SM_tried.desc).map (fun d => d.parameters.length) = some 0 := by decide +kernel
def ws_SM_bound : List Cond := Cond.code y_SM_bound c_SM_bound 4 (some .int) :: kG
theorem h_SM_bound : y_SM_bound.cls = R_SM ∧ y_SM_bound.cls ≠ "java/lang/invoke/MethodHandle" ∧ y_SM_bound.cls ≠ "java/lang/invoke/VarHandle" ∧ (parseMethodDescriptor y_SM_bound.desc).map (fun d => d.parameters.length) = some 3 := by decide +kernel
def ws_SM_many : List Cond := Cond.code y_SM_many c_SM_many 3 (some .int) :: kG
theorem h_SM_many : y_SM_many.cls = R_SM ∧ y_SM_many.cls ≠ "java/lang/invoke/MethodHandle" ∧ y_SM_many.cls ≠ "java/lang/invoke/VarHandle" ∧ (parseMethodDescriptor y_SM_many.desc).map (fun d => d.parameters.length) = some 2 := by decide +kernel
def ws_SM_rule : List Cond := Cond.code y_SM_rule c_SM_rule 2 (some .int) :: kG
theorem h_SM_rule : y_SM_rule.cls = R_SM ∧ y_SM_rule.cls ≠ "java/lang/invoke/MethodHandle" ∧ y_SM_rule.cls ≠ "java/lang/invoke/VarHandle" ∧ (parseMethodDescriptor y_SM_rule.desc).map (fun d => d.parameters.length) = some 1 := by decide +kernel
def ws_SM_net : List Cond := Cond.code y_SM_net c_SM_net 3 (some .int) :: kG
theorem h_SM_net : y_SM_net.cls = R_SM ∧ y_SM_net.cls ≠ "java/lang/invoke/MethodHandle" ∧ y_SM_net.cls ≠ "java/lang/invoke/VarHandle" ∧ (parseMethodDescriptor y_SM_net.desc).map (fun d => d.parameters.length) = some 1 := by decide +kernel
def ws_SM_rules : List Cond := Cond.code y_SM_rules c_SM_rules 2 (some .int) :: kG
theorem h_SM_rules : y_SM_rules.cls = R_SM ∧ y_SM_rules.cls ≠ "java/lang/invoke/MethodHandle" ∧ y_SM_rules.cls ≠ "java/lang/invoke/VarHandle" ∧ (parseMethodDescriptor y_SM_rules.desc).map (fun d => d.parameters.length) = some 1 := by decide +kernel
def ws_SM_first : List Cond := Cond.code y_SM_first c_SM_first 4 (some .int) :: kG
theorem h_SM_first : y_SM_first.cls = R_SM ∧ y_SM_first.cls ≠ "java/lang/invoke/MethodHandle" ∧ y_SM_first.cls ≠ "java/lang/invoke/VarHandle" ∧ (parseMethodDescriptor y_SM_first.desc).map (fun d => d.parameters.length) = some 1 := by decide +kernel
def ws_SM_order : List Cond := Cond.code y_SM_order c_SM_order 3 (some .int) :: kG
theorem h_SM_order : y_SM_order.cls = R_SM ∧ y_SM_order.cls ≠ "java/lang/invoke/MethodHandle" ∧ y_SM_order.cls ≠ "java/lang/invoke/VarHandle" ∧ (parseMethodDescriptor y_SM_order.desc).map (fun d => d.parameters.length) = some 2 := by decide +kernel
def ws_SM_parts : List Cond := Cond.code y_SM_parts c_SM_parts 2 (some .int) :: kG
theorem h_SM_parts : y_SM_parts.cls = R_SM ∧ y_SM_parts.cls ≠ "java/lang/invoke/MethodHandle" ∧ y_SM_parts.cls ≠ "java/lang/invoke/VarHandle" ∧ (parseMethodDescriptor y_SM_parts.desc).map (fun d => d.parameters.length) = some 1 := by decide +kernel
def ws_SM_part : List Cond := Cond.code y_SM_part c_SM_part 3 (some .int) :: kG
theorem h_SM_part : y_SM_part.cls = R_SM ∧ y_SM_part.cls ≠ "java/lang/invoke/MethodHandle" ∧ y_SM_part.cls ≠ "java/lang/invoke/VarHandle" ∧ (parseMethodDescriptor y_SM_part.desc).map (fun d => d.parameters.length) = some 2 := by decide +kernel
def ws_SM_count : List Cond := Cond.code y_SM_count c_SM_count 2 (some .int) :: kG
theorem h_SM_count : y_SM_count.cls = R_SM ∧ y_SM_count.cls ≠ "java/lang/invoke/MethodHandle" ∧ y_SM_count.cls ≠ "java/lang/invoke/VarHandle" ∧ (parseMethodDescriptor y_SM_count.desc).map (fun d => d.parameters.length) = some 1 := by decide +kernel
def ws_SM_newTree : List Cond := Cond.code y_SM_newTree c_SM_newTree 4 (some .int) :: kG
theorem h_SM_newTree : y_SM_newTree.cls = R_SM ∧ y_SM_newTree.cls ≠ "java/lang/invoke/MethodHandle" ∧ y_SM_newTree.cls ≠ "java/lang/invoke/VarHandle" ∧ (parseMethodDescriptor y_SM_newTree.desc).map (fun d => d.parameters.length) = some 3 := by decide +kernel
def ws_SM_requireTree : List Cond := Cond.code y_SM_requireTree c_SM_requireTree 2 none :: kG
theorem h_SM_requireTree : y_SM_requireTree.cls = R_SM ∧ y_SM_requireTree.cls ≠ "java/lang/invoke/MethodHandle" ∧ y_SM_requireTree.cls ≠ "java/lang/invoke/VarHandle" ∧ (parseMethodDescriptor y_SM_requireTree.desc).map (fun d => d.parameters.length) = some 1 := by decide +kernel
def ws_SM_requirePlain : List Cond := Cond.code y_SM_requirePlain c_SM_requirePlain 2 none :: kG
theorem h_SM_requirePlain : y_SM_requirePlain.cls = R_SM ∧ y_SM_requirePlain.cls ≠ "java/lang/invoke/MethodHandle" ∧ y_SM_requirePlain.cls ≠ "java/lang/invoke/VarHandle" ∧ (parseMethodDescriptor y_SM_requirePlain.desc).map (fun d => d.parameters.length) = some 1 := by decide +kernel
def ws_SM_requireMatch : List Cond := Cond.code y_SM_requireMatch c_SM_requireMatch 2 none :: kG
theorem h_SM_requireMatch : y_SM_requireMatch.cls = R_SM ∧ y_SM_requireMatch.cls ≠ "java/lang/invoke/MethodHandle" ∧ y_SM_requireMatch.cls ≠ "java/lang/invoke/VarHandle" ∧ (parseMethodDescriptor y_SM_requireMatch.desc).map (fun d => d.parameters.length) = some 1 := by decide +kernel
def ws_SM_requireBelow : List Cond := Cond.code y_SM_requireBelow c_SM_requireBelow 2 none :: kG
theorem h_SM_requireBelow : y_SM_requireBelow.cls = R_SM ∧ y_SM_requireBelow.cls ≠ "java/lang/invoke/MethodHandle" ∧ y_SM_requireBelow.cls ≠ "java/lang/invoke/VarHandle" ∧ (parseMethodDescriptor y_SM_requireBelow.desc).map (fun d => d.parameters.length) = some 2 := by decide +kernel
def ws_Md_init : List Cond := Cond.code y_Md_init c_Md_init 1 none :: kG
theorem h_Md_init : y_Md_init.cls = R_Md ∧ y_Md_init.cls ≠ "java/lang/invoke/MethodHandle" ∧ y_Md_init.cls ≠ "java/lang/invoke/VarHandle" ∧ (parseMethodDescriptor y_Md_init.desc).map (fun d => d.parameters.length) = some 0 := by decide +kernel
def ws_Md_compare : List Cond := Cond.code y_Md_compare c_Md_compare 7 (some .int) :: kG
theorem h_Md_compare : y_Md_compare.cls = R_Md ∧ y_Md_compare.cls ≠ "java/lang/invoke/MethodHandle" ∧ y_Md_compare.cls ≠ "java/lang/invoke/VarHandle" ∧ (parseMethodDescriptor y_Md_compare.desc).map (fun d => d.parameters.length) = some 2 := by decide +kernel
def ws_Md_anyOrder : List Cond := Cond.code y_Md_anyOrder c_Md_anyOrder 1 (some .boolean) :: kG
theorem h_Md_anyOrder : y_Md_anyOrder.cls = R_Md ∧ y_Md_anyOrder.cls ≠ "java/lang/invoke/MethodHandle" ∧ y_Md_anyOrder.cls ≠ "java/lang/invoke/VarHandle" ∧ (parseMethodDescriptor y_Md_anyOrder.desc).map (fun d => d.parameters.length) = some 1 := by decide +kernel
def ws_Md_severals : List Cond := Cond.code y_Md_severals c_Md_severals 2 (some .boolean) :: kG
theorem h_Md_severals : y_Md_severals.cls = R_Md ∧ y_Md_severals.cls ≠ "java/lang/invoke/MethodHandle" ∧ y_Md_severals.cls ≠ "java/lang/invoke/VarHandle" ∧ (parseMethodDescriptor y_Md_severals.desc).map (fun d => d.parameters.length) = some 1 := by decide +kernel
def ws_Md_bits : List Cond := Cond.code y_Md_bits c_Md_bits 3 (some .int) :: kG
theorem h_Md_bits : y_Md_bits.cls = R_Md ∧ y_Md_bits.cls ≠ "java/lang/invoke/MethodHandle" ∧ y_Md_bits.cls ≠ "java/lang/invoke/VarHandle" ∧ (parseMethodDescriptor y_Md_bits.desc).map (fun d => d.parameters.length) = some 1 := by decide +kernel
def ws_Md_testHolds : List Cond := Cond.code y_Md_testHolds c_Md_testHolds 6 (some .boolean) :: kG
theorem h_Md_testHolds : y_Md_testHolds.cls = R_Md ∧ y_Md_testHolds.cls ≠ "java/lang/invoke/MethodHandle" ∧ y_Md_testHolds.cls ≠ "java/lang/invoke/VarHandle" ∧ (parseMethodDescriptor y_Md_testHolds.desc).map (fun d => d.parameters.length) = some 3 := by decide +kernel
def ws_Md_binds : List Cond := Cond.code y_Md_binds c_Md_binds 5 (some .boolean) :: kG
theorem h_Md_binds : y_Md_binds.cls = R_Md ∧ y_Md_binds.cls ≠ "java/lang/invoke/MethodHandle" ∧ y_Md_binds.cls ≠ "java/lang/invoke/VarHandle" ∧ (parseMethodDescriptor y_Md_binds.desc).map (fun d => d.parameters.length) = some 2 := by decide +kernel
def ws_Md_goal : List Cond := Cond.code y_Md_goal c_Md_goal 6 (some .int) :: kG
theorem h_Md_goal : y_Md_goal.cls = R_Md ∧ y_Md_goal.cls ≠ "java/lang/invoke/MethodHandle" ∧ y_Md_goal.cls ≠ "java/lang/invoke/VarHandle" ∧ (parseMethodDescriptor y_Md_goal.desc).map (fun d => d.parameters.length) = some 5 := by decide +kernel
def ws_Md_puts : List Cond := Cond.code y_Md_puts c_Md_puts 5 (some .int) :: kG
theorem h_Md_puts : y_Md_puts.cls = R_Md ∧ y_Md_puts.cls ≠ "java/lang/invoke/MethodHandle" ∧ y_Md_puts.cls ≠ "java/lang/invoke/VarHandle" ∧ (parseMethodDescriptor y_Md_puts.desc).map (fun d => d.parameters.length) = some 3 := by decide +kernel
def ws_Md_bit : List Cond := Cond.code y_Md_bit c_Md_bit 1 (some .int) :: kG
theorem h_Md_bit : y_Md_bit.cls = R_Md ∧ y_Md_bit.cls ≠ "java/lang/invoke/MethodHandle" ∧ y_Md_bit.cls ≠ "java/lang/invoke/VarHandle" ∧ (parseMethodDescriptor y_Md_bit.desc).map (fun d => d.parameters.length) = some 1 := by decide +kernel
def ws_Md_leftOf : List Cond := Cond.code y_Md_leftOf c_Md_leftOf 4 (some .int) :: kG
theorem h_Md_leftOf : y_Md_leftOf.cls = R_Md ∧ y_Md_leftOf.cls ≠ "java/lang/invoke/MethodHandle" ∧ y_Md_leftOf.cls ≠ "java/lang/invoke/VarHandle" ∧ (parseMethodDescriptor y_Md_leftOf.desc).map (fun d => d.parameters.length) = some 1 := by decide +kernel
def ws_Md_takenNext : List Cond := Cond.code y_Md_takenNext c_Md_takenNext 8 (some .int) :: kG
theorem h_Md_takenNext : y_Md_takenNext.cls = R_Md ∧ y_Md_takenNext.cls ≠ "java/lang/invoke/MethodHandle" ∧ y_Md_takenNext.cls ≠ "java/lang/invoke/VarHandle" ∧ (parseMethodDescriptor y_Md_takenNext.desc).map (fun d => d.parameters.length) = some 2 := by decide +kernel
def ws_Md_firstOf : List Cond := Cond.code y_Md_firstOf c_Md_firstOf 5 (some .int) :: kG
theorem h_Md_firstOf : y_Md_firstOf.cls = R_Md ∧ y_Md_firstOf.cls ≠ "java/lang/invoke/MethodHandle" ∧ y_Md_firstOf.cls ≠ "java/lang/invoke/VarHandle" ∧ (parseMethodDescriptor y_Md_firstOf.desc).map (fun d => d.parameters.length) = some 2 := by decide +kernel
def ws_Md_keepMatch : List Cond := Cond.code y_Md_keepMatch c_Md_keepMatch 3 none :: kG
theorem h_Md_keepMatch : y_Md_keepMatch.cls = R_Md ∧ y_Md_keepMatch.cls ≠ "java/lang/invoke/MethodHandle" ∧ y_Md_keepMatch.cls ≠ "java/lang/invoke/VarHandle" ∧ (parseMethodDescriptor y_Md_keepMatch.desc).map (fun d => d.parameters.length) = some 0 := by decide +kernel
def ws_Md_tries : List Cond := Cond.code y_Md_tries c_Md_tries 1 (some .boolean) :: kG
theorem h_Md_tries : y_Md_tries.cls = R_Md ∧ y_Md_tries.cls ≠ "java/lang/invoke/MethodHandle" ∧ y_Md_tries.cls ≠ "java/lang/invoke/VarHandle" ∧ (parseMethodDescriptor y_Md_tries.desc).map (fun d => d.parameters.length) = some 0 := by decide +kernel
def ws_Md_backTo : List Cond := Cond.code y_Md_backTo c_Md_backTo 3 none :: kG
theorem h_Md_backTo : y_Md_backTo.cls = R_Md ∧ y_Md_backTo.cls ≠ "java/lang/invoke/MethodHandle" ∧ y_Md_backTo.cls ≠ "java/lang/invoke/VarHandle" ∧ (parseMethodDescriptor y_Md_backTo.desc).map (fun d => d.parameters.length) = some 2 := by decide +kernel
def ws_Md_otherwise : List Cond := Cond.code y_Md_otherwise c_Md_otherwise 7 (some .int) :: kG
theorem h_Md_otherwise : y_Md_otherwise.cls = R_Md ∧ y_Md_otherwise.cls ≠ "java/lang/invoke/MethodHandle" ∧ y_Md_otherwise.cls ≠ "java/lang/invoke/VarHandle" ∧ (parseMethodDescriptor y_Md_otherwise.desc).map (fun d => d.parameters.length) = some 0 := by decide +kernel
def ws_Md_search : List Cond := Cond.code y_Md_search c_Md_search 5 none :: kG
theorem h_Md_search : y_Md_search.cls = R_Md ∧ y_Md_search.cls ≠ "java/lang/invoke/MethodHandle" ∧ y_Md_search.cls ≠ "java/lang/invoke/VarHandle" ∧ (parseMethodDescriptor y_Md_search.desc).map (fun d => d.parameters.length) = some 3 := by decide +kernel
def ws_Md_may : List Cond := Cond.code y_Md_may c_Md_may 8 (some .boolean) :: kG
theorem h_Md_may : y_Md_may.cls = R_Md ∧ y_Md_may.cls ≠ "java/lang/invoke/MethodHandle" ∧ y_Md_may.cls ≠ "java/lang/invoke/VarHandle" ∧ (parseMethodDescriptor y_Md_may.desc).map (fun d => d.parameters.length) = some 2 := by decide +kernel
def ws_Md_thrown : List Cond := Cond.code y_Md_thrown c_Md_thrown 1 (some .int) :: kG
theorem h_Md_thrown : y_Md_thrown.cls = R_Md ∧ y_Md_thrown.cls ≠ "java/lang/invoke/MethodHandle" ∧ y_Md_thrown.cls ≠ "java/lang/invoke/VarHandle" ∧ (parseMethodDescriptor y_Md_thrown.desc).map (fun d => d.parameters.length) = some 0 := by decide +kernel
def ws_Md_noTree : List Cond := Cond.code y_Md_noTree c_Md_noTree 2 (some .boolean) :: kG
theorem h_Md_noTree : y_Md_noTree.cls = R_Md ∧ y_Md_noTree.cls ≠ "java/lang/invoke/MethodHandle" ∧ y_Md_noTree.cls ≠ "java/lang/invoke/VarHandle" ∧ (parseMethodDescriptor y_Md_noTree.desc).map (fun d => d.parameters.length) = some 1 := by decide +kernel
def ws_Md_tree : List Cond := Cond.code y_Md_tree c_Md_tree 4 (some .int) :: kG
theorem h_Md_tree : y_Md_tree.cls = R_Md ∧ y_Md_tree.cls ≠ "java/lang/invoke/MethodHandle" ∧ y_Md_tree.cls ≠ "java/lang/invoke/VarHandle" ∧ (parseMethodDescriptor y_Md_tree.desc).map (fun d => d.parameters.length) = some 3 := by decide +kernel
def ws_Md_leaf : List Cond := Cond.code y_Md_leaf c_Md_leaf 2 (some .int) :: kG
theorem h_Md_leaf : y_Md_leaf.cls = R_Md ∧ y_Md_leaf.cls ≠ "java/lang/invoke/MethodHandle" ∧ y_Md_leaf.cls ≠ "java/lang/invoke/VarHandle" ∧ (parseMethodDescriptor y_Md_leaf.desc).map (fun d => d.parameters.length) = some 1 := by decide +kernel
def ws_Md_node : List Cond := Cond.code y_Md_node c_Md_node 2 (some .int) :: kG
theorem h_Md_node : y_Md_node.cls = R_Md ∧ y_Md_node.cls ≠ "java/lang/invoke/MethodHandle" ∧ y_Md_node.cls ≠ "java/lang/invoke/VarHandle" ∧ (parseMethodDescriptor y_Md_node.desc).map (fun d => d.parameters.length) = some 1 := by decide +kernel
def ws_Md_hole : List Cond := Cond.code y_Md_hole c_Md_hole 4 (some .int) :: kG
theorem h_Md_hole : y_Md_hole.cls = R_Md ∧ y_Md_hole.cls ≠ "java/lang/invoke/MethodHandle" ∧ y_Md_hole.cls ≠ "java/lang/invoke/VarHandle" ∧ (parseMethodDescriptor y_Md_hole.desc).map (fun d => d.parameters.length) = some 2 := by decide +kernel
def ws_Md_more : List Cond := Cond.code y_Md_more c_Md_more 5 (some .boolean) :: kG
theorem h_Md_more : y_Md_more.cls = R_Md ∧ y_Md_more.cls ≠ "java/lang/invoke/MethodHandle" ∧ y_Md_more.cls ≠ "java/lang/invoke/VarHandle" ∧ (parseMethodDescriptor y_Md_more.desc).map (fun d => d.parameters.length) = some 2 := by decide +kernel
def ws_Md_test : List Cond := Cond.code y_Md_test c_Md_test 4 (some .boolean) :: kG
theorem h_Md_test : y_Md_test.cls = R_Md ∧ y_Md_test.cls ≠ "java/lang/invoke/MethodHandle" ∧ y_Md_test.cls ≠ "java/lang/invoke/VarHandle" ∧ (parseMethodDescriptor y_Md_test.desc).map (fun d => d.parameters.length) = some 3 := by decide +kernel
def ws_Md_match : List Cond := Cond.code y_Md_match c_Md_match 4 (some .int) :: kG
theorem h_Md_match : y_Md_match.cls = R_Md ∧ y_Md_match.cls ≠ "java/lang/invoke/MethodHandle" ∧ y_Md_match.cls ≠ "java/lang/invoke/VarHandle" ∧ (parseMethodDescriptor y_Md_match.desc).map (fun d => d.parameters.length) = some 3 := by decide +kernel
def ws_Md_tried : List Cond := Cond.code y_Md_tried c_Md_tried 1 (some .int) :: kG
theorem h_Md_tried : y_Md_tried.cls = R_Md ∧ y_Md_tried.cls ≠ "java/lang/invoke/MethodHandle" ∧ y_Md_tried.cls ≠ "java/lang/invoke/VarHandle" ∧ (parseMethodDescriptor y_Md_tried.desc).map (fun d => d.parameters.length) = some 0 := by decide +kernel
def ws_Md_bound : List Cond := Cond.code y_Md_bound c_Md_bound 4 (some .int) :: kG
theorem h_Md_bound : y_Md_bound.cls = R_Md ∧ y_Md_bound.cls ≠ "java/lang/invoke/MethodHandle" ∧ y_Md_bound.cls ≠ "java/lang/invoke/VarHandle" ∧ (parseMethodDescriptor y_Md_bound.desc).map (fun d => d.parameters.length) = some 3 := by decide +kernel
def ws_Md_many : List Cond := Cond.code y_Md_many c_Md_many 3 (some .int) :: kG
theorem h_Md_many : y_Md_many.cls = R_Md ∧ y_Md_many.cls ≠ "java/lang/invoke/MethodHandle" ∧ y_Md_many.cls ≠ "java/lang/invoke/VarHandle" ∧ (parseMethodDescriptor y_Md_many.desc).map (fun d => d.parameters.length) = some 2 := by decide +kernel
def ws_Md_rule : List Cond := Cond.code y_Md_rule c_Md_rule 2 (some .int) :: kG
theorem h_Md_rule : y_Md_rule.cls = R_Md ∧ y_Md_rule.cls ≠ "java/lang/invoke/MethodHandle" ∧ y_Md_rule.cls ≠ "java/lang/invoke/VarHandle" ∧ (parseMethodDescriptor y_Md_rule.desc).map (fun d => d.parameters.length) = some 1 := by decide +kernel
def ws_Md_net : List Cond := Cond.code y_Md_net c_Md_net 3 (some .int) :: kG
theorem h_Md_net : y_Md_net.cls = R_Md ∧ y_Md_net.cls ≠ "java/lang/invoke/MethodHandle" ∧ y_Md_net.cls ≠ "java/lang/invoke/VarHandle" ∧ (parseMethodDescriptor y_Md_net.desc).map (fun d => d.parameters.length) = some 1 := by decide +kernel
def ws_Md_rules : List Cond := Cond.code y_Md_rules c_Md_rules 2 (some .int) :: kG
theorem h_Md_rules : y_Md_rules.cls = R_Md ∧ y_Md_rules.cls ≠ "java/lang/invoke/MethodHandle" ∧ y_Md_rules.cls ≠ "java/lang/invoke/VarHandle" ∧ (parseMethodDescriptor y_Md_rules.desc).map (fun d => d.parameters.length) = some 1 := by decide +kernel
def ws_Md_first : List Cond := Cond.code y_Md_first c_Md_first 4 (some .int) :: kG
theorem h_Md_first : y_Md_first.cls = R_Md ∧ y_Md_first.cls ≠ "java/lang/invoke/MethodHandle" ∧ y_Md_first.cls ≠ "java/lang/invoke/VarHandle" ∧ (parseMethodDescriptor y_Md_first.desc).map (fun d => d.parameters.length) = some 1 := by decide +kernel
def ws_Md_order : List Cond := Cond.code y_Md_order c_Md_order 3 (some .int) :: kG
theorem h_Md_order : y_Md_order.cls = R_Md ∧ y_Md_order.cls ≠ "java/lang/invoke/MethodHandle" ∧ y_Md_order.cls ≠ "java/lang/invoke/VarHandle" ∧ (parseMethodDescriptor y_Md_order.desc).map (fun d => d.parameters.length) = some 2 := by decide +kernel
def ws_Md_parts : List Cond := Cond.code y_Md_parts c_Md_parts 2 (some .int) :: kG
theorem h_Md_parts : y_Md_parts.cls = R_Md ∧ y_Md_parts.cls ≠ "java/lang/invoke/MethodHandle" ∧ y_Md_parts.cls ≠ "java/lang/invoke/VarHandle" ∧ (parseMethodDescriptor y_Md_parts.desc).map (fun d => d.parameters.length) = some 1 := by decide +kernel
def ws_Md_part : List Cond := Cond.code y_Md_part c_Md_part 3 (some .int) :: kG
theorem h_Md_part : y_Md_part.cls = R_Md ∧ y_Md_part.cls ≠ "java/lang/invoke/MethodHandle" ∧ y_Md_part.cls ≠ "java/lang/invoke/VarHandle" ∧ (parseMethodDescriptor y_Md_part.desc).map (fun d => d.parameters.length) = some 2 := by decide +kernel
def ws_Md_count : List Cond := Cond.code y_Md_count c_Md_count 2 (some .int) :: kG
theorem h_Md_count : y_Md_count.cls = R_Md ∧ y_Md_count.cls ≠ "java/lang/invoke/MethodHandle" ∧ y_Md_count.cls ≠ "java/lang/invoke/VarHandle" ∧ (parseMethodDescriptor y_Md_count.desc).map (fun d => d.parameters.length) = some 1 := by decide +kernel
def ws_F_init : List Cond := Cond.code y_F_init c_F_init 1 none :: kG
theorem h_F_init : y_F_init.cls = R_F ∧ y_F_init.cls ≠ "java/lang/invoke/MethodHandle" ∧ y_F_init.cls ≠ "java/lang/invoke/VarHandle" ∧ (parseMethodDescriptor y_F_init.desc).map (fun d => d.parameters.length) = some 0 := by decide +kernel
def ws_F_treeCount : List Cond := Cond.code y_F_treeCount c_F_treeCount 1 (some .int) :: kG
theorem h_F_treeCount : y_F_treeCount.cls = R_F ∧ y_F_treeCount.cls ≠ "java/lang/invoke/MethodHandle" ∧ y_F_treeCount.cls ≠ "java/lang/invoke/VarHandle" ∧ (parseMethodDescriptor y_F_treeCount.desc).map (fun d => d.parameters.length) = some 0 := by decide +kernel
def ws_F_isFull : List Cond := Cond.code y_F_isFull c_F_isFull 1 (some .boolean) :: kG
theorem h_F_isFull : y_F_isFull.cls = R_F ∧ y_F_isFull.cls ≠ "java/lang/invoke/MethodHandle" ∧ y_F_isFull.cls ≠ "java/lang/invoke/VarHandle" ∧ (parseMethodDescriptor y_F_isFull.desc).map (fun d => d.parameters.length) = some 0 := by decide +kernel
def ws_F_hasTree : List Cond := Cond.code y_F_hasTree c_F_hasTree 2 (some .boolean) :: kG
theorem h_F_hasTree : y_F_hasTree.cls = R_F ∧ y_F_hasTree.cls ≠ "java/lang/invoke/MethodHandle" ∧ y_F_hasTree.cls ≠ "java/lang/invoke/VarHandle" ∧ (parseMethodDescriptor y_F_hasTree.desc).map (fun d => d.parameters.length) = some 1 := by decide +kernel
def ws_F_add : List Cond := Cond.code y_F_add c_F_add 5 (some .int) :: kG
theorem h_F_add : y_F_add.cls = R_F ∧ y_F_add.cls ≠ "java/lang/invoke/MethodHandle" ∧ y_F_add.cls ≠ "java/lang/invoke/VarHandle" ∧ (parseMethodDescriptor y_F_add.desc).map (fun d => d.parameters.length) = some 3 := by decide +kernel
def ws_F_close : List Cond := Cond.code y_F_close c_F_close 2 none :: kG
theorem h_F_close : y_F_close.cls = R_F ∧ y_F_close.cls ≠ "java/lang/invoke/MethodHandle" ∧ y_F_close.cls ≠ "java/lang/invoke/VarHandle" ∧ (parseMethodDescriptor y_F_close.desc).map (fun d => d.parameters.length) = some 1 := by decide +kernel
def ws_F_isPlain : List Cond := Cond.code y_F_isPlain c_F_isPlain 2 (some .boolean) :: kG
theorem h_F_isPlain : y_F_isPlain.cls = R_F ∧ y_F_isPlain.cls ≠ "java/lang/invoke/MethodHandle" ∧ y_F_isPlain.cls ≠ "java/lang/invoke/VarHandle" ∧ (parseMethodDescriptor y_F_isPlain.desc).map (fun d => d.parameters.length) = some 1 := by decide +kernel
def ws_F_isLeaf : List Cond := Cond.code y_F_isLeaf c_F_isLeaf 2 (some .boolean) :: kG
theorem h_F_isLeaf : y_F_isLeaf.cls = R_F ∧ y_F_isLeaf.cls ≠ "java/lang/invoke/MethodHandle" ∧ y_F_isLeaf.cls ≠ "java/lang/invoke/VarHandle" ∧ (parseMethodDescriptor y_F_isLeaf.desc).map (fun d => d.parameters.length) = some 1 := by decide +kernel
def ws_F_isNode : List Cond := Cond.code y_F_isNode c_F_isNode 2 (some .boolean) :: kG
theorem h_F_isNode : y_F_isNode.cls = R_F ∧ y_F_isNode.cls ≠ "java/lang/invoke/MethodHandle" ∧ y_F_isNode.cls ≠ "java/lang/invoke/VarHandle" ∧ (parseMethodDescriptor y_F_isNode.desc).map (fun d => d.parameters.length) = some 1 := by decide +kernel
def ws_F_isHole : List Cond := Cond.code y_F_isHole c_F_isHole 2 (some .boolean) :: kG
theorem h_F_isHole : y_F_isHole.cls = R_F ∧ y_F_isHole.cls ≠ "java/lang/invoke/MethodHandle" ∧ y_F_isHole.cls ≠ "java/lang/invoke/VarHandle" ∧ (parseMethodDescriptor y_F_isHole.desc).map (fun d => d.parameters.length) = some 1 := by decide +kernel
def ws_F_isHoleOfKind : List Cond := Cond.code y_F_isHoleOfKind c_F_isHoleOfKind 3 (some .boolean) :: kG
theorem h_F_isHoleOfKind : y_F_isHoleOfKind.cls = R_F ∧ y_F_isHoleOfKind.cls ≠ "java/lang/invoke/MethodHandle" ∧ y_F_isHoleOfKind.cls ≠ "java/lang/invoke/VarHandle" ∧ (parseMethodDescriptor y_F_isHoleOfKind.desc).map (fun d => d.parameters.length) = some 2 := by decide +kernel
def ws_F_takesSeveral : List Cond := Cond.code y_F_takesSeveral c_F_takesSeveral 2 (some .boolean) :: kG
theorem h_F_takesSeveral : y_F_takesSeveral.cls = R_F ∧ y_F_takesSeveral.cls ≠ "java/lang/invoke/MethodHandle" ∧ y_F_takesSeveral.cls ≠ "java/lang/invoke/VarHandle" ∧ (parseMethodDescriptor y_F_takesSeveral.desc).map (fun d => d.parameters.length) = some 1 := by decide +kernel
def ws_F_isAnyOrder : List Cond := Cond.code y_F_isAnyOrder c_F_isAnyOrder 2 (some .boolean) :: kG
theorem h_F_isAnyOrder : y_F_isAnyOrder.cls = R_F ∧ y_F_isAnyOrder.cls ≠ "java/lang/invoke/MethodHandle" ∧ y_F_isAnyOrder.cls ≠ "java/lang/invoke/VarHandle" ∧ (parseMethodDescriptor y_F_isAnyOrder.desc).map (fun d => d.parameters.length) = some 1 := by decide +kernel
def ws_F_nameOf : List Cond := Cond.code y_F_nameOf c_F_nameOf 2 (some .int) :: kG
theorem h_F_nameOf : y_F_nameOf.cls = R_F ∧ y_F_nameOf.cls ≠ "java/lang/invoke/MethodHandle" ∧ y_F_nameOf.cls ≠ "java/lang/invoke/VarHandle" ∧ (parseMethodDescriptor y_F_nameOf.desc).map (fun d => d.parameters.length) = some 1 := by decide +kernel
def ws_F_partCount : List Cond := Cond.code y_F_partCount c_F_partCount 2 (some .int) :: kG
theorem h_F_partCount : y_F_partCount.cls = R_F ∧ y_F_partCount.cls ≠ "java/lang/invoke/MethodHandle" ∧ y_F_partCount.cls ≠ "java/lang/invoke/VarHandle" ∧ (parseMethodDescriptor y_F_partCount.desc).map (fun d => d.parameters.length) = some 1 := by decide +kernel
def ws_F_partAt : List Cond := Cond.code y_F_partAt c_F_partAt 3 (some .int) :: kG
theorem h_F_partAt : y_F_partAt.cls = R_F ∧ y_F_partAt.cls ≠ "java/lang/invoke/MethodHandle" ∧ y_F_partAt.cls ≠ "java/lang/invoke/VarHandle" ∧ (parseMethodDescriptor y_F_partAt.desc).map (fun d => d.parameters.length) = some 2 := by decide +kernel
def ws_F_looksLike : List Cond := Cond.code y_F_looksLike c_F_looksLike 3 (some .boolean) :: kG
theorem h_F_looksLike : y_F_looksLike.cls = R_F ∧ y_F_looksLike.cls ≠ "java/lang/invoke/MethodHandle" ∧ y_F_looksLike.cls ≠ "java/lang/invoke/VarHandle" ∧ (parseMethodDescriptor y_F_looksLike.desc).map (fun d => d.parameters.length) = some 2 := by decide +kernel
def ws_F_mayTake : List Cond := Cond.code y_F_mayTake c_F_mayTake 3 (some .boolean) :: kG
theorem h_F_mayTake : y_F_mayTake.cls = R_F ∧ y_F_mayTake.cls ≠ "java/lang/invoke/MethodHandle" ∧ y_F_mayTake.cls ≠ "java/lang/invoke/VarHandle" ∧ (parseMethodDescriptor y_F_mayTake.desc).map (fun d => d.parameters.length) = some 2 := by decide +kernel
def ws_F_addPart : List Cond := Cond.code y_F_addPart c_F_addPart 7 (some .boolean) :: kG
theorem h_F_addPart : y_F_addPart.cls = R_F ∧ y_F_addPart.cls ≠ "java/lang/invoke/MethodHandle" ∧ y_F_addPart.cls ≠ "java/lang/invoke/VarHandle" ∧ (parseMethodDescriptor y_F_addPart.desc).map (fun d => d.parameters.length) = some 2 := by decide +kernel
def ws_F_placeFor : List Cond := Cond.code y_F_placeFor c_F_placeFor 4 (some .int) :: kG
theorem h_F_placeFor : y_F_placeFor.cls = R_F ∧ y_F_placeFor.cls ≠ "java/lang/invoke/MethodHandle" ∧ y_F_placeFor.cls ≠ "java/lang/invoke/VarHandle" ∧ (parseMethodDescriptor y_F_placeFor.desc).map (fun d => d.parameters.length) = some 2 := by decide +kernel
def ws_F_compare : List Cond := Cond.code y_F_compare c_F_compare 3 (some .int) :: kG
theorem h_F_compare : y_F_compare.cls = R_F ∧ y_F_compare.cls ≠ "java/lang/invoke/MethodHandle" ∧ y_F_compare.cls ≠ "java/lang/invoke/VarHandle" ∧ (parseMethodDescriptor y_F_compare.desc).map (fun d => d.parameters.length) = some 2 := by decide +kernel
def ws_F_compareFrom : List Cond := Cond.code y_F_compareFrom c_F_compareFrom 9 (some .int) :: kG
theorem h_F_compareFrom : y_F_compareFrom.cls = R_F ∧ y_F_compareFrom.cls ≠ "java/lang/invoke/MethodHandle" ∧ y_F_compareFrom.cls ≠ "java/lang/invoke/VarHandle" ∧ (parseMethodDescriptor y_F_compareFrom.desc).map (fun d => d.parameters.length) = some 4 := by decide +kernel
def ws_F_addTest : List Cond := Cond.code y_F_addTest c_F_addTest 5 (some .boolean) :: kG
theorem h_F_addTest : y_F_addTest.cls = R_F ∧ y_F_addTest.cls ≠ "java/lang/invoke/MethodHandle" ∧ y_F_addTest.cls ≠ "java/lang/invoke/VarHandle" ∧ (parseMethodDescriptor y_F_addTest.desc).map (fun d => d.parameters.length) = some 3 := by decide +kernel
def ws_F_passesTests : List Cond := Cond.code y_F_passesTests c_F_passesTests 6 (some .boolean) :: kG
theorem h_F_passesTests : y_F_passesTests.cls = R_F ∧ y_F_passesTests.cls ≠ "java/lang/invoke/MethodHandle" ∧ y_F_passesTests.cls ≠ "java/lang/invoke/VarHandle" ∧ (parseMethodDescriptor y_F_passesTests.desc).map (fun d => d.parameters.length) = some 3 := by decide +kernel
def ws_F_passes : List Cond := Cond.code y_F_passes c_F_passes 6 (some .boolean) :: kG
theorem h_F_passes : y_F_passes.cls = R_F ∧ y_F_passes.cls ≠ "java/lang/invoke/MethodHandle" ∧ y_F_passes.cls ≠ "java/lang/invoke/VarHandle" ∧ (parseMethodDescriptor y_F_passes.desc).map (fun d => d.parameters.length) = some 4 := by decide +kernel
def ws_F_mayMatch : List Cond := Cond.code y_F_mayMatch c_F_mayMatch 3 (some .boolean) :: kG
theorem h_F_mayMatch : y_F_mayMatch.cls = R_F ∧ y_F_mayMatch.cls ≠ "java/lang/invoke/MethodHandle" ∧ y_F_mayMatch.cls ≠ "java/lang/invoke/VarHandle" ∧ (parseMethodDescriptor y_F_mayMatch.desc).map (fun d => d.parameters.length) = some 2 := by decide +kernel
def ws_F_hasFittingCount : List Cond := Cond.code y_F_hasFittingCount c_F_hasFittingCount 7 (some .boolean) :: kG
theorem h_F_hasFittingCount : y_F_hasFittingCount.cls = R_F ∧ y_F_hasFittingCount.cls ≠ "java/lang/invoke/MethodHandle" ∧ y_F_hasFittingCount.cls ≠ "java/lang/invoke/VarHandle" ∧ (parseMethodDescriptor y_F_hasFittingCount.desc).map (fun d => d.parameters.length) = some 2 := by decide +kernel
def ws_F_hasFittingStart : List Cond := Cond.code y_F_hasFittingStart c_F_hasFittingStart 3 (some .boolean) :: kG
theorem h_F_hasFittingStart : y_F_hasFittingStart.cls = R_F ∧ y_F_hasFittingStart.cls ≠ "java/lang/invoke/MethodHandle" ∧ y_F_hasFittingStart.cls ≠ "java/lang/invoke/VarHandle" ∧ (parseMethodDescriptor y_F_hasFittingStart.desc).map (fun d => d.parameters.length) = some 2 := by decide +kernel
def ws_Mt_init : List Cond := Cond.code y_Mt_init c_Mt_init 1 none :: kG
theorem h_Mt_init : y_Mt_init.cls = R_Mt ∧ y_Mt_init.cls ≠ "java/lang/invoke/MethodHandle" ∧ y_Mt_init.cls ≠ "java/lang/invoke/VarHandle" ∧ (parseMethodDescriptor y_Mt_init.desc).map (fun d => d.parameters.length) = some 0 := by decide +kernel
def ws_Mt_clear : List Cond := Cond.code y_Mt_clear c_Mt_clear 1 none :: kG
theorem h_Mt_clear : y_Mt_clear.cls = R_Mt ∧ y_Mt_clear.cls ≠ "java/lang/invoke/MethodHandle" ∧ y_Mt_clear.cls ≠ "java/lang/invoke/VarHandle" ∧ (parseMethodDescriptor y_Mt_clear.desc).map (fun d => d.parameters.length) = some 0 := by decide +kernel
def ws_Mt_keep : List Cond := Cond.code y_Mt_keep c_Mt_keep 2 none :: kG
theorem h_Mt_keep : y_Mt_keep.cls = R_Mt ∧ y_Mt_keep.cls ≠ "java/lang/invoke/MethodHandle" ∧ y_Mt_keep.cls ≠ "java/lang/invoke/VarHandle" ∧ (parseMethodDescriptor y_Mt_keep.desc).map (fun d => d.parameters.length) = some 1 := by decide +kernel
def ws_Mt_keptCount : List Cond := Cond.code y_Mt_keptCount c_Mt_keptCount 1 (some .int) :: kG
theorem h_Mt_keptCount : y_Mt_keptCount.cls = R_Mt ∧ y_Mt_keptCount.cls ≠ "java/lang/invoke/MethodHandle" ∧ y_Mt_keptCount.cls ≠ "java/lang/invoke/VarHandle" ∧ (parseMethodDescriptor y_Mt_keptCount.desc).map (fun d => d.parameters.length) = some 0 := by decide +kernel
def ws_Mt_lengthOf : List Cond := Cond.code y_Mt_lengthOf c_Mt_lengthOf 3 (some .int) :: kG
theorem h_Mt_lengthOf : y_Mt_lengthOf.cls = R_Mt ∧ y_Mt_lengthOf.cls ≠ "java/lang/invoke/MethodHandle" ∧ y_Mt_lengthOf.cls ≠ "java/lang/invoke/VarHandle" ∧ (parseMethodDescriptor y_Mt_lengthOf.desc).map (fun d => d.parameters.length) = some 2 := by decide +kernel
def ws_Mt_treeOf : List Cond := Cond.code y_Mt_treeOf c_Mt_treeOf 4 (some .int) :: kG
theorem h_Mt_treeOf : y_Mt_treeOf.cls = R_Mt ∧ y_Mt_treeOf.cls ≠ "java/lang/invoke/MethodHandle" ∧ y_Mt_treeOf.cls ≠ "java/lang/invoke/VarHandle" ∧ (parseMethodDescriptor y_Mt_treeOf.desc).map (fun d => d.parameters.length) = some 3 := by decide +kernel
def ws_Nm_init : List Cond := Cond.code y_Nm_init c_Nm_init 1 none :: kG
theorem h_Nm_init : y_Nm_init.cls = R_Nm ∧ y_Nm_init.cls ≠ "java/lang/invoke/MethodHandle" ∧ y_Nm_init.cls ≠ "java/lang/invoke/VarHandle" ∧ (parseMethodDescriptor y_Nm_init.desc).map (fun d => d.parameters.length) = some 0 := by decide +kernel
def ws_Nm_clear : List Cond := Cond.code y_Nm_clear c_Nm_clear 1 none :: kG
theorem h_Nm_clear : y_Nm_clear.cls = R_Nm ∧ y_Nm_clear.cls ≠ "java/lang/invoke/MethodHandle" ∧ y_Nm_clear.cls ≠ "java/lang/invoke/VarHandle" ∧ (parseMethodDescriptor y_Nm_clear.desc).map (fun d => d.parameters.length) = some 0 := by decide +kernel
def ws_Nm_hasNothing : List Cond := Cond.code y_Nm_hasNothing c_Nm_hasNothing 2 (some .boolean) :: kG
theorem h_Nm_hasNothing : y_Nm_hasNothing.cls = R_Nm ∧ y_Nm_hasNothing.cls ≠ "java/lang/invoke/MethodHandle" ∧ y_Nm_hasNothing.cls ≠ "java/lang/invoke/VarHandle" ∧ (parseMethodDescriptor y_Nm_hasNothing.desc).map (fun d => d.parameters.length) = some 1 := by decide +kernel
def ws_Nm_give : List Cond := Cond.code y_Nm_give c_Nm_give 5 none :: kG
theorem h_Nm_give : y_Nm_give.cls = R_Nm ∧ y_Nm_give.cls ≠ "java/lang/invoke/MethodHandle" ∧ y_Nm_give.cls ≠ "java/lang/invoke/VarHandle" ∧ (parseMethodDescriptor y_Nm_give.desc).map (fun d => d.parameters.length) = some 4 := by decide +kernel
def ws_Nm_takeBack : List Cond := Cond.code y_Nm_takeBack c_Nm_takeBack 3 none :: kG
theorem h_Nm_takeBack : y_Nm_takeBack.cls = R_Nm ∧ y_Nm_takeBack.cls ≠ "java/lang/invoke/MethodHandle" ∧ y_Nm_takeBack.cls ≠ "java/lang/invoke/VarHandle" ∧ (parseMethodDescriptor y_Nm_takeBack.desc).map (fun d => d.parameters.length) = some 2 := by decide +kernel
def ws_Nm_hasSame : List Cond := Cond.code y_Nm_hasSame c_Nm_hasSame 6 (some .boolean) :: kG
theorem h_Nm_hasSame : y_Nm_hasSame.cls = R_Nm ∧ y_Nm_hasSame.cls ≠ "java/lang/invoke/MethodHandle" ∧ y_Nm_hasSame.cls ≠ "java/lang/invoke/VarHandle" ∧ (parseMethodDescriptor y_Nm_hasSame.desc).map (fun d => d.parameters.length) = some 4 := by decide +kernel
def ws_Pc_all : List Cond := Cond.code y_Pc_all c_Pc_all 1 (some .int) :: kG
theorem h_Pc_all : y_Pc_all.cls = R_Pc ∧ y_Pc_all.cls ≠ "java/lang/invoke/MethodHandle" ∧ y_Pc_all.cls ≠ "java/lang/invoke/VarHandle" ∧ (parseMethodDescriptor y_Pc_all.desc).map (fun d => d.parameters.length) = some 1 := by decide +kernel
def ws_Pc_lowest : List Cond := Cond.code y_Pc_lowest c_Pc_lowest 6 (some .int) :: kG
theorem h_Pc_lowest : y_Pc_lowest.cls = R_Pc ∧ y_Pc_lowest.cls ≠ "java/lang/invoke/MethodHandle" ∧ y_Pc_lowest.cls ≠ "java/lang/invoke/VarHandle" ∧ (parseMethodDescriptor y_Pc_lowest.desc).map (fun d => d.parameters.length) = some 2 := by decide +kernel
def ws_Pc_behind : List Cond := Cond.code y_Pc_behind c_Pc_behind 2 (some .int) :: kG
theorem h_Pc_behind : y_Pc_behind.cls = R_Pc ∧ y_Pc_behind.cls ≠ "java/lang/invoke/MethodHandle" ∧ y_Pc_behind.cls ≠ "java/lang/invoke/VarHandle" ∧ (parseMethodDescriptor y_Pc_behind.desc).map (fun d => d.parameters.length) = some 2 := by decide +kernel
def ws_Pc_nextChoice : List Cond := Cond.code y_Pc_nextChoice c_Pc_nextChoice 6 (some .int) :: kG
theorem h_Pc_nextChoice : y_Pc_nextChoice.cls = R_Pc ∧ y_Pc_nextChoice.cls ≠ "java/lang/invoke/MethodHandle" ∧ y_Pc_nextChoice.cls ≠ "java/lang/invoke/VarHandle" ∧ (parseMethodDescriptor y_Pc_nextChoice.desc).map (fun d => d.parameters.length) = some 2 := by decide +kernel
def ws_Pl_init : List Cond := Cond.code y_Pl_init c_Pl_init 1 none :: kG
theorem h_Pl_init : y_Pl_init.cls = R_Pl ∧ y_Pl_init.cls ≠ "java/lang/invoke/MethodHandle" ∧ y_Pl_init.cls ≠ "java/lang/invoke/VarHandle" ∧ (parseMethodDescriptor y_Pl_init.desc).map (fun d => d.parameters.length) = some 0 := by decide +kernel
def ws_Pl_lay : List Cond := Cond.code y_Pl_lay c_Pl_lay 3 none :: kG
theorem h_Pl_lay : y_Pl_lay.cls = R_Pl ∧ y_Pl_lay.cls ≠ "java/lang/invoke/MethodHandle" ∧ y_Pl_lay.cls ≠ "java/lang/invoke/VarHandle" ∧ (parseMethodDescriptor y_Pl_lay.desc).map (fun d => d.parameters.length) = some 2 := by decide +kernel
def ws_Pl_layParts : List Cond := Cond.code y_Pl_layParts c_Pl_layParts 8 none :: kG
theorem h_Pl_layParts : y_Pl_layParts.cls = R_Pl ∧ y_Pl_layParts.cls ≠ "java/lang/invoke/MethodHandle" ∧ y_Pl_layParts.cls ≠ "java/lang/invoke/VarHandle" ∧ (parseMethodDescriptor y_Pl_layParts.desc).map (fun d => d.parameters.length) = some 4 := by decide +kernel
def ws_Pl_slotCount : List Cond := Cond.code y_Pl_slotCount c_Pl_slotCount 1 (some .int) :: kG
theorem h_Pl_slotCount : y_Pl_slotCount.cls = R_Pl ∧ y_Pl_slotCount.cls ≠ "java/lang/invoke/MethodHandle" ∧ y_Pl_slotCount.cls ≠ "java/lang/invoke/VarHandle" ∧ (parseMethodDescriptor y_Pl_slotCount.desc).map (fun d => d.parameters.length) = some 0 := by decide +kernel
def ws_Pl_treeAt : List Cond := Cond.code y_Pl_treeAt c_Pl_treeAt 2 (some .int) :: kG
theorem h_Pl_treeAt : y_Pl_treeAt.cls = R_Pl ∧ y_Pl_treeAt.cls ≠ "java/lang/invoke/MethodHandle" ∧ y_Pl_treeAt.cls ≠ "java/lang/invoke/VarHandle" ∧ (parseMethodDescriptor y_Pl_treeAt.desc).map (fun d => d.parameters.length) = some 1 := by decide +kernel
def ws_Pl_parentOf : List Cond := Cond.code y_Pl_parentOf c_Pl_parentOf 2 (some .int) :: kG
theorem h_Pl_parentOf : y_Pl_parentOf.cls = R_Pl ∧ y_Pl_parentOf.cls ≠ "java/lang/invoke/MethodHandle" ∧ y_Pl_parentOf.cls ≠ "java/lang/invoke/VarHandle" ∧ (parseMethodDescriptor y_Pl_parentOf.desc).map (fun d => d.parameters.length) = some 1 := by decide +kernel
def ws_Pl_isLastInRow : List Cond := Cond.code y_Pl_isLastInRow c_Pl_isLastInRow 2 (some .boolean) :: kG
theorem h_Pl_isLastInRow : y_Pl_isLastInRow.cls = R_Pl ∧ y_Pl_isLastInRow.cls ≠ "java/lang/invoke/MethodHandle" ∧ y_Pl_isLastInRow.cls ≠ "java/lang/invoke/VarHandle" ∧ (parseMethodDescriptor y_Pl_isLastInRow.desc).map (fun d => d.parameters.length) = some 1 := by decide +kernel
def ws_Se_init : List Cond := Cond.code y_Se_init c_Se_init 2 none :: kG
theorem h_Se_init : y_Se_init.cls = R_Se ∧ y_Se_init.cls ≠ "java/lang/invoke/MethodHandle" ∧ y_Se_init.cls ≠ "java/lang/invoke/VarHandle" ∧ (parseMethodDescriptor y_Se_init.desc).map (fun d => d.parameters.length) = some 1 := by decide +kernel
def ws_Se_matches : List Cond := Cond.code y_Se_matches c_Se_matches 1 (some (.object "SequenceMatch$Matches")) :: kG
theorem h_Se_matches : y_Se_matches.cls = R_Se ∧ y_Se_matches.cls ≠ "java/lang/invoke/MethodHandle" ∧ y_Se_matches.cls ≠ "java/lang/invoke/VarHandle" ∧ (parseMethodDescriptor y_Se_matches.desc).map (fun d => d.parameters.length) = some 0 := by decide +kernel
def ws_Se_triesMade : List Cond := Cond.code y_Se_triesMade c_Se_triesMade 1 (some .int) :: kG
theorem h_Se_triesMade : y_Se_triesMade.cls = R_Se ∧ y_Se_triesMade.cls ≠ "java/lang/invoke/MethodHandle" ∧ y_Se_triesMade.cls ≠ "java/lang/invoke/VarHandle" ∧ (parseMethodDescriptor y_Se_triesMade.desc).map (fun d => d.parameters.length) = some 0 := by decide +kernel
def ws_Se_found : List Cond := Cond.code y_Se_found c_Se_found 1 (some .int) :: kG
theorem h_Se_found : y_Se_found.cls = R_Se ∧ y_Se_found.cls ≠ "java/lang/invoke/MethodHandle" ∧ y_Se_found.cls ≠ "java/lang/invoke/VarHandle" ∧ (parseMethodDescriptor y_Se_found.desc).map (fun d => d.parameters.length) = some 0 := by decide +kernel
def ws_Se_isSpent : List Cond := Cond.code y_Se_isSpent c_Se_isSpent 1 (some .boolean) :: kG
theorem h_Se_isSpent : y_Se_isSpent.cls = R_Se ∧ y_Se_isSpent.cls ≠ "java/lang/invoke/MethodHandle" ∧ y_Se_isSpent.cls ≠ "java/lang/invoke/VarHandle" ∧ (parseMethodDescriptor y_Se_isSpent.desc).map (fun d => d.parameters.length) = some 0 := by decide +kernel
def ws_Se_clear : List Cond := Cond.code y_Se_clear c_Se_clear 1 none :: kG
theorem h_Se_clear : y_Se_clear.cls = R_Se ∧ y_Se_clear.cls ≠ "java/lang/invoke/MethodHandle" ∧ y_Se_clear.cls ≠ "java/lang/invoke/VarHandle" ∧ (parseMethodDescriptor y_Se_clear.desc).map (fun d => d.parameters.length) = some 0 := by decide +kernel
def ws_Se_run : List Cond := Cond.code y_Se_run c_Se_run 6 none :: kG
theorem h_Se_run : y_Se_run.cls = R_Se ∧ y_Se_run.cls ≠ "java/lang/invoke/MethodHandle" ∧ y_Se_run.cls ≠ "java/lang/invoke/VarHandle" ∧ (parseMethodDescriptor y_Se_run.desc).map (fun d => d.parameters.length) = some 3 := by decide +kernel
def ws_Se_makeTry : List Cond := Cond.code y_Se_makeTry c_Se_makeTry 4 (some .int) :: kG
theorem h_Se_makeTry : y_Se_makeTry.cls = R_Se ∧ y_Se_makeTry.cls ≠ "java/lang/invoke/MethodHandle" ∧ y_Se_makeTry.cls ≠ "java/lang/invoke/VarHandle" ∧ (parseMethodDescriptor y_Se_makeTry.desc).map (fun d => d.parameters.length) = some 1 := by decide +kernel
def ws_Se_release : List Cond := Cond.code y_Se_release c_Se_release 3 none :: kG
theorem h_Se_release : y_Se_release.cls = R_Se ∧ y_Se_release.cls ≠ "java/lang/invoke/MethodHandle" ∧ y_Se_release.cls ≠ "java/lang/invoke/VarHandle" ∧ (parseMethodDescriptor y_Se_release.desc).map (fun d => d.parameters.length) = some 1 := by decide +kernel
def ws_Se_choose : List Cond := Cond.code y_Se_choose c_Se_choose 3 (some .boolean) :: kG
theorem h_Se_choose : y_Se_choose.cls = R_Se ∧ y_Se_choose.cls ≠ "java/lang/invoke/MethodHandle" ∧ y_Se_choose.cls ≠ "java/lang/invoke/VarHandle" ∧ (parseMethodDescriptor y_Se_choose.desc).map (fun d => d.parameters.length) = some 1 := by decide +kernel
def ws_Se_firstChoice : List Cond := Cond.code y_Se_firstChoice c_Se_firstChoice 3 (some .int) :: kG
theorem h_Se_firstChoice : y_Se_firstChoice.cls = R_Se ∧ y_Se_firstChoice.cls ≠ "java/lang/invoke/MethodHandle" ∧ y_Se_firstChoice.cls ≠ "java/lang/invoke/VarHandle" ∧ (parseMethodDescriptor y_Se_firstChoice.desc).map (fun d => d.parameters.length) = some 1 := by decide +kernel
def ws_Se_laterChoice : List Cond := Cond.code y_Se_laterChoice c_Se_laterChoice 4 (some .int) :: kG
theorem h_Se_laterChoice : y_Se_laterChoice.cls = R_Se ∧ y_Se_laterChoice.cls ≠ "java/lang/invoke/MethodHandle" ∧ y_Se_laterChoice.cls ≠ "java/lang/invoke/VarHandle" ∧ (parseMethodDescriptor y_Se_laterChoice.desc).map (fun d => d.parameters.length) = some 1 := by decide +kernel
def ws_Se_gatherRow : List Cond := Cond.code y_Se_gatherRow c_Se_gatherRow 4 none :: kG
theorem h_Se_gatherRow : y_Se_gatherRow.cls = R_Se ∧ y_Se_gatherRow.cls ≠ "java/lang/invoke/MethodHandle" ∧ y_Se_gatherRow.cls ≠ "java/lang/invoke/VarHandle" ∧ (parseMethodDescriptor y_Se_gatherRow.desc).map (fun d => d.parameters.length) = some 1 := by decide +kernel
def ws_Se_fitsLeafOrNode : List Cond := Cond.code y_Se_fitsLeafOrNode c_Se_fitsLeafOrNode 3 (some .boolean) :: kG
theorem h_Se_fitsLeafOrNode : y_Se_fitsLeafOrNode.cls = R_Se ∧ y_Se_fitsLeafOrNode.cls ≠ "java/lang/invoke/MethodHandle" ∧ y_Se_fitsLeafOrNode.cls ≠ "java/lang/invoke/VarHandle" ∧ (parseMethodDescriptor y_Se_fitsLeafOrNode.desc).map (fun d => d.parameters.length) = some 2 := by decide +kernel
def ws_Se_fitsHole : List Cond := Cond.code y_Se_fitsHole c_Se_fitsHole 4 (some .boolean) :: kG
theorem h_Se_fitsHole : y_Se_fitsHole.cls = R_Se ∧ y_Se_fitsHole.cls ≠ "java/lang/invoke/MethodHandle" ∧ y_Se_fitsHole.cls ≠ "java/lang/invoke/VarHandle" ∧ (parseMethodDescriptor y_Se_fitsHole.desc).map (fun d => d.parameters.length) = some 2 := by decide +kernel
def ws_Se_rowsEndHere : List Cond := Cond.code y_Se_rowsEndHere c_Se_rowsEndHere 5 (some .boolean) :: kG
theorem h_Se_rowsEndHere : y_Se_rowsEndHere.cls = R_Se ∧ y_Se_rowsEndHere.cls ≠ "java/lang/invoke/MethodHandle" ∧ y_Se_rowsEndHere.cls ≠ "java/lang/invoke/VarHandle" ∧ (parseMethodDescriptor y_Se_rowsEndHere.desc).map (fun d => d.parameters.length) = some 1 := by decide +kernel
theorem h_La_leaf : y_La_leaf.cls = R_La ∧ y_La_leaf.cls ≠ "java/lang/invoke/MethodHandle" ∧ y_La_leaf.cls ≠ "java/lang/invoke/VarHandle" ∧ (parseMethodDescriptor y_La_leaf.desc).map (fun d => d.parameters.length) = some 3 := by decide +kernel
theorem h_La_node : y_La_node.cls = R_La ∧ y_La_node.cls ≠ "java/lang/invoke/MethodHandle" ∧ y_La_node.cls ≠ "java/lang/invoke/VarHandle" ∧ (parseMethodDescriptor y_La_node.desc).map (fun d => d.parameters.length) = some 3 := by decide +kernel
theorem h_La_more : y_La_more.cls = R_La ∧ y_La_more.cls ≠ "java/lang/invoke/MethodHandle" ∧ y_La_more.cls ≠ "java/lang/invoke/VarHandle" ∧ (parseMethodDescriptor y_La_more.desc).map (fun d => d.parameters.length) = some 4 := by decide +kernel
theorem h_La_hole : y_La_hole.cls = R_La ∧ y_La_hole.cls ≠ "java/lang/invoke/MethodHandle" ∧ y_La_hole.cls ≠ "java/lang/invoke/VarHandle" ∧ (parseMethodDescriptor y_La_hole.desc).map (fun d => d.parameters.length) = some 4 := by decide +kernel
theorem h_La_test : y_La_test.cls = R_La ∧ y_La_test.cls ≠ "java/lang/invoke/MethodHandle" ∧ y_La_test.cls ≠ "java/lang/invoke/VarHandle" ∧ (parseMethodDescriptor y_La_test.desc).map (fun d => d.parameters.length) = some 5 := by decide +kernel
theorem h_La_match : y_La_match.cls = R_La ∧ y_La_match.cls ≠ "java/lang/invoke/MethodHandle" ∧ y_La_match.cls ≠ "java/lang/invoke/VarHandle" ∧ (parseMethodDescriptor y_La_match.desc).map (fun d => d.parameters.length) = some 5 := by decide +kernel
theorem h_La_bound : y_La_bound.cls = R_La ∧ y_La_bound.cls ≠ "java/lang/invoke/MethodHandle" ∧ y_La_bound.cls ≠ "java/lang/invoke/VarHandle" ∧ (parseMethodDescriptor y_La_bound.desc).map (fun d => d.parameters.length) = some 5 := by decide +kernel
theorem h_La_many : y_La_many.cls = R_La ∧ y_La_many.cls ≠ "java/lang/invoke/MethodHandle" ∧ y_La_many.cls ≠ "java/lang/invoke/VarHandle" ∧ (parseMethodDescriptor y_La_many.desc).map (fun d => d.parameters.length) = some 4 := by decide +kernel
theorem h_La_rule : y_La_rule.cls = R_La ∧ y_La_rule.cls ≠ "java/lang/invoke/MethodHandle" ∧ y_La_rule.cls ≠ "java/lang/invoke/VarHandle" ∧ (parseMethodDescriptor y_La_rule.desc).map (fun d => d.parameters.length) = some 3 := by decide +kernel
theorem h_La_net : y_La_net.cls = R_La ∧ y_La_net.cls ≠ "java/lang/invoke/MethodHandle" ∧ y_La_net.cls ≠ "java/lang/invoke/VarHandle" ∧ (parseMethodDescriptor y_La_net.desc).map (fun d => d.parameters.length) = some 3 := by decide +kernel
theorem h_La_first : y_La_first.cls = R_La ∧ y_La_first.cls ≠ "java/lang/invoke/MethodHandle" ∧ y_La_first.cls ≠ "java/lang/invoke/VarHandle" ∧ (parseMethodDescriptor y_La_first.desc).map (fun d => d.parameters.length) = some 3 := by decide +kernel
theorem h_La_order : y_La_order.cls = R_La ∧ y_La_order.cls ≠ "java/lang/invoke/MethodHandle" ∧ y_La_order.cls ≠ "java/lang/invoke/VarHandle" ∧ (parseMethodDescriptor y_La_order.desc).map (fun d => d.parameters.length) = some 4 := by decide +kernel
theorem h_La_parts : y_La_parts.cls = R_La ∧ y_La_parts.cls ≠ "java/lang/invoke/MethodHandle" ∧ y_La_parts.cls ≠ "java/lang/invoke/VarHandle" ∧ (parseMethodDescriptor y_La_parts.desc).map (fun d => d.parameters.length) = some 3 := by decide +kernel
theorem h_La_part : y_La_part.cls = R_La ∧ y_La_part.cls ≠ "java/lang/invoke/MethodHandle" ∧ y_La_part.cls ≠ "java/lang/invoke/VarHandle" ∧ (parseMethodDescriptor y_La_part.desc).map (fun d => d.parameters.length) = some 4 := by decide +kernel
def ws_In_bitCount : List Cond := Cond.code y_In_bitCount c_In_bitCount 1 (some .int) :: kG
theorem h_In_bitCount : y_In_bitCount.cls = R_In ∧ y_In_bitCount.cls ≠ "java/lang/invoke/MethodHandle" ∧ y_In_bitCount.cls ≠ "java/lang/invoke/VarHandle" ∧ (parseMethodDescriptor y_In_bitCount.desc).map (fun d => d.parameters.length) = some 1 := by decide +kernel
def ws_Ar_fill : List Cond := Cond.code y_Ar_fill c_Ar_fill 4 none :: kG
theorem h_Ar_fill : y_Ar_fill.cls = R_Ar ∧ y_Ar_fill.cls ≠ "java/lang/invoke/MethodHandle" ∧ y_Ar_fill.cls ≠ "java/lang/invoke/VarHandle" ∧ (parseMethodDescriptor y_Ar_fill.desc).map (fun d => d.parameters.length) = some 2 := by decide +kernel
end
section
/-! decode rows, by program (wip/whole/mk02.py) -/
theorem d_F_init_0 : decode c_F_init 0 = .ok (.aload_n 0, 1) := by decide +kernel
theorem d_F_init_1 : decode c_F_init 1 = .ok (.invokespecial 3, 3) := by decide +kernel
theorem d_F_init_4 : decode c_F_init 4 = .ok (.aload_n 0, 1) := by decide +kernel
theorem d_F_init_5 : decode c_F_init 5 = .ok (.iconst 0, 1) := by decide +kernel
theorem d_F_init_6 : decode c_F_init 6 = .ok (.putfield 9, 3) := by decide +kernel
theorem d_F_init_9 : decode c_F_init 9 = .ok (.aload_n 0, 1) := by decide +kernel
theorem d_F_init_10 : decode c_F_init 10 = .ok (.sipush 240, 3) := by decide +kernel
theorem d_F_init_13 : decode c_F_init 13 = .ok (.newarray .int, 2) := by decide +kernel
theorem d_F_init_15 : decode c_F_init 15 = .ok (.putfield 15, 3) := by decide +kernel
theorem d_F_init_18 : decode c_F_init 18 = .ok (.aload_n 0, 1) := by decide +kernel
theorem d_F_init_19 : decode c_F_init 19 = .ok (.sipush 240, 3) := by decide +kernel
theorem d_F_init_22 : decode c_F_init 22 = .ok (.newarray .int, 2) := by decide +kernel
theorem d_F_init_24 : decode c_F_init 24 = .ok (.putfield 19, 3) := by decide +kernel
theorem d_F_init_27 : decode c_F_init 27 = .ok (.aload_n 0, 1) := by decide +kernel
theorem d_F_init_28 : decode c_F_init 28 = .ok (.sipush 240, 3) := by decide +kernel
theorem d_F_init_31 : decode c_F_init 31 = .ok (.newarray .int, 2) := by decide +kernel
theorem d_F_init_33 : decode c_F_init 33 = .ok (.putfield 22, 3) := by decide +kernel
theorem d_F_init_36 : decode c_F_init 36 = .ok (.aload_n 0, 1) := by decide +kernel
theorem d_F_init_37 : decode c_F_init 37 = .ok (.sipush 240, 3) := by decide +kernel
theorem d_F_init_40 : decode c_F_init 40 = .ok (.newarray .boolean, 2) := by decide +kernel
theorem d_F_init_42 : decode c_F_init 42 = .ok (.putfield 25, 3) := by decide +kernel
theorem d_F_init_45 : decode c_F_init 45 = .ok (.aload_n 0, 1) := by decide +kernel
theorem d_F_init_46 : decode c_F_init 46 = .ok (.sipush 240, 3) := by decide +kernel
theorem d_F_init_49 : decode c_F_init 49 = .ok (.newarray .boolean, 2) := by decide +kernel
theorem d_F_init_51 : decode c_F_init 51 = .ok (.putfield 29, 3) := by decide +kernel
theorem d_F_init_54 : decode c_F_init 54 = .ok (.aload_n 0, 1) := by decide +kernel
theorem d_F_init_55 : decode c_F_init 55 = .ok (.sipush 240, 3) := by decide +kernel
theorem d_F_init_58 : decode c_F_init 58 = .ok (.newarray .int, 2) := by decide +kernel
theorem d_F_init_60 : decode c_F_init 60 = .ok (.putfield 32, 3) := by decide +kernel
theorem d_F_init_63 : decode c_F_init 63 = .ok (.aload_n 0, 1) := by decide +kernel
theorem d_F_init_64 : decode c_F_init 64 = .ok (.sipush 240, 3) := by decide +kernel
theorem d_F_init_67 : decode c_F_init 67 = .ok (.newarray .int, 2) := by decide +kernel
theorem d_F_init_69 : decode c_F_init 69 = .ok (.putfield 35, 3) := by decide +kernel
theorem d_F_init_72 : decode c_F_init 72 = .ok (.aload_n 0, 1) := by decide +kernel
theorem d_F_init_73 : decode c_F_init 73 = .ok (.sipush 240, 3) := by decide +kernel
theorem d_F_init_76 : decode c_F_init 76 = .ok (.newarray .int, 2) := by decide +kernel
theorem d_F_init_78 : decode c_F_init 78 = .ok (.putfield 38, 3) := by decide +kernel
theorem d_F_init_81 : decode c_F_init 81 = .ok (.aload_n 0, 1) := by decide +kernel
theorem d_F_init_82 : decode c_F_init 82 = .ok (.sipush 2880, 3) := by decide +kernel
theorem d_F_init_85 : decode c_F_init 85 = .ok (.newarray .int, 2) := by decide +kernel
theorem d_F_init_87 : decode c_F_init 87 = .ok (.putfield 41, 3) := by decide +kernel
theorem d_F_init_90 : decode c_F_init 90 = .ok (.aload_n 0, 1) := by decide +kernel
theorem d_F_init_91 : decode c_F_init 91 = .ok (.sipush 240, 3) := by decide +kernel
theorem d_F_init_94 : decode c_F_init 94 = .ok (.newarray .int, 2) := by decide +kernel
theorem d_F_init_96 : decode c_F_init 96 = .ok (.putfield 44, 3) := by decide +kernel
theorem d_F_init_99 : decode c_F_init 99 = .ok (.aload_n 0, 1) := by decide +kernel
theorem d_F_init_100 : decode c_F_init 100 = .ok (.sipush 720, 3) := by decide +kernel
theorem d_F_init_103 : decode c_F_init 103 = .ok (.newarray .int, 2) := by decide +kernel
theorem d_F_init_105 : decode c_F_init 105 = .ok (.putfield 47, 3) := by decide +kernel
theorem d_F_init_108 : decode c_F_init 108 = .ok (.aload_n 0, 1) := by decide +kernel
theorem d_F_init_109 : decode c_F_init 109 = .ok (.sipush 720, 3) := by decide +kernel
theorem d_F_init_112 : decode c_F_init 112 = .ok (.newarray .int, 2) := by decide +kernel
theorem d_F_init_114 : decode c_F_init 114 = .ok (.putfield 50, 3) := by decide +kernel
theorem d_F_init_117 : decode c_F_init 117 = .ok (.return_, 1) := by decide +kernel
theorem d_F_treeCount_0 : decode c_F_treeCount 0 = .ok (.aload_n 0, 1) := by decide +kernel
theorem d_F_treeCount_1 : decode c_F_treeCount 1 = .ok (.getfield 9, 3) := by decide +kernel
theorem d_F_treeCount_4 : decode c_F_treeCount 4 = .ok (.ireturn, 1) := by decide +kernel
theorem d_F_isFull_0 : decode c_F_isFull 0 = .ok (.aload_n 0, 1) := by decide +kernel
theorem d_F_isFull_1 : decode c_F_isFull 1 = .ok (.getfield 9, 3) := by decide +kernel
theorem d_F_isFull_4 : decode c_F_isFull 4 = .ok (.sipush 240, 3) := by decide +kernel
theorem d_F_isFull_7 : decode c_F_isFull 7 = .ok (.if_icmp .lt 7, 3) := by decide +kernel
theorem d_F_isFull_10 : decode c_F_isFull 10 = .ok (.iconst 1, 1) := by decide +kernel
theorem d_F_isFull_11 : decode c_F_isFull 11 = .ok (.goto 4, 3) := by decide +kernel
theorem d_F_isFull_14 : decode c_F_isFull 14 = .ok (.iconst 0, 1) := by decide +kernel
theorem d_F_isFull_15 : decode c_F_isFull 15 = .ok (.ireturn, 1) := by decide +kernel
theorem d_F_hasTree_0 : decode c_F_hasTree 0 = .ok (.iload_n 1, 1) := by decide +kernel
theorem d_F_hasTree_1 : decode c_F_hasTree 1 = .ok (.ifCond .lt 15, 3) := by decide +kernel
theorem d_F_hasTree_4 : decode c_F_hasTree 4 = .ok (.iload_n 1, 1) := by decide +kernel
theorem d_F_hasTree_5 : decode c_F_hasTree 5 = .ok (.aload_n 0, 1) := by decide +kernel
theorem d_F_hasTree_6 : decode c_F_hasTree 6 = .ok (.getfield 9, 3) := by decide +kernel
theorem d_F_hasTree_9 : decode c_F_hasTree 9 = .ok (.if_icmp .ge 7, 3) := by decide +kernel
theorem d_F_hasTree_12 : decode c_F_hasTree 12 = .ok (.iconst 1, 1) := by decide +kernel
theorem d_F_hasTree_13 : decode c_F_hasTree 13 = .ok (.goto 4, 3) := by decide +kernel
theorem d_F_hasTree_16 : decode c_F_hasTree 16 = .ok (.iconst 0, 1) := by decide +kernel
theorem d_F_hasTree_17 : decode c_F_hasTree 17 = .ok (.ireturn, 1) := by decide +kernel
theorem d_F_add_0 : decode c_F_add 0 = .ok (.aload_n 0, 1) := by decide +kernel
theorem d_F_add_1 : decode c_F_add 1 = .ok (.getfield 9, 3) := by decide +kernel
theorem d_F_add_4 : decode c_F_add 4 = .ok (.istore 4, 2) := by decide +kernel
theorem d_F_add_6 : decode c_F_add 6 = .ok (.aload_n 0, 1) := by decide +kernel
theorem d_F_add_7 : decode c_F_add 7 = .ok (.getfield 15, 3) := by decide +kernel
theorem d_F_add_10 : decode c_F_add 10 = .ok (.iload 4, 2) := by decide +kernel
theorem d_F_add_12 : decode c_F_add 12 = .ok (.iload_n 1, 1) := by decide +kernel
theorem d_F_add_13 : decode c_F_add 13 = .ok (.iastore, 1) := by decide +kernel
theorem d_F_add_14 : decode c_F_add 14 = .ok (.aload_n 0, 1) := by decide +kernel
theorem d_F_add_15 : decode c_F_add 15 = .ok (.getfield 19, 3) := by decide +kernel
theorem d_F_add_18 : decode c_F_add 18 = .ok (.iload 4, 2) := by decide +kernel
theorem d_F_add_20 : decode c_F_add 20 = .ok (.iload_n 2, 1) := by decide +kernel
theorem d_F_add_21 : decode c_F_add 21 = .ok (.iastore, 1) := by decide +kernel
theorem d_F_add_22 : decode c_F_add 22 = .ok (.aload_n 0, 1) := by decide +kernel
theorem d_F_add_23 : decode c_F_add 23 = .ok (.getfield 22, 3) := by decide +kernel
theorem d_F_add_26 : decode c_F_add 26 = .ok (.iload 4, 2) := by decide +kernel
theorem d_F_add_28 : decode c_F_add 28 = .ok (.iload_n 3, 1) := by decide +kernel
theorem d_F_add_29 : decode c_F_add 29 = .ok (.iastore, 1) := by decide +kernel
theorem d_F_add_30 : decode c_F_add 30 = .ok (.aload_n 0, 1) := by decide +kernel
theorem d_F_add_31 : decode c_F_add 31 = .ok (.getfield 25, 3) := by decide +kernel
theorem d_F_add_34 : decode c_F_add 34 = .ok (.iload 4, 2) := by decide +kernel
theorem d_F_add_36 : decode c_F_add 36 = .ok (.iload_n 1, 1) := by decide +kernel
theorem d_F_add_37 : decode c_F_add 37 = .ok (.iconst 2, 1) := by decide +kernel
theorem d_F_add_38 : decode c_F_add 38 = .ok (.if_icmp .eq 7, 3) := by decide +kernel
theorem d_F_add_41 : decode c_F_add 41 = .ok (.iconst 1, 1) := by decide +kernel
theorem d_F_add_42 : decode c_F_add 42 = .ok (.goto 4, 3) := by decide +kernel
theorem d_F_add_45 : decode c_F_add 45 = .ok (.iconst 0, 1) := by decide +kernel
theorem d_F_add_46 : decode c_F_add 46 = .ok (.bastore, 1) := by decide +kernel
theorem d_F_add_47 : decode c_F_add 47 = .ok (.aload_n 0, 1) := by decide +kernel
theorem d_F_add_48 : decode c_F_add 48 = .ok (.getfield 35, 3) := by decide +kernel
theorem d_F_add_51 : decode c_F_add 51 = .ok (.iload 4, 2) := by decide +kernel
theorem d_F_add_53 : decode c_F_add 53 = .ok (.iconst 1, 1) := by decide +kernel
theorem d_F_add_54 : decode c_F_add 54 = .ok (.iastore, 1) := by decide +kernel
theorem d_F_add_55 : decode c_F_add 55 = .ok (.aload_n 0, 1) := by decide +kernel
theorem d_F_add_56 : decode c_F_add 56 = .ok (.dup, 1) := by decide +kernel
theorem d_F_add_57 : decode c_F_add 57 = .ok (.getfield 9, 3) := by decide +kernel
theorem d_F_add_60 : decode c_F_add 60 = .ok (.iconst 1, 1) := by decide +kernel
theorem d_F_add_61 : decode c_F_add 61 = .ok (.iadd, 1) := by decide +kernel
theorem d_F_add_62 : decode c_F_add 62 = .ok (.putfield 9, 3) := by decide +kernel
theorem d_F_add_65 : decode c_F_add 65 = .ok (.iload 4, 2) := by decide +kernel
theorem d_F_add_67 : decode c_F_add 67 = .ok (.ireturn, 1) := by decide +kernel
theorem d_F_close_0 : decode c_F_close 0 = .ok (.aload_n 0, 1) := by decide +kernel
theorem d_F_close_1 : decode c_F_close 1 = .ok (.getfield 29, 3) := by decide +kernel
theorem d_F_close_4 : decode c_F_close 4 = .ok (.iload_n 1, 1) := by decide +kernel
theorem d_F_close_5 : decode c_F_close 5 = .ok (.iconst 1, 1) := by decide +kernel
theorem d_F_close_6 : decode c_F_close 6 = .ok (.bastore, 1) := by decide +kernel
theorem d_F_close_7 : decode c_F_close 7 = .ok (.return_, 1) := by decide +kernel
theorem d_F_isPlain_0 : decode c_F_isPlain 0 = .ok (.aload_n 0, 1) := by decide +kernel
theorem d_F_isPlain_1 : decode c_F_isPlain 1 = .ok (.getfield 25, 3) := by decide +kernel
theorem d_F_isPlain_4 : decode c_F_isPlain 4 = .ok (.iload_n 1, 1) := by decide +kernel
theorem d_F_isPlain_5 : decode c_F_isPlain 5 = .ok (.baload, 1) := by decide +kernel
theorem d_F_isPlain_6 : decode c_F_isPlain 6 = .ok (.ireturn, 1) := by decide +kernel
theorem d_F_isLeaf_0 : decode c_F_isLeaf 0 = .ok (.aload_n 0, 1) := by decide +kernel
theorem d_F_isLeaf_1 : decode c_F_isLeaf 1 = .ok (.getfield 15, 3) := by decide +kernel
theorem d_F_isLeaf_4 : decode c_F_isLeaf 4 = .ok (.iload_n 1, 1) := by decide +kernel
theorem d_F_isLeaf_5 : decode c_F_isLeaf 5 = .ok (.iaload, 1) := by decide +kernel
theorem d_F_isLeaf_6 : decode c_F_isLeaf 6 = .ok (.ifCond .ne 7, 3) := by decide +kernel
theorem d_F_isLeaf_9 : decode c_F_isLeaf 9 = .ok (.iconst 1, 1) := by decide +kernel
theorem d_F_isLeaf_10 : decode c_F_isLeaf 10 = .ok (.goto 4, 3) := by decide +kernel
theorem d_F_isLeaf_13 : decode c_F_isLeaf 13 = .ok (.iconst 0, 1) := by decide +kernel
theorem d_F_isLeaf_14 : decode c_F_isLeaf 14 = .ok (.ireturn, 1) := by decide +kernel
theorem d_F_isNode_0 : decode c_F_isNode 0 = .ok (.aload_n 0, 1) := by decide +kernel
theorem d_F_isNode_1 : decode c_F_isNode 1 = .ok (.getfield 15, 3) := by decide +kernel
theorem d_F_isNode_4 : decode c_F_isNode 4 = .ok (.iload_n 1, 1) := by decide +kernel
theorem d_F_isNode_5 : decode c_F_isNode 5 = .ok (.iaload, 1) := by decide +kernel
theorem d_F_isNode_6 : decode c_F_isNode 6 = .ok (.iconst 1, 1) := by decide +kernel
theorem d_F_isNode_7 : decode c_F_isNode 7 = .ok (.if_icmp .ne 7, 3) := by decide +kernel
theorem d_F_isNode_10 : decode c_F_isNode 10 = .ok (.iconst 1, 1) := by decide +kernel
theorem d_F_isNode_11 : decode c_F_isNode 11 = .ok (.goto 4, 3) := by decide +kernel
theorem d_F_isNode_14 : decode c_F_isNode 14 = .ok (.iconst 0, 1) := by decide +kernel
theorem d_F_isNode_15 : decode c_F_isNode 15 = .ok (.ireturn, 1) := by decide +kernel
theorem d_F_isHole_0 : decode c_F_isHole 0 = .ok (.aload_n 0, 1) := by decide +kernel
theorem d_F_isHole_1 : decode c_F_isHole 1 = .ok (.getfield 15, 3) := by decide +kernel
theorem d_F_isHole_4 : decode c_F_isHole 4 = .ok (.iload_n 1, 1) := by decide +kernel
theorem d_F_isHole_5 : decode c_F_isHole 5 = .ok (.iaload, 1) := by decide +kernel
theorem d_F_isHole_6 : decode c_F_isHole 6 = .ok (.iconst 2, 1) := by decide +kernel
theorem d_F_isHole_7 : decode c_F_isHole 7 = .ok (.if_icmp .ne 7, 3) := by decide +kernel
theorem d_F_isHole_10 : decode c_F_isHole 10 = .ok (.iconst 1, 1) := by decide +kernel
theorem d_F_isHole_11 : decode c_F_isHole 11 = .ok (.goto 4, 3) := by decide +kernel
theorem d_F_isHole_14 : decode c_F_isHole 14 = .ok (.iconst 0, 1) := by decide +kernel
theorem d_F_isHole_15 : decode c_F_isHole 15 = .ok (.ireturn, 1) := by decide +kernel
theorem d_F_isHoleOfKind_0 : decode c_F_isHoleOfKind 0 = .ok (.aload_n 0, 1) := by decide +kernel
theorem d_F_isHoleOfKind_1 : decode c_F_isHoleOfKind 1 = .ok (.getfield 15, 3) := by decide +kernel
theorem d_F_isHoleOfKind_4 : decode c_F_isHoleOfKind 4 = .ok (.iload_n 1, 1) := by decide +kernel
theorem d_F_isHoleOfKind_5 : decode c_F_isHoleOfKind 5 = .ok (.iaload, 1) := by decide +kernel
theorem d_F_isHoleOfKind_6 : decode c_F_isHoleOfKind 6 = .ok (.iconst 2, 1) := by decide +kernel
theorem d_F_isHoleOfKind_7 : decode c_F_isHoleOfKind 7 = .ok (.if_icmp .ne 17, 3) := by decide +kernel
theorem d_F_isHoleOfKind_10 : decode c_F_isHoleOfKind 10 = .ok (.aload_n 0, 1) := by decide +kernel
theorem d_F_isHoleOfKind_11 : decode c_F_isHoleOfKind 11 = .ok (.getfield 22, 3) := by decide +kernel
theorem d_F_isHoleOfKind_14 : decode c_F_isHoleOfKind 14 = .ok (.iload_n 1, 1) := by decide +kernel
theorem d_F_isHoleOfKind_15 : decode c_F_isHoleOfKind 15 = .ok (.iaload, 1) := by decide +kernel
theorem d_F_isHoleOfKind_16 : decode c_F_isHoleOfKind 16 = .ok (.iload_n 2, 1) := by decide +kernel
theorem d_F_isHoleOfKind_17 : decode c_F_isHoleOfKind 17 = .ok (.if_icmp .ne 7, 3) := by decide +kernel
theorem d_F_isHoleOfKind_20 : decode c_F_isHoleOfKind 20 = .ok (.iconst 1, 1) := by decide +kernel
theorem d_F_isHoleOfKind_21 : decode c_F_isHoleOfKind 21 = .ok (.goto 4, 3) := by decide +kernel
theorem d_F_isHoleOfKind_24 : decode c_F_isHoleOfKind 24 = .ok (.iconst 0, 1) := by decide +kernel
theorem d_F_isHoleOfKind_25 : decode c_F_isHoleOfKind 25 = .ok (.ireturn, 1) := by decide +kernel
theorem d_F_takesSeveral_0 : decode c_F_takesSeveral 0 = .ok (.aload_n 0, 1) := by decide +kernel
theorem d_F_takesSeveral_1 : decode c_F_takesSeveral 1 = .ok (.iload_n 1, 1) := by decide +kernel
theorem d_F_takesSeveral_2 : decode c_F_takesSeveral 2 = .ok (.iconst 2, 1) := by decide +kernel
theorem d_F_takesSeveral_3 : decode c_F_takesSeveral 3 = .ok (.invokevirtual 53, 3) := by decide +kernel
theorem d_F_takesSeveral_6 : decode c_F_takesSeveral 6 = .ok (.ifCond .ne 12, 3) := by decide +kernel
theorem d_F_takesSeveral_9 : decode c_F_takesSeveral 9 = .ok (.aload_n 0, 1) := by decide +kernel
theorem d_F_takesSeveral_10 : decode c_F_takesSeveral 10 = .ok (.iload_n 1, 1) := by decide +kernel
theorem d_F_takesSeveral_11 : decode c_F_takesSeveral 11 = .ok (.iconst 3, 1) := by decide +kernel
theorem d_F_takesSeveral_12 : decode c_F_takesSeveral 12 = .ok (.invokevirtual 53, 3) := by decide +kernel
theorem d_F_takesSeveral_15 : decode c_F_takesSeveral 15 = .ok (.ifCond .eq 7, 3) := by decide +kernel
theorem d_F_takesSeveral_18 : decode c_F_takesSeveral 18 = .ok (.iconst 1, 1) := by decide +kernel
theorem d_F_takesSeveral_19 : decode c_F_takesSeveral 19 = .ok (.goto 4, 3) := by decide +kernel
theorem d_F_takesSeveral_22 : decode c_F_takesSeveral 22 = .ok (.iconst 0, 1) := by decide +kernel
theorem d_F_takesSeveral_23 : decode c_F_takesSeveral 23 = .ok (.ireturn, 1) := by decide +kernel
theorem d_F_isAnyOrder_0 : decode c_F_isAnyOrder 0 = .ok (.aload_n 0, 1) := by decide +kernel
theorem d_F_isAnyOrder_1 : decode c_F_isAnyOrder 1 = .ok (.getfield 15, 3) := by decide +kernel
theorem d_F_isAnyOrder_4 : decode c_F_isAnyOrder 4 = .ok (.iload_n 1, 1) := by decide +kernel
theorem d_F_isAnyOrder_5 : decode c_F_isAnyOrder 5 = .ok (.iaload, 1) := by decide +kernel
theorem d_F_isAnyOrder_6 : decode c_F_isAnyOrder 6 = .ok (.iconst 1, 1) := by decide +kernel
theorem d_F_isAnyOrder_7 : decode c_F_isAnyOrder 7 = .ok (.if_icmp .ne 17, 3) := by decide +kernel
theorem d_F_isAnyOrder_10 : decode c_F_isAnyOrder 10 = .ok (.aload_n 0, 1) := by decide +kernel
theorem d_F_isAnyOrder_11 : decode c_F_isAnyOrder 11 = .ok (.getfield 19, 3) := by decide +kernel
theorem d_F_isAnyOrder_14 : decode c_F_isAnyOrder 14 = .ok (.iload_n 1, 1) := by decide +kernel
theorem d_F_isAnyOrder_15 : decode c_F_isAnyOrder 15 = .ok (.iaload, 1) := by decide +kernel
theorem d_F_isAnyOrder_16 : decode c_F_isAnyOrder 16 = .ok (.iconst 5, 1) := by decide +kernel
theorem d_F_isAnyOrder_17 : decode c_F_isAnyOrder 17 = .ok (.if_icmp .lt 7, 3) := by decide +kernel
theorem d_F_isAnyOrder_20 : decode c_F_isAnyOrder 20 = .ok (.iconst 1, 1) := by decide +kernel
theorem d_F_isAnyOrder_21 : decode c_F_isAnyOrder 21 = .ok (.goto 4, 3) := by decide +kernel
theorem d_F_isAnyOrder_24 : decode c_F_isAnyOrder 24 = .ok (.iconst 0, 1) := by decide +kernel
theorem d_F_isAnyOrder_25 : decode c_F_isAnyOrder 25 = .ok (.ireturn, 1) := by decide +kernel
theorem d_F_nameOf_0 : decode c_F_nameOf 0 = .ok (.aload_n 0, 1) := by decide +kernel
theorem d_F_nameOf_1 : decode c_F_nameOf 1 = .ok (.getfield 19, 3) := by decide +kernel
theorem d_F_nameOf_4 : decode c_F_nameOf 4 = .ok (.iload_n 1, 1) := by decide +kernel
theorem d_F_nameOf_5 : decode c_F_nameOf 5 = .ok (.iaload, 1) := by decide +kernel
theorem d_F_nameOf_6 : decode c_F_nameOf 6 = .ok (.ireturn, 1) := by decide +kernel
theorem d_F_partCount_0 : decode c_F_partCount 0 = .ok (.aload_n 0, 1) := by decide +kernel
theorem d_F_partCount_1 : decode c_F_partCount 1 = .ok (.getfield 38, 3) := by decide +kernel
theorem d_F_partCount_4 : decode c_F_partCount 4 = .ok (.iload_n 1, 1) := by decide +kernel
theorem d_F_partCount_5 : decode c_F_partCount 5 = .ok (.iaload, 1) := by decide +kernel
theorem d_F_partCount_6 : decode c_F_partCount 6 = .ok (.ireturn, 1) := by decide +kernel
theorem d_F_partAt_0 : decode c_F_partAt 0 = .ok (.aload_n 0, 1) := by decide +kernel
theorem d_F_partAt_1 : decode c_F_partAt 1 = .ok (.getfield 41, 3) := by decide +kernel
theorem d_F_partAt_4 : decode c_F_partAt 4 = .ok (.iload_n 1, 1) := by decide +kernel
theorem d_F_partAt_5 : decode c_F_partAt 5 = .ok (.bipush 12, 2) := by decide +kernel
theorem d_F_partAt_7 : decode c_F_partAt 7 = .ok (.imul, 1) := by decide +kernel
theorem d_F_partAt_8 : decode c_F_partAt 8 = .ok (.iload_n 2, 1) := by decide +kernel
theorem d_F_partAt_9 : decode c_F_partAt 9 = .ok (.iadd, 1) := by decide +kernel
theorem d_F_partAt_10 : decode c_F_partAt 10 = .ok (.iaload, 1) := by decide +kernel
theorem d_F_partAt_11 : decode c_F_partAt 11 = .ok (.ireturn, 1) := by decide +kernel
theorem d_F_looksLike_0 : decode c_F_looksLike 0 = .ok (.aload_n 0, 1) := by decide +kernel
theorem d_F_looksLike_1 : decode c_F_looksLike 1 = .ok (.getfield 15, 3) := by decide +kernel
theorem d_F_looksLike_4 : decode c_F_looksLike 4 = .ok (.iload_n 1, 1) := by decide +kernel
theorem d_F_looksLike_5 : decode c_F_looksLike 5 = .ok (.iaload, 1) := by decide +kernel
theorem d_F_looksLike_6 : decode c_F_looksLike 6 = .ok (.aload_n 0, 1) := by decide +kernel
theorem d_F_looksLike_7 : decode c_F_looksLike 7 = .ok (.getfield 15, 3) := by decide +kernel
theorem d_F_looksLike_10 : decode c_F_looksLike 10 = .ok (.iload_n 2, 1) := by decide +kernel
theorem d_F_looksLike_11 : decode c_F_looksLike 11 = .ok (.iaload, 1) := by decide +kernel
theorem d_F_looksLike_12 : decode c_F_looksLike 12 = .ok (.if_icmp .ne 22, 3) := by decide +kernel
theorem d_F_looksLike_15 : decode c_F_looksLike 15 = .ok (.aload_n 0, 1) := by decide +kernel
theorem d_F_looksLike_16 : decode c_F_looksLike 16 = .ok (.getfield 19, 3) := by decide +kernel
theorem d_F_looksLike_19 : decode c_F_looksLike 19 = .ok (.iload_n 1, 1) := by decide +kernel
theorem d_F_looksLike_20 : decode c_F_looksLike 20 = .ok (.iaload, 1) := by decide +kernel
theorem d_F_looksLike_21 : decode c_F_looksLike 21 = .ok (.aload_n 0, 1) := by decide +kernel
theorem d_F_looksLike_22 : decode c_F_looksLike 22 = .ok (.getfield 19, 3) := by decide +kernel
theorem d_F_looksLike_25 : decode c_F_looksLike 25 = .ok (.iload_n 2, 1) := by decide +kernel
theorem d_F_looksLike_26 : decode c_F_looksLike 26 = .ok (.iaload, 1) := by decide +kernel
theorem d_F_looksLike_27 : decode c_F_looksLike 27 = .ok (.if_icmp .ne 7, 3) := by decide +kernel
theorem d_F_looksLike_30 : decode c_F_looksLike 30 = .ok (.iconst 1, 1) := by decide +kernel
theorem d_F_looksLike_31 : decode c_F_looksLike 31 = .ok (.goto 4, 3) := by decide +kernel
theorem d_F_looksLike_34 : decode c_F_looksLike 34 = .ok (.iconst 0, 1) := by decide +kernel
theorem d_F_looksLike_35 : decode c_F_looksLike 35 = .ok (.ireturn, 1) := by decide +kernel
theorem d_F_mayTake_0 : decode c_F_mayTake 0 = .ok (.aload_n 0, 1) := by decide +kernel
theorem d_F_mayTake_1 : decode c_F_mayTake 1 = .ok (.getfield 15, 3) := by decide +kernel
theorem d_F_mayTake_4 : decode c_F_mayTake 4 = .ok (.iload_n 1, 1) := by decide +kernel
theorem d_F_mayTake_5 : decode c_F_mayTake 5 = .ok (.iaload, 1) := by decide +kernel
theorem d_F_mayTake_6 : decode c_F_mayTake 6 = .ok (.iconst 1, 1) := by decide +kernel
theorem d_F_mayTake_7 : decode c_F_mayTake 7 = .ok (.if_icmp .ne 50, 3) := by decide +kernel
theorem d_F_mayTake_10 : decode c_F_mayTake 10 = .ok (.aload_n 0, 1) := by decide +kernel
theorem d_F_mayTake_11 : decode c_F_mayTake 11 = .ok (.getfield 29, 3) := by decide +kernel
theorem d_F_mayTake_14 : decode c_F_mayTake 14 = .ok (.iload_n 1, 1) := by decide +kernel
theorem d_F_mayTake_15 : decode c_F_mayTake 15 = .ok (.baload, 1) := by decide +kernel
theorem d_F_mayTake_16 : decode c_F_mayTake 16 = .ok (.ifCond .ne 41, 3) := by decide +kernel
theorem d_F_mayTake_19 : decode c_F_mayTake 19 = .ok (.iload_n 2, 1) := by decide +kernel
theorem d_F_mayTake_20 : decode c_F_mayTake 20 = .ok (.iload_n 1, 1) := by decide +kernel
theorem d_F_mayTake_21 : decode c_F_mayTake 21 = .ok (.if_icmp .eq 36, 3) := by decide +kernel
theorem d_F_mayTake_24 : decode c_F_mayTake 24 = .ok (.aload_n 0, 1) := by decide +kernel
theorem d_F_mayTake_25 : decode c_F_mayTake 25 = .ok (.getfield 32, 3) := by decide +kernel
theorem d_F_mayTake_28 : decode c_F_mayTake 28 = .ok (.iload_n 2, 1) := by decide +kernel
theorem d_F_mayTake_29 : decode c_F_mayTake 29 = .ok (.iaload, 1) := by decide +kernel
theorem d_F_mayTake_30 : decode c_F_mayTake 30 = .ok (.bipush 20, 2) := by decide +kernel
theorem d_F_mayTake_32 : decode c_F_mayTake 32 = .ok (.if_icmp .ge 25, 3) := by decide +kernel
theorem d_F_mayTake_35 : decode c_F_mayTake 35 = .ok (.aload_n 0, 1) := by decide +kernel
theorem d_F_mayTake_36 : decode c_F_mayTake 36 = .ok (.getfield 35, 3) := by decide +kernel
theorem d_F_mayTake_39 : decode c_F_mayTake 39 = .ok (.iload_n 1, 1) := by decide +kernel
theorem d_F_mayTake_40 : decode c_F_mayTake 40 = .ok (.iaload, 1) := by decide +kernel
theorem d_F_mayTake_41 : decode c_F_mayTake 41 = .ok (.aload_n 0, 1) := by decide +kernel
theorem d_F_mayTake_42 : decode c_F_mayTake 42 = .ok (.getfield 35, 3) := by decide +kernel
theorem d_F_mayTake_45 : decode c_F_mayTake 45 = .ok (.iload_n 2, 1) := by decide +kernel
theorem d_F_mayTake_46 : decode c_F_mayTake 46 = .ok (.iaload, 1) := by decide +kernel
theorem d_F_mayTake_47 : decode c_F_mayTake 47 = .ok (.iadd, 1) := by decide +kernel
theorem d_F_mayTake_48 : decode c_F_mayTake 48 = .ok (.bipush 70, 2) := by decide +kernel
theorem d_F_mayTake_50 : decode c_F_mayTake 50 = .ok (.if_icmp .gt 7, 3) := by decide +kernel
theorem d_F_mayTake_53 : decode c_F_mayTake 53 = .ok (.iconst 1, 1) := by decide +kernel
theorem d_F_mayTake_54 : decode c_F_mayTake 54 = .ok (.goto 4, 3) := by decide +kernel
theorem d_F_mayTake_57 : decode c_F_mayTake 57 = .ok (.iconst 0, 1) := by decide +kernel
theorem d_F_mayTake_58 : decode c_F_mayTake 58 = .ok (.ireturn, 1) := by decide +kernel
theorem d_F_addPart_0 : decode c_F_addPart 0 = .ok (.aload_n 0, 1) := by decide +kernel
theorem d_F_addPart_1 : decode c_F_addPart 1 = .ok (.getfield 38, 3) := by decide +kernel
theorem d_F_addPart_4 : decode c_F_addPart 4 = .ok (.iload_n 1, 1) := by decide +kernel
theorem d_F_addPart_5 : decode c_F_addPart 5 = .ok (.iaload, 1) := by decide +kernel
theorem d_F_addPart_6 : decode c_F_addPart 6 = .ok (.istore_n 3, 1) := by decide +kernel
theorem d_F_addPart_7 : decode c_F_addPart 7 = .ok (.iload_n 3, 1) := by decide +kernel
theorem d_F_addPart_8 : decode c_F_addPart 8 = .ok (.bipush 12, 2) := by decide +kernel
theorem d_F_addPart_10 : decode c_F_addPart 10 = .ok (.if_icmp .lt 5, 3) := by decide +kernel
theorem d_F_addPart_13 : decode c_F_addPart 13 = .ok (.iconst 0, 1) := by decide +kernel
theorem d_F_addPart_14 : decode c_F_addPart 14 = .ok (.ireturn, 1) := by decide +kernel
theorem d_F_addPart_15 : decode c_F_addPart 15 = .ok (.iload_n 1, 1) := by decide +kernel
theorem d_F_addPart_16 : decode c_F_addPart 16 = .ok (.bipush 12, 2) := by decide +kernel
theorem d_F_addPart_18 : decode c_F_addPart 18 = .ok (.imul, 1) := by decide +kernel
theorem d_F_addPart_19 : decode c_F_addPart 19 = .ok (.istore 4, 2) := by decide +kernel
theorem d_F_addPart_21 : decode c_F_addPart 21 = .ok (.aload_n 0, 1) := by decide +kernel
theorem d_F_addPart_22 : decode c_F_addPart 22 = .ok (.iload_n 1, 1) := by decide +kernel
theorem d_F_addPart_23 : decode c_F_addPart 23 = .ok (.iload_n 2, 1) := by decide +kernel
theorem d_F_addPart_24 : decode c_F_addPart 24 = .ok (.invokevirtual 57, 3) := by decide +kernel
theorem d_F_addPart_27 : decode c_F_addPart 27 = .ok (.istore 5, 2) := by decide +kernel
theorem d_F_addPart_29 : decode c_F_addPart 29 = .ok (.iload_n 3, 1) := by decide +kernel
theorem d_F_addPart_30 : decode c_F_addPart 30 = .ok (.istore 6, 2) := by decide +kernel
theorem d_F_addPart_32 : decode c_F_addPart 32 = .ok (.iload 6, 2) := by decide +kernel
theorem d_F_addPart_34 : decode c_F_addPart 34 = .ok (.iload 5, 2) := by decide +kernel
theorem d_F_addPart_36 : decode c_F_addPart 36 = .ok (.if_icmp .le 31, 3) := by decide +kernel
theorem d_F_addPart_39 : decode c_F_addPart 39 = .ok (.aload_n 0, 1) := by decide +kernel
theorem d_F_addPart_40 : decode c_F_addPart 40 = .ok (.getfield 41, 3) := by decide +kernel
theorem d_F_addPart_43 : decode c_F_addPart 43 = .ok (.iload 4, 2) := by decide +kernel
theorem d_F_addPart_45 : decode c_F_addPart 45 = .ok (.iload 6, 2) := by decide +kernel
theorem d_F_addPart_47 : decode c_F_addPart 47 = .ok (.iadd, 1) := by decide +kernel
theorem d_F_addPart_48 : decode c_F_addPart 48 = .ok (.aload_n 0, 1) := by decide +kernel
theorem d_F_addPart_49 : decode c_F_addPart 49 = .ok (.getfield 41, 3) := by decide +kernel
theorem d_F_addPart_52 : decode c_F_addPart 52 = .ok (.iload 4, 2) := by decide +kernel
theorem d_F_addPart_54 : decode c_F_addPart 54 = .ok (.iload 6, 2) := by decide +kernel
theorem d_F_addPart_56 : decode c_F_addPart 56 = .ok (.iadd, 1) := by decide +kernel
theorem d_F_addPart_57 : decode c_F_addPart 57 = .ok (.iconst 1, 1) := by decide +kernel
theorem d_F_addPart_58 : decode c_F_addPart 58 = .ok (.isub, 1) := by decide +kernel
theorem d_F_addPart_59 : decode c_F_addPart 59 = .ok (.iaload, 1) := by decide +kernel
theorem d_F_addPart_60 : decode c_F_addPart 60 = .ok (.iastore, 1) := by decide +kernel
theorem d_F_addPart_61 : decode c_F_addPart 61 = .ok (.iinc 6 (-1), 3) := by decide +kernel
theorem d_F_addPart_64 : decode c_F_addPart 64 = .ok (.goto (-32), 3) := by decide +kernel
theorem d_F_addPart_67 : decode c_F_addPart 67 = .ok (.aload_n 0, 1) := by decide +kernel
theorem d_F_addPart_68 : decode c_F_addPart 68 = .ok (.getfield 41, 3) := by decide +kernel
theorem d_F_addPart_71 : decode c_F_addPart 71 = .ok (.iload 4, 2) := by decide +kernel
theorem d_F_addPart_73 : decode c_F_addPart 73 = .ok (.iload 5, 2) := by decide +kernel
theorem d_F_addPart_75 : decode c_F_addPart 75 = .ok (.iadd, 1) := by decide +kernel
theorem d_F_addPart_76 : decode c_F_addPart 76 = .ok (.iload_n 2, 1) := by decide +kernel
theorem d_F_addPart_77 : decode c_F_addPart 77 = .ok (.iastore, 1) := by decide +kernel
theorem d_F_addPart_78 : decode c_F_addPart 78 = .ok (.aload_n 0, 1) := by decide +kernel
theorem d_F_addPart_79 : decode c_F_addPart 79 = .ok (.getfield 38, 3) := by decide +kernel
theorem d_F_addPart_82 : decode c_F_addPart 82 = .ok (.iload_n 1, 1) := by decide +kernel
theorem d_F_addPart_83 : decode c_F_addPart 83 = .ok (.iload_n 3, 1) := by decide +kernel
theorem d_F_addPart_84 : decode c_F_addPart 84 = .ok (.iconst 1, 1) := by decide +kernel
theorem d_F_addPart_85 : decode c_F_addPart 85 = .ok (.iadd, 1) := by decide +kernel
theorem d_F_addPart_86 : decode c_F_addPart 86 = .ok (.iastore, 1) := by decide +kernel
theorem d_F_addPart_87 : decode c_F_addPart 87 = .ok (.aload_n 0, 1) := by decide +kernel
theorem d_F_addPart_88 : decode c_F_addPart 88 = .ok (.getfield 25, 3) := by decide +kernel
theorem d_F_addPart_91 : decode c_F_addPart 91 = .ok (.iload_n 1, 1) := by decide +kernel
theorem d_F_addPart_92 : decode c_F_addPart 92 = .ok (.aload_n 0, 1) := by decide +kernel
theorem d_F_addPart_93 : decode c_F_addPart 93 = .ok (.getfield 25, 3) := by decide +kernel
theorem d_F_addPart_96 : decode c_F_addPart 96 = .ok (.iload_n 1, 1) := by decide +kernel
theorem d_F_addPart_97 : decode c_F_addPart 97 = .ok (.baload, 1) := by decide +kernel
theorem d_F_addPart_98 : decode c_F_addPart 98 = .ok (.ifCond .eq 16, 3) := by decide +kernel
theorem d_F_addPart_101 : decode c_F_addPart 101 = .ok (.aload_n 0, 1) := by decide +kernel
theorem d_F_addPart_102 : decode c_F_addPart 102 = .ok (.getfield 25, 3) := by decide +kernel
theorem d_F_addPart_105 : decode c_F_addPart 105 = .ok (.iload_n 2, 1) := by decide +kernel
theorem d_F_addPart_106 : decode c_F_addPart 106 = .ok (.baload, 1) := by decide +kernel
theorem d_F_addPart_107 : decode c_F_addPart 107 = .ok (.ifCond .eq 7, 3) := by decide +kernel
theorem d_F_addPart_110 : decode c_F_addPart 110 = .ok (.iconst 1, 1) := by decide +kernel
theorem d_F_addPart_111 : decode c_F_addPart 111 = .ok (.goto 4, 3) := by decide +kernel
theorem d_F_addPart_114 : decode c_F_addPart 114 = .ok (.iconst 0, 1) := by decide +kernel
theorem d_F_addPart_115 : decode c_F_addPart 115 = .ok (.bastore, 1) := by decide +kernel
theorem d_F_addPart_116 : decode c_F_addPart 116 = .ok (.aload_n 0, 1) := by decide +kernel
theorem d_F_addPart_117 : decode c_F_addPart 117 = .ok (.getfield 32, 3) := by decide +kernel
theorem d_F_addPart_120 : decode c_F_addPart 120 = .ok (.iload_n 1, 1) := by decide +kernel
theorem d_F_addPart_121 : decode c_F_addPart 121 = .ok (.aload_n 0, 1) := by decide +kernel
theorem d_F_addPart_122 : decode c_F_addPart 122 = .ok (.getfield 32, 3) := by decide +kernel
theorem d_F_addPart_125 : decode c_F_addPart 125 = .ok (.iload_n 1, 1) := by decide +kernel
theorem d_F_addPart_126 : decode c_F_addPart 126 = .ok (.iaload, 1) := by decide +kernel
theorem d_F_addPart_127 : decode c_F_addPart 127 = .ok (.aload_n 0, 1) := by decide +kernel
theorem d_F_addPart_128 : decode c_F_addPart 128 = .ok (.getfield 32, 3) := by decide +kernel
theorem d_F_addPart_131 : decode c_F_addPart 131 = .ok (.iload_n 2, 1) := by decide +kernel
theorem d_F_addPart_132 : decode c_F_addPart 132 = .ok (.iaload, 1) := by decide +kernel
theorem d_F_addPart_133 : decode c_F_addPart 133 = .ok (.iconst 1, 1) := by decide +kernel
theorem d_F_addPart_134 : decode c_F_addPart 134 = .ok (.iadd, 1) := by decide +kernel
theorem d_F_addPart_135 : decode c_F_addPart 135 = .ok (.invokestatic 61, 3) := by decide +kernel
theorem d_F_addPart_138 : decode c_F_addPart 138 = .ok (.iastore, 1) := by decide +kernel
theorem d_F_addPart_139 : decode c_F_addPart 139 = .ok (.aload_n 0, 1) := by decide +kernel
theorem d_F_addPart_140 : decode c_F_addPart 140 = .ok (.getfield 35, 3) := by decide +kernel
theorem d_F_addPart_143 : decode c_F_addPart 143 = .ok (.iload_n 1, 1) := by decide +kernel
theorem d_F_addPart_144 : decode c_F_addPart 144 = .ok (.dup2, 1) := by decide +kernel
theorem d_F_addPart_145 : decode c_F_addPart 145 = .ok (.iaload, 1) := by decide +kernel
theorem d_F_addPart_146 : decode c_F_addPart 146 = .ok (.aload_n 0, 1) := by decide +kernel
theorem d_F_addPart_147 : decode c_F_addPart 147 = .ok (.getfield 35, 3) := by decide +kernel
theorem d_F_addPart_150 : decode c_F_addPart 150 = .ok (.iload_n 2, 1) := by decide +kernel
theorem d_F_addPart_151 : decode c_F_addPart 151 = .ok (.iaload, 1) := by decide +kernel
theorem d_F_addPart_152 : decode c_F_addPart 152 = .ok (.iadd, 1) := by decide +kernel
theorem d_F_addPart_153 : decode c_F_addPart 153 = .ok (.iastore, 1) := by decide +kernel
theorem d_F_addPart_154 : decode c_F_addPart 154 = .ok (.aload_n 0, 1) := by decide +kernel
theorem d_F_addPart_155 : decode c_F_addPart 155 = .ok (.getfield 29, 3) := by decide +kernel
theorem d_F_addPart_158 : decode c_F_addPart 158 = .ok (.iload_n 2, 1) := by decide +kernel
theorem d_F_addPart_159 : decode c_F_addPart 159 = .ok (.iconst 1, 1) := by decide +kernel
theorem d_F_addPart_160 : decode c_F_addPart 160 = .ok (.bastore, 1) := by decide +kernel
theorem d_F_addPart_161 : decode c_F_addPart 161 = .ok (.iconst 1, 1) := by decide +kernel
theorem d_F_addPart_162 : decode c_F_addPart 162 = .ok (.ireturn, 1) := by decide +kernel
theorem d_F_placeFor_0 : decode c_F_placeFor 0 = .ok (.aload_n 0, 1) := by decide +kernel
theorem d_F_placeFor_1 : decode c_F_placeFor 1 = .ok (.getfield 38, 3) := by decide +kernel
theorem d_F_placeFor_4 : decode c_F_placeFor 4 = .ok (.iload_n 1, 1) := by decide +kernel
theorem d_F_placeFor_5 : decode c_F_placeFor 5 = .ok (.iaload, 1) := by decide +kernel
theorem d_F_placeFor_6 : decode c_F_placeFor 6 = .ok (.istore_n 3, 1) := by decide +kernel
theorem d_F_placeFor_7 : decode c_F_placeFor 7 = .ok (.aload_n 0, 1) := by decide +kernel
theorem d_F_placeFor_8 : decode c_F_placeFor 8 = .ok (.iload_n 1, 1) := by decide +kernel
theorem d_F_placeFor_9 : decode c_F_placeFor 9 = .ok (.invokevirtual 66, 3) := by decide +kernel
theorem d_F_placeFor_12 : decode c_F_placeFor 12 = .ok (.ifCond .eq 21, 3) := by decide +kernel
theorem d_F_placeFor_15 : decode c_F_placeFor 15 = .ok (.aload_n 0, 1) := by decide +kernel
theorem d_F_placeFor_16 : decode c_F_placeFor 16 = .ok (.getfield 25, 3) := by decide +kernel
theorem d_F_placeFor_19 : decode c_F_placeFor 19 = .ok (.iload_n 1, 1) := by decide +kernel
theorem d_F_placeFor_20 : decode c_F_placeFor 20 = .ok (.baload, 1) := by decide +kernel
theorem d_F_placeFor_21 : decode c_F_placeFor 21 = .ok (.ifCond .eq 12, 3) := by decide +kernel
theorem d_F_placeFor_24 : decode c_F_placeFor 24 = .ok (.aload_n 0, 1) := by decide +kernel
theorem d_F_placeFor_25 : decode c_F_placeFor 25 = .ok (.getfield 25, 3) := by decide +kernel
theorem d_F_placeFor_28 : decode c_F_placeFor 28 = .ok (.iload_n 2, 1) := by decide +kernel
theorem d_F_placeFor_29 : decode c_F_placeFor 29 = .ok (.baload, 1) := by decide +kernel
theorem d_F_placeFor_30 : decode c_F_placeFor 30 = .ok (.ifCond .ne 5, 3) := by decide +kernel
theorem d_F_placeFor_33 : decode c_F_placeFor 33 = .ok (.iload_n 3, 1) := by decide +kernel
theorem d_F_placeFor_34 : decode c_F_placeFor 34 = .ok (.ireturn, 1) := by decide +kernel
theorem d_F_placeFor_35 : decode c_F_placeFor 35 = .ok (.iload_n 3, 1) := by decide +kernel
theorem d_F_placeFor_36 : decode c_F_placeFor 36 = .ok (.ifCond .le 25, 3) := by decide +kernel
theorem d_F_placeFor_39 : decode c_F_placeFor 39 = .ok (.aload_n 0, 1) := by decide +kernel
theorem d_F_placeFor_40 : decode c_F_placeFor 40 = .ok (.aload_n 0, 1) := by decide +kernel
theorem d_F_placeFor_41 : decode c_F_placeFor 41 = .ok (.iload_n 1, 1) := by decide +kernel
theorem d_F_placeFor_42 : decode c_F_placeFor 42 = .ok (.iload_n 3, 1) := by decide +kernel
theorem d_F_placeFor_43 : decode c_F_placeFor 43 = .ok (.iconst 1, 1) := by decide +kernel
theorem d_F_placeFor_44 : decode c_F_placeFor 44 = .ok (.isub, 1) := by decide +kernel
theorem d_F_placeFor_45 : decode c_F_placeFor 45 = .ok (.invokevirtual 70, 3) := by decide +kernel
theorem d_F_placeFor_48 : decode c_F_placeFor 48 = .ok (.iload_n 2, 1) := by decide +kernel
theorem d_F_placeFor_49 : decode c_F_placeFor 49 = .ok (.invokevirtual 73, 3) := by decide +kernel
theorem d_F_placeFor_52 : decode c_F_placeFor 52 = .ok (.ifCond .le 9, 3) := by decide +kernel
theorem d_F_placeFor_55 : decode c_F_placeFor 55 = .ok (.iinc 3 (-1), 3) := by decide +kernel
theorem d_F_placeFor_58 : decode c_F_placeFor 58 = .ok (.goto (-23), 3) := by decide +kernel
theorem d_F_placeFor_61 : decode c_F_placeFor 61 = .ok (.iload_n 3, 1) := by decide +kernel
theorem d_F_placeFor_62 : decode c_F_placeFor 62 = .ok (.ireturn, 1) := by decide +kernel
theorem d_F_compare_0 : decode c_F_compare 0 = .ok (.aload_n 0, 1) := by decide +kernel
theorem d_F_compare_1 : decode c_F_compare 1 = .ok (.iload_n 1, 1) := by decide +kernel
theorem d_F_compare_2 : decode c_F_compare 2 = .ok (.iload_n 2, 1) := by decide +kernel
theorem d_F_compare_3 : decode c_F_compare 3 = .ok (.iconst 0, 1) := by decide +kernel
theorem d_F_compare_4 : decode c_F_compare 4 = .ok (.invokestatic 76, 3) := by decide +kernel
theorem d_F_compare_7 : decode c_F_compare 7 = .ok (.ireturn, 1) := by decide +kernel
theorem d_F_compareFrom_0 : decode c_F_compareFrom 0 = .ok (.iload_n 1, 1) := by decide +kernel
theorem d_F_compareFrom_1 : decode c_F_compareFrom 1 = .ok (.iload_n 2, 1) := by decide +kernel
theorem d_F_compareFrom_2 : decode c_F_compareFrom 2 = .ok (.if_icmp .eq 9, 3) := by decide +kernel
theorem d_F_compareFrom_5 : decode c_F_compareFrom 5 = .ok (.iload_n 3, 1) := by decide +kernel
theorem d_F_compareFrom_6 : decode c_F_compareFrom 6 = .ok (.bipush 20, 2) := by decide +kernel
theorem d_F_compareFrom_8 : decode c_F_compareFrom 8 = .ok (.if_icmp .le 5, 3) := by decide +kernel
theorem d_F_compareFrom_11 : decode c_F_compareFrom 11 = .ok (.iconst 0, 1) := by decide +kernel
theorem d_F_compareFrom_12 : decode c_F_compareFrom 12 = .ok (.ireturn, 1) := by decide +kernel
theorem d_F_compareFrom_13 : decode c_F_compareFrom 13 = .ok (.aload_n 0, 1) := by decide +kernel
theorem d_F_compareFrom_14 : decode c_F_compareFrom 14 = .ok (.getfield 15, 3) := by decide +kernel
theorem d_F_compareFrom_17 : decode c_F_compareFrom 17 = .ok (.iload_n 1, 1) := by decide +kernel
theorem d_F_compareFrom_18 : decode c_F_compareFrom 18 = .ok (.iaload, 1) := by decide +kernel
theorem d_F_compareFrom_19 : decode c_F_compareFrom 19 = .ok (.aload_n 0, 1) := by decide +kernel
theorem d_F_compareFrom_20 : decode c_F_compareFrom 20 = .ok (.getfield 15, 3) := by decide +kernel
theorem d_F_compareFrom_23 : decode c_F_compareFrom 23 = .ok (.iload_n 2, 1) := by decide +kernel
theorem d_F_compareFrom_24 : decode c_F_compareFrom 24 = .ok (.iaload, 1) := by decide +kernel
theorem d_F_compareFrom_25 : decode c_F_compareFrom 25 = .ok (.if_icmp .eq 24, 3) := by decide +kernel
theorem d_F_compareFrom_28 : decode c_F_compareFrom 28 = .ok (.aload_n 0, 1) := by decide +kernel
theorem d_F_compareFrom_29 : decode c_F_compareFrom 29 = .ok (.getfield 15, 3) := by decide +kernel
theorem d_F_compareFrom_32 : decode c_F_compareFrom 32 = .ok (.iload_n 1, 1) := by decide +kernel
theorem d_F_compareFrom_33 : decode c_F_compareFrom 33 = .ok (.iaload, 1) := by decide +kernel
theorem d_F_compareFrom_34 : decode c_F_compareFrom 34 = .ok (.aload_n 0, 1) := by decide +kernel
theorem d_F_compareFrom_35 : decode c_F_compareFrom 35 = .ok (.getfield 15, 3) := by decide +kernel
theorem d_F_compareFrom_38 : decode c_F_compareFrom 38 = .ok (.iload_n 2, 1) := by decide +kernel
theorem d_F_compareFrom_39 : decode c_F_compareFrom 39 = .ok (.iaload, 1) := by decide +kernel
theorem d_F_compareFrom_40 : decode c_F_compareFrom 40 = .ok (.if_icmp .ge 7, 3) := by decide +kernel
theorem d_F_compareFrom_43 : decode c_F_compareFrom 43 = .ok (.iconst (-1), 1) := by decide +kernel
theorem d_F_compareFrom_44 : decode c_F_compareFrom 44 = .ok (.goto 4, 3) := by decide +kernel
theorem d_F_compareFrom_47 : decode c_F_compareFrom 47 = .ok (.iconst 1, 1) := by decide +kernel
theorem d_F_compareFrom_48 : decode c_F_compareFrom 48 = .ok (.ireturn, 1) := by decide +kernel
theorem d_F_compareFrom_49 : decode c_F_compareFrom 49 = .ok (.aload_n 0, 1) := by decide +kernel
theorem d_F_compareFrom_50 : decode c_F_compareFrom 50 = .ok (.getfield 19, 3) := by decide +kernel
theorem d_F_compareFrom_53 : decode c_F_compareFrom 53 = .ok (.iload_n 1, 1) := by decide +kernel
theorem d_F_compareFrom_54 : decode c_F_compareFrom 54 = .ok (.iaload, 1) := by decide +kernel
theorem d_F_compareFrom_55 : decode c_F_compareFrom 55 = .ok (.aload_n 0, 1) := by decide +kernel
theorem d_F_compareFrom_56 : decode c_F_compareFrom 56 = .ok (.getfield 19, 3) := by decide +kernel
theorem d_F_compareFrom_59 : decode c_F_compareFrom 59 = .ok (.iload_n 2, 1) := by decide +kernel
theorem d_F_compareFrom_60 : decode c_F_compareFrom 60 = .ok (.iaload, 1) := by decide +kernel
theorem d_F_compareFrom_61 : decode c_F_compareFrom 61 = .ok (.if_icmp .eq 24, 3) := by decide +kernel
theorem d_F_compareFrom_64 : decode c_F_compareFrom 64 = .ok (.aload_n 0, 1) := by decide +kernel
theorem d_F_compareFrom_65 : decode c_F_compareFrom 65 = .ok (.getfield 19, 3) := by decide +kernel
theorem d_F_compareFrom_68 : decode c_F_compareFrom 68 = .ok (.iload_n 1, 1) := by decide +kernel
theorem d_F_compareFrom_69 : decode c_F_compareFrom 69 = .ok (.iaload, 1) := by decide +kernel
theorem d_F_compareFrom_70 : decode c_F_compareFrom 70 = .ok (.aload_n 0, 1) := by decide +kernel
theorem d_F_compareFrom_71 : decode c_F_compareFrom 71 = .ok (.getfield 19, 3) := by decide +kernel
theorem d_F_compareFrom_74 : decode c_F_compareFrom 74 = .ok (.iload_n 2, 1) := by decide +kernel
theorem d_F_compareFrom_75 : decode c_F_compareFrom 75 = .ok (.iaload, 1) := by decide +kernel
theorem d_F_compareFrom_76 : decode c_F_compareFrom 76 = .ok (.if_icmp .ge 7, 3) := by decide +kernel
theorem d_F_compareFrom_79 : decode c_F_compareFrom 79 = .ok (.iconst (-1), 1) := by decide +kernel
theorem d_F_compareFrom_80 : decode c_F_compareFrom 80 = .ok (.goto 4, 3) := by decide +kernel
theorem d_F_compareFrom_83 : decode c_F_compareFrom 83 = .ok (.iconst 1, 1) := by decide +kernel
theorem d_F_compareFrom_84 : decode c_F_compareFrom 84 = .ok (.ireturn, 1) := by decide +kernel
theorem d_F_compareFrom_85 : decode c_F_compareFrom 85 = .ok (.aload_n 0, 1) := by decide +kernel
theorem d_F_compareFrom_86 : decode c_F_compareFrom 86 = .ok (.getfield 38, 3) := by decide +kernel
theorem d_F_compareFrom_89 : decode c_F_compareFrom 89 = .ok (.iload_n 1, 1) := by decide +kernel
theorem d_F_compareFrom_90 : decode c_F_compareFrom 90 = .ok (.iaload, 1) := by decide +kernel
theorem d_F_compareFrom_91 : decode c_F_compareFrom 91 = .ok (.istore 4, 2) := by decide +kernel
theorem d_F_compareFrom_93 : decode c_F_compareFrom 93 = .ok (.iload 4, 2) := by decide +kernel
theorem d_F_compareFrom_95 : decode c_F_compareFrom 95 = .ok (.aload_n 0, 1) := by decide +kernel
theorem d_F_compareFrom_96 : decode c_F_compareFrom 96 = .ok (.getfield 38, 3) := by decide +kernel
theorem d_F_compareFrom_99 : decode c_F_compareFrom 99 = .ok (.iload_n 2, 1) := by decide +kernel
theorem d_F_compareFrom_100 : decode c_F_compareFrom 100 = .ok (.iaload, 1) := by decide +kernel
theorem d_F_compareFrom_101 : decode c_F_compareFrom 101 = .ok (.if_icmp .eq 20, 3) := by decide +kernel
theorem d_F_compareFrom_104 : decode c_F_compareFrom 104 = .ok (.iload 4, 2) := by decide +kernel
theorem d_F_compareFrom_106 : decode c_F_compareFrom 106 = .ok (.aload_n 0, 1) := by decide +kernel
theorem d_F_compareFrom_107 : decode c_F_compareFrom 107 = .ok (.getfield 38, 3) := by decide +kernel
theorem d_F_compareFrom_110 : decode c_F_compareFrom 110 = .ok (.iload_n 2, 1) := by decide +kernel
theorem d_F_compareFrom_111 : decode c_F_compareFrom 111 = .ok (.iaload, 1) := by decide +kernel
theorem d_F_compareFrom_112 : decode c_F_compareFrom 112 = .ok (.if_icmp .ge 7, 3) := by decide +kernel
theorem d_F_compareFrom_115 : decode c_F_compareFrom 115 = .ok (.iconst (-1), 1) := by decide +kernel
theorem d_F_compareFrom_116 : decode c_F_compareFrom 116 = .ok (.goto 4, 3) := by decide +kernel
theorem d_F_compareFrom_119 : decode c_F_compareFrom 119 = .ok (.iconst 1, 1) := by decide +kernel
theorem d_F_compareFrom_120 : decode c_F_compareFrom 120 = .ok (.ireturn, 1) := by decide +kernel
theorem d_F_compareFrom_121 : decode c_F_compareFrom 121 = .ok (.iconst 0, 1) := by decide +kernel
theorem d_F_compareFrom_122 : decode c_F_compareFrom 122 = .ok (.istore 5, 2) := by decide +kernel
theorem d_F_compareFrom_124 : decode c_F_compareFrom 124 = .ok (.iload 5, 2) := by decide +kernel
theorem d_F_compareFrom_126 : decode c_F_compareFrom 126 = .ok (.iload 4, 2) := by decide +kernel
theorem d_F_compareFrom_128 : decode c_F_compareFrom 128 = .ok (.if_icmp .ge 58, 3) := by decide +kernel
theorem d_F_compareFrom_131 : decode c_F_compareFrom 131 = .ok (.aload_n 0, 1) := by decide +kernel
theorem d_F_compareFrom_132 : decode c_F_compareFrom 132 = .ok (.getfield 41, 3) := by decide +kernel
theorem d_F_compareFrom_135 : decode c_F_compareFrom 135 = .ok (.iload_n 1, 1) := by decide +kernel
theorem d_F_compareFrom_136 : decode c_F_compareFrom 136 = .ok (.bipush 12, 2) := by decide +kernel
theorem d_F_compareFrom_138 : decode c_F_compareFrom 138 = .ok (.imul, 1) := by decide +kernel
theorem d_F_compareFrom_139 : decode c_F_compareFrom 139 = .ok (.iload 5, 2) := by decide +kernel
theorem d_F_compareFrom_141 : decode c_F_compareFrom 141 = .ok (.iadd, 1) := by decide +kernel
theorem d_F_compareFrom_142 : decode c_F_compareFrom 142 = .ok (.iaload, 1) := by decide +kernel
theorem d_F_compareFrom_143 : decode c_F_compareFrom 143 = .ok (.istore 6, 2) := by decide +kernel
theorem d_F_compareFrom_145 : decode c_F_compareFrom 145 = .ok (.aload_n 0, 1) := by decide +kernel
theorem d_F_compareFrom_146 : decode c_F_compareFrom 146 = .ok (.getfield 41, 3) := by decide +kernel
theorem d_F_compareFrom_149 : decode c_F_compareFrom 149 = .ok (.iload_n 2, 1) := by decide +kernel
theorem d_F_compareFrom_150 : decode c_F_compareFrom 150 = .ok (.bipush 12, 2) := by decide +kernel
theorem d_F_compareFrom_152 : decode c_F_compareFrom 152 = .ok (.imul, 1) := by decide +kernel
theorem d_F_compareFrom_153 : decode c_F_compareFrom 153 = .ok (.iload 5, 2) := by decide +kernel
theorem d_F_compareFrom_155 : decode c_F_compareFrom 155 = .ok (.iadd, 1) := by decide +kernel
theorem d_F_compareFrom_156 : decode c_F_compareFrom 156 = .ok (.iaload, 1) := by decide +kernel
theorem d_F_compareFrom_157 : decode c_F_compareFrom 157 = .ok (.istore 7, 2) := by decide +kernel
theorem d_F_compareFrom_159 : decode c_F_compareFrom 159 = .ok (.aload_n 0, 1) := by decide +kernel
theorem d_F_compareFrom_160 : decode c_F_compareFrom 160 = .ok (.iload 6, 2) := by decide +kernel
theorem d_F_compareFrom_162 : decode c_F_compareFrom 162 = .ok (.iload 7, 2) := by decide +kernel
theorem d_F_compareFrom_164 : decode c_F_compareFrom 164 = .ok (.iload_n 3, 1) := by decide +kernel
theorem d_F_compareFrom_165 : decode c_F_compareFrom 165 = .ok (.iconst 1, 1) := by decide +kernel
theorem d_F_compareFrom_166 : decode c_F_compareFrom 166 = .ok (.iadd, 1) := by decide +kernel
theorem d_F_compareFrom_167 : decode c_F_compareFrom 167 = .ok (.invokestatic 76, 3) := by decide +kernel
theorem d_F_compareFrom_170 : decode c_F_compareFrom 170 = .ok (.istore 8, 2) := by decide +kernel
theorem d_F_compareFrom_172 : decode c_F_compareFrom 172 = .ok (.iload 8, 2) := by decide +kernel
theorem d_F_compareFrom_174 : decode c_F_compareFrom 174 = .ok (.ifCond .eq 6, 3) := by decide +kernel
theorem d_F_compareFrom_177 : decode c_F_compareFrom 177 = .ok (.iload 8, 2) := by decide +kernel
theorem d_F_compareFrom_179 : decode c_F_compareFrom 179 = .ok (.ireturn, 1) := by decide +kernel
theorem d_F_compareFrom_180 : decode c_F_compareFrom 180 = .ok (.iinc 5 1, 3) := by decide +kernel
theorem d_F_compareFrom_183 : decode c_F_compareFrom 183 = .ok (.goto (-59), 3) := by decide +kernel
theorem d_F_compareFrom_186 : decode c_F_compareFrom 186 = .ok (.iconst 0, 1) := by decide +kernel
theorem d_F_compareFrom_187 : decode c_F_compareFrom 187 = .ok (.ireturn, 1) := by decide +kernel
theorem d_F_addTest_0 : decode c_F_addTest 0 = .ok (.aload_n 0, 1) := by decide +kernel
theorem d_F_addTest_1 : decode c_F_addTest 1 = .ok (.getfield 44, 3) := by decide +kernel
theorem d_F_addTest_4 : decode c_F_addTest 4 = .ok (.iload_n 1, 1) := by decide +kernel
theorem d_F_addTest_5 : decode c_F_addTest 5 = .ok (.iaload, 1) := by decide +kernel
theorem d_F_addTest_6 : decode c_F_addTest 6 = .ok (.istore 4, 2) := by decide +kernel
theorem d_F_addTest_8 : decode c_F_addTest 8 = .ok (.iload 4, 2) := by decide +kernel
theorem d_F_addTest_10 : decode c_F_addTest 10 = .ok (.iconst 3, 1) := by decide +kernel
theorem d_F_addTest_11 : decode c_F_addTest 11 = .ok (.if_icmp .lt 5, 3) := by decide +kernel
theorem d_F_addTest_14 : decode c_F_addTest 14 = .ok (.iconst 0, 1) := by decide +kernel
theorem d_F_addTest_15 : decode c_F_addTest 15 = .ok (.ireturn, 1) := by decide +kernel
theorem d_F_addTest_16 : decode c_F_addTest 16 = .ok (.aload_n 0, 1) := by decide +kernel
theorem d_F_addTest_17 : decode c_F_addTest 17 = .ok (.getfield 47, 3) := by decide +kernel
theorem d_F_addTest_20 : decode c_F_addTest 20 = .ok (.iload_n 1, 1) := by decide +kernel
theorem d_F_addTest_21 : decode c_F_addTest 21 = .ok (.iconst 3, 1) := by decide +kernel
theorem d_F_addTest_22 : decode c_F_addTest 22 = .ok (.imul, 1) := by decide +kernel
theorem d_F_addTest_23 : decode c_F_addTest 23 = .ok (.iload 4, 2) := by decide +kernel
theorem d_F_addTest_25 : decode c_F_addTest 25 = .ok (.iadd, 1) := by decide +kernel
theorem d_F_addTest_26 : decode c_F_addTest 26 = .ok (.iload_n 2, 1) := by decide +kernel
theorem d_F_addTest_27 : decode c_F_addTest 27 = .ok (.iastore, 1) := by decide +kernel
theorem d_F_addTest_28 : decode c_F_addTest 28 = .ok (.aload_n 0, 1) := by decide +kernel
theorem d_F_addTest_29 : decode c_F_addTest 29 = .ok (.getfield 50, 3) := by decide +kernel
theorem d_F_addTest_32 : decode c_F_addTest 32 = .ok (.iload_n 1, 1) := by decide +kernel
theorem d_F_addTest_33 : decode c_F_addTest 33 = .ok (.iconst 3, 1) := by decide +kernel
theorem d_F_addTest_34 : decode c_F_addTest 34 = .ok (.imul, 1) := by decide +kernel
theorem d_F_addTest_35 : decode c_F_addTest 35 = .ok (.iload 4, 2) := by decide +kernel
theorem d_F_addTest_37 : decode c_F_addTest 37 = .ok (.iadd, 1) := by decide +kernel
theorem d_F_addTest_38 : decode c_F_addTest 38 = .ok (.iload_n 3, 1) := by decide +kernel
theorem d_F_addTest_39 : decode c_F_addTest 39 = .ok (.iastore, 1) := by decide +kernel
theorem d_F_addTest_40 : decode c_F_addTest 40 = .ok (.aload_n 0, 1) := by decide +kernel
theorem d_F_addTest_41 : decode c_F_addTest 41 = .ok (.getfield 44, 3) := by decide +kernel
theorem d_F_addTest_44 : decode c_F_addTest 44 = .ok (.iload_n 1, 1) := by decide +kernel
theorem d_F_addTest_45 : decode c_F_addTest 45 = .ok (.iload 4, 2) := by decide +kernel
theorem d_F_addTest_47 : decode c_F_addTest 47 = .ok (.iconst 1, 1) := by decide +kernel
theorem d_F_addTest_48 : decode c_F_addTest 48 = .ok (.iadd, 1) := by decide +kernel
theorem d_F_addTest_49 : decode c_F_addTest 49 = .ok (.iastore, 1) := by decide +kernel
theorem d_F_addTest_50 : decode c_F_addTest 50 = .ok (.iconst 1, 1) := by decide +kernel
theorem d_F_addTest_51 : decode c_F_addTest 51 = .ok (.ireturn, 1) := by decide +kernel
theorem d_F_passesTests_0 : decode c_F_passesTests 0 = .ok (.iconst 0, 1) := by decide +kernel
theorem d_F_passesTests_1 : decode c_F_passesTests 1 = .ok (.istore 4, 2) := by decide +kernel
theorem d_F_passesTests_3 : decode c_F_passesTests 3 = .ok (.iload 4, 2) := by decide +kernel
theorem d_F_passesTests_5 : decode c_F_passesTests 5 = .ok (.aload_n 0, 1) := by decide +kernel
theorem d_F_passesTests_6 : decode c_F_passesTests 6 = .ok (.getfield 44, 3) := by decide +kernel
theorem d_F_passesTests_9 : decode c_F_passesTests 9 = .ok (.iload_n 1, 1) := by decide +kernel
theorem d_F_passesTests_10 : decode c_F_passesTests 10 = .ok (.iaload, 1) := by decide +kernel
theorem d_F_passesTests_11 : decode c_F_passesTests 11 = .ok (.if_icmp .ge 42, 3) := by decide +kernel
theorem d_F_passesTests_14 : decode c_F_passesTests 14 = .ok (.iload_n 1, 1) := by decide +kernel
theorem d_F_passesTests_15 : decode c_F_passesTests 15 = .ok (.iconst 3, 1) := by decide +kernel
theorem d_F_passesTests_16 : decode c_F_passesTests 16 = .ok (.imul, 1) := by decide +kernel
theorem d_F_passesTests_17 : decode c_F_passesTests 17 = .ok (.iload 4, 2) := by decide +kernel
theorem d_F_passesTests_19 : decode c_F_passesTests 19 = .ok (.iadd, 1) := by decide +kernel
theorem d_F_passesTests_20 : decode c_F_passesTests 20 = .ok (.istore 5, 2) := by decide +kernel
theorem d_F_passesTests_22 : decode c_F_passesTests 22 = .ok (.aload_n 0, 1) := by decide +kernel
theorem d_F_passesTests_23 : decode c_F_passesTests 23 = .ok (.aload_n 0, 1) := by decide +kernel
theorem d_F_passesTests_24 : decode c_F_passesTests 24 = .ok (.getfield 47, 3) := by decide +kernel
theorem d_F_passesTests_27 : decode c_F_passesTests 27 = .ok (.iload 5, 2) := by decide +kernel
theorem d_F_passesTests_29 : decode c_F_passesTests 29 = .ok (.iaload, 1) := by decide +kernel
theorem d_F_passesTests_30 : decode c_F_passesTests 30 = .ok (.aload_n 0, 1) := by decide +kernel
theorem d_F_passesTests_31 : decode c_F_passesTests 31 = .ok (.getfield 50, 3) := by decide +kernel
theorem d_F_passesTests_34 : decode c_F_passesTests 34 = .ok (.iload 5, 2) := by decide +kernel
theorem d_F_passesTests_36 : decode c_F_passesTests 36 = .ok (.iaload, 1) := by decide +kernel
theorem d_F_passesTests_37 : decode c_F_passesTests 37 = .ok (.aload_n 2, 1) := by decide +kernel
theorem d_F_passesTests_38 : decode c_F_passesTests 38 = .ok (.iload_n 3, 1) := by decide +kernel
theorem d_F_passesTests_39 : decode c_F_passesTests 39 = .ok (.invokevirtual 80, 3) := by decide +kernel
theorem d_F_passesTests_42 : decode c_F_passesTests 42 = .ok (.ifCond .ne 5, 3) := by decide +kernel
theorem d_F_passesTests_45 : decode c_F_passesTests 45 = .ok (.iconst 0, 1) := by decide +kernel
theorem d_F_passesTests_46 : decode c_F_passesTests 46 = .ok (.ireturn, 1) := by decide +kernel
theorem d_F_passesTests_47 : decode c_F_passesTests 47 = .ok (.iinc 4 1, 3) := by decide +kernel
theorem d_F_passesTests_50 : decode c_F_passesTests 50 = .ok (.goto (-47), 3) := by decide +kernel
theorem d_F_passesTests_53 : decode c_F_passesTests 53 = .ok (.iconst 1, 1) := by decide +kernel
theorem d_F_passesTests_54 : decode c_F_passesTests 54 = .ok (.ireturn, 1) := by decide +kernel
theorem d_F_passes_0 : decode c_F_passes 0 = .ok (.iload_n 1, 1) := by decide +kernel
theorem d_F_passes_1 : decode c_F_passes 1 = .ok (.iconst 2, 1) := by decide +kernel
theorem d_F_passes_2 : decode c_F_passes 2 = .ok (.if_icmp .ne 15, 3) := by decide +kernel
theorem d_F_passes_5 : decode c_F_passes 5 = .ok (.iload 4, 2) := by decide +kernel
theorem d_F_passes_7 : decode c_F_passes 7 = .ok (.iload_n 2, 1) := by decide +kernel
theorem d_F_passes_8 : decode c_F_passes 8 = .ok (.if_icmp .lt 7, 3) := by decide +kernel
theorem d_F_passes_11 : decode c_F_passes 11 = .ok (.iconst 1, 1) := by decide +kernel
theorem d_F_passes_12 : decode c_F_passes 12 = .ok (.goto 4, 3) := by decide +kernel
theorem d_F_passes_15 : decode c_F_passes 15 = .ok (.iconst 0, 1) := by decide +kernel
theorem d_F_passes_16 : decode c_F_passes 16 = .ok (.ireturn, 1) := by decide +kernel
theorem d_F_passes_17 : decode c_F_passes 17 = .ok (.iload 4, 2) := by decide +kernel
theorem d_F_passes_19 : decode c_F_passes 19 = .ok (.iconst 1, 1) := by decide +kernel
theorem d_F_passes_20 : decode c_F_passes 20 = .ok (.if_icmp .eq 5, 3) := by decide +kernel
theorem d_F_passes_23 : decode c_F_passes 23 = .ok (.iconst 0, 1) := by decide +kernel
theorem d_F_passes_24 : decode c_F_passes 24 = .ok (.ireturn, 1) := by decide +kernel
theorem d_F_passes_25 : decode c_F_passes 25 = .ok (.aload_n 3, 1) := by decide +kernel
theorem d_F_passes_26 : decode c_F_passes 26 = .ok (.iconst 0, 1) := by decide +kernel
theorem d_F_passes_27 : decode c_F_passes 27 = .ok (.iaload, 1) := by decide +kernel
theorem d_F_passes_28 : decode c_F_passes 28 = .ok (.istore 5, 2) := by decide +kernel
theorem d_F_passes_30 : decode c_F_passes 30 = .ok (.iload_n 1, 1) := by decide +kernel
theorem d_F_passes_31 : decode c_F_passes 31 = .ok (.tableswitch 107 0 3 #[29, 55, 107, 81], 29) := by decide +kernel
theorem d_F_passes_60 : decode c_F_passes 60 = .ok (.aload_n 0, 1) := by decide +kernel
theorem d_F_passes_61 : decode c_F_passes 61 = .ok (.iload 5, 2) := by decide +kernel
theorem d_F_passes_63 : decode c_F_passes 63 = .ok (.invokevirtual 84, 3) := by decide +kernel
theorem d_F_passes_66 : decode c_F_passes 66 = .ok (.ifCond .eq 18, 3) := by decide +kernel
theorem d_F_passes_69 : decode c_F_passes 69 = .ok (.aload_n 0, 1) := by decide +kernel
theorem d_F_passes_70 : decode c_F_passes 70 = .ok (.getfield 19, 3) := by decide +kernel
theorem d_F_passes_73 : decode c_F_passes 73 = .ok (.iload 5, 2) := by decide +kernel
theorem d_F_passes_75 : decode c_F_passes 75 = .ok (.iaload, 1) := by decide +kernel
theorem d_F_passes_76 : decode c_F_passes 76 = .ok (.iload_n 2, 1) := by decide +kernel
theorem d_F_passes_77 : decode c_F_passes 77 = .ok (.if_icmp .le 7, 3) := by decide +kernel
theorem d_F_passes_80 : decode c_F_passes 80 = .ok (.iconst 1, 1) := by decide +kernel
theorem d_F_passes_81 : decode c_F_passes 81 = .ok (.goto 4, 3) := by decide +kernel
theorem d_F_passes_84 : decode c_F_passes 84 = .ok (.iconst 0, 1) := by decide +kernel
theorem d_F_passes_85 : decode c_F_passes 85 = .ok (.ireturn, 1) := by decide +kernel
theorem d_F_passes_86 : decode c_F_passes 86 = .ok (.aload_n 0, 1) := by decide +kernel
theorem d_F_passes_87 : decode c_F_passes 87 = .ok (.iload 5, 2) := by decide +kernel
theorem d_F_passes_89 : decode c_F_passes 89 = .ok (.invokevirtual 84, 3) := by decide +kernel
theorem d_F_passes_92 : decode c_F_passes 92 = .ok (.ifCond .eq 18, 3) := by decide +kernel
theorem d_F_passes_95 : decode c_F_passes 95 = .ok (.aload_n 0, 1) := by decide +kernel
theorem d_F_passes_96 : decode c_F_passes 96 = .ok (.getfield 19, 3) := by decide +kernel
theorem d_F_passes_99 : decode c_F_passes 99 = .ok (.iload 5, 2) := by decide +kernel
theorem d_F_passes_101 : decode c_F_passes 101 = .ok (.iaload, 1) := by decide +kernel
theorem d_F_passes_102 : decode c_F_passes 102 = .ok (.iload_n 2, 1) := by decide +kernel
theorem d_F_passes_103 : decode c_F_passes 103 = .ok (.if_icmp .ge 7, 3) := by decide +kernel
theorem d_F_passes_106 : decode c_F_passes 106 = .ok (.iconst 1, 1) := by decide +kernel
theorem d_F_passes_107 : decode c_F_passes 107 = .ok (.goto 4, 3) := by decide +kernel
theorem d_F_passes_110 : decode c_F_passes 110 = .ok (.iconst 0, 1) := by decide +kernel
theorem d_F_passes_111 : decode c_F_passes 111 = .ok (.ireturn, 1) := by decide +kernel
theorem d_F_passes_112 : decode c_F_passes 112 = .ok (.aload_n 0, 1) := by decide +kernel
theorem d_F_passes_113 : decode c_F_passes 113 = .ok (.iload 5, 2) := by decide +kernel
theorem d_F_passes_115 : decode c_F_passes 115 = .ok (.invokevirtual 87, 3) := by decide +kernel
theorem d_F_passes_118 : decode c_F_passes 118 = .ok (.ifCond .eq 18, 3) := by decide +kernel
theorem d_F_passes_121 : decode c_F_passes 121 = .ok (.aload_n 0, 1) := by decide +kernel
theorem d_F_passes_122 : decode c_F_passes 122 = .ok (.getfield 19, 3) := by decide +kernel
theorem d_F_passes_125 : decode c_F_passes 125 = .ok (.iload 5, 2) := by decide +kernel
theorem d_F_passes_127 : decode c_F_passes 127 = .ok (.iaload, 1) := by decide +kernel
theorem d_F_passes_128 : decode c_F_passes 128 = .ok (.iload_n 2, 1) := by decide +kernel
theorem d_F_passes_129 : decode c_F_passes 129 = .ok (.if_icmp .ne 7, 3) := by decide +kernel
theorem d_F_passes_132 : decode c_F_passes 132 = .ok (.iconst 1, 1) := by decide +kernel
theorem d_F_passes_133 : decode c_F_passes 133 = .ok (.goto 4, 3) := by decide +kernel
theorem d_F_passes_136 : decode c_F_passes 136 = .ok (.iconst 0, 1) := by decide +kernel
theorem d_F_passes_137 : decode c_F_passes 137 = .ok (.ireturn, 1) := by decide +kernel
theorem d_F_passes_138 : decode c_F_passes 138 = .ok (.aload_n 0, 1) := by decide +kernel
theorem d_F_passes_139 : decode c_F_passes 139 = .ok (.iload 5, 2) := by decide +kernel
theorem d_F_passes_141 : decode c_F_passes 141 = .ok (.invokevirtual 84, 3) := by decide +kernel
theorem d_F_passes_144 : decode c_F_passes 144 = .ok (.ifCond .ne 7, 3) := by decide +kernel
theorem d_F_passes_147 : decode c_F_passes 147 = .ok (.iconst 1, 1) := by decide +kernel
theorem d_F_passes_148 : decode c_F_passes 148 = .ok (.goto 4, 3) := by decide +kernel
theorem d_F_passes_151 : decode c_F_passes 151 = .ok (.iconst 0, 1) := by decide +kernel
theorem d_F_passes_152 : decode c_F_passes 152 = .ok (.ireturn, 1) := by decide +kernel
theorem d_F_mayMatch_0 : decode c_F_mayMatch 0 = .ok (.aload_n 0, 1) := by decide +kernel
theorem d_F_mayMatch_1 : decode c_F_mayMatch 1 = .ok (.iload_n 1, 1) := by decide +kernel
theorem d_F_mayMatch_2 : decode c_F_mayMatch 2 = .ok (.invokevirtual 90, 3) := by decide +kernel
theorem d_F_mayMatch_5 : decode c_F_mayMatch 5 = .ok (.ifCond .eq 27, 3) := by decide +kernel
theorem d_F_mayMatch_8 : decode c_F_mayMatch 8 = .ok (.aload_n 0, 1) := by decide +kernel
theorem d_F_mayMatch_9 : decode c_F_mayMatch 9 = .ok (.getfield 22, 3) := by decide +kernel
theorem d_F_mayMatch_12 : decode c_F_mayMatch 12 = .ok (.iload_n 1, 1) := by decide +kernel
theorem d_F_mayMatch_13 : decode c_F_mayMatch 13 = .ok (.iaload, 1) := by decide +kernel
theorem d_F_mayMatch_14 : decode c_F_mayMatch 14 = .ok (.iconst 1, 1) := by decide +kernel
theorem d_F_mayMatch_15 : decode c_F_mayMatch 15 = .ok (.if_icmp .ne 11, 3) := by decide +kernel
theorem d_F_mayMatch_18 : decode c_F_mayMatch 18 = .ok (.aload_n 0, 1) := by decide +kernel
theorem d_F_mayMatch_19 : decode c_F_mayMatch 19 = .ok (.iload_n 2, 1) := by decide +kernel
theorem d_F_mayMatch_20 : decode c_F_mayMatch 20 = .ok (.invokevirtual 84, 3) := by decide +kernel
theorem d_F_mayMatch_23 : decode c_F_mayMatch 23 = .ok (.ifCond .eq 7, 3) := by decide +kernel
theorem d_F_mayMatch_26 : decode c_F_mayMatch 26 = .ok (.iconst 1, 1) := by decide +kernel
theorem d_F_mayMatch_27 : decode c_F_mayMatch 27 = .ok (.goto 4, 3) := by decide +kernel
theorem d_F_mayMatch_30 : decode c_F_mayMatch 30 = .ok (.iconst 0, 1) := by decide +kernel
theorem d_F_mayMatch_31 : decode c_F_mayMatch 31 = .ok (.ireturn, 1) := by decide +kernel
theorem d_F_mayMatch_32 : decode c_F_mayMatch 32 = .ok (.aload_n 0, 1) := by decide +kernel
theorem d_F_mayMatch_33 : decode c_F_mayMatch 33 = .ok (.iload_n 1, 1) := by decide +kernel
theorem d_F_mayMatch_34 : decode c_F_mayMatch 34 = .ok (.iload_n 2, 1) := by decide +kernel
theorem d_F_mayMatch_35 : decode c_F_mayMatch 35 = .ok (.invokevirtual 93, 3) := by decide +kernel
theorem d_F_mayMatch_38 : decode c_F_mayMatch 38 = .ok (.ifCond .ne 5, 3) := by decide +kernel
theorem d_F_mayMatch_41 : decode c_F_mayMatch 41 = .ok (.iconst 0, 1) := by decide +kernel
theorem d_F_mayMatch_42 : decode c_F_mayMatch 42 = .ok (.ireturn, 1) := by decide +kernel
theorem d_F_mayMatch_43 : decode c_F_mayMatch 43 = .ok (.aload_n 0, 1) := by decide +kernel
theorem d_F_mayMatch_44 : decode c_F_mayMatch 44 = .ok (.iload_n 1, 1) := by decide +kernel
theorem d_F_mayMatch_45 : decode c_F_mayMatch 45 = .ok (.invokevirtual 84, 3) := by decide +kernel
theorem d_F_mayMatch_48 : decode c_F_mayMatch 48 = .ok (.ifCond .ne 21, 3) := by decide +kernel
theorem d_F_mayMatch_51 : decode c_F_mayMatch 51 = .ok (.aload_n 0, 1) := by decide +kernel
theorem d_F_mayMatch_52 : decode c_F_mayMatch 52 = .ok (.iload_n 1, 1) := by decide +kernel
theorem d_F_mayMatch_53 : decode c_F_mayMatch 53 = .ok (.iload_n 2, 1) := by decide +kernel
theorem d_F_mayMatch_54 : decode c_F_mayMatch 54 = .ok (.invokevirtual 96, 3) := by decide +kernel
theorem d_F_mayMatch_57 : decode c_F_mayMatch 57 = .ok (.ifCond .eq 16, 3) := by decide +kernel
theorem d_F_mayMatch_60 : decode c_F_mayMatch 60 = .ok (.aload_n 0, 1) := by decide +kernel
theorem d_F_mayMatch_61 : decode c_F_mayMatch 61 = .ok (.iload_n 1, 1) := by decide +kernel
theorem d_F_mayMatch_62 : decode c_F_mayMatch 62 = .ok (.iload_n 2, 1) := by decide +kernel
theorem d_F_mayMatch_63 : decode c_F_mayMatch 63 = .ok (.invokevirtual 99, 3) := by decide +kernel
theorem d_F_mayMatch_66 : decode c_F_mayMatch 66 = .ok (.ifCond .eq 7, 3) := by decide +kernel
theorem d_F_mayMatch_69 : decode c_F_mayMatch 69 = .ok (.iconst 1, 1) := by decide +kernel
theorem d_F_mayMatch_70 : decode c_F_mayMatch 70 = .ok (.goto 4, 3) := by decide +kernel
theorem d_F_mayMatch_73 : decode c_F_mayMatch 73 = .ok (.iconst 0, 1) := by decide +kernel
theorem d_F_mayMatch_74 : decode c_F_mayMatch 74 = .ok (.ireturn, 1) := by decide +kernel
theorem d_F_hasFittingCount_0 : decode c_F_hasFittingCount 0 = .ok (.iconst 0, 1) := by decide +kernel
theorem d_F_hasFittingCount_1 : decode c_F_hasFittingCount 1 = .ok (.istore_n 3, 1) := by decide +kernel
theorem d_F_hasFittingCount_2 : decode c_F_hasFittingCount 2 = .ok (.iconst 0, 1) := by decide +kernel
theorem d_F_hasFittingCount_3 : decode c_F_hasFittingCount 3 = .ok (.istore 4, 2) := by decide +kernel
theorem d_F_hasFittingCount_5 : decode c_F_hasFittingCount 5 = .ok (.iconst 0, 1) := by decide +kernel
theorem d_F_hasFittingCount_6 : decode c_F_hasFittingCount 6 = .ok (.istore 5, 2) := by decide +kernel
theorem d_F_hasFittingCount_8 : decode c_F_hasFittingCount 8 = .ok (.iload 5, 2) := by decide +kernel
theorem d_F_hasFittingCount_10 : decode c_F_hasFittingCount 10 = .ok (.aload_n 0, 1) := by decide +kernel
theorem d_F_hasFittingCount_11 : decode c_F_hasFittingCount 11 = .ok (.getfield 38, 3) := by decide +kernel
theorem d_F_hasFittingCount_14 : decode c_F_hasFittingCount 14 = .ok (.iload_n 1, 1) := by decide +kernel
theorem d_F_hasFittingCount_15 : decode c_F_hasFittingCount 15 = .ok (.iaload, 1) := by decide +kernel
theorem d_F_hasFittingCount_16 : decode c_F_hasFittingCount 16 = .ok (.if_icmp .ge 52, 3) := by decide +kernel
theorem d_F_hasFittingCount_19 : decode c_F_hasFittingCount 19 = .ok (.aload_n 0, 1) := by decide +kernel
theorem d_F_hasFittingCount_20 : decode c_F_hasFittingCount 20 = .ok (.iload_n 1, 1) := by decide +kernel
theorem d_F_hasFittingCount_21 : decode c_F_hasFittingCount 21 = .ok (.iload 5, 2) := by decide +kernel
theorem d_F_hasFittingCount_23 : decode c_F_hasFittingCount 23 = .ok (.invokevirtual 70, 3) := by decide +kernel
theorem d_F_hasFittingCount_26 : decode c_F_hasFittingCount 26 = .ok (.istore 6, 2) := by decide +kernel
theorem d_F_hasFittingCount_28 : decode c_F_hasFittingCount 28 = .ok (.aload_n 0, 1) := by decide +kernel
theorem d_F_hasFittingCount_29 : decode c_F_hasFittingCount 29 = .ok (.iload 6, 2) := by decide +kernel
theorem d_F_hasFittingCount_31 : decode c_F_hasFittingCount 31 = .ok (.iconst 3, 1) := by decide +kernel
theorem d_F_hasFittingCount_32 : decode c_F_hasFittingCount 32 = .ok (.invokevirtual 53, 3) := by decide +kernel
theorem d_F_hasFittingCount_35 : decode c_F_hasFittingCount 35 = .ok (.ifCond .ne 6, 3) := by decide +kernel
theorem d_F_hasFittingCount_38 : decode c_F_hasFittingCount 38 = .ok (.iinc 3 1, 3) := by decide +kernel
theorem d_F_hasFittingCount_41 : decode c_F_hasFittingCount 41 = .ok (.iload 4, 2) := by decide +kernel
theorem d_F_hasFittingCount_43 : decode c_F_hasFittingCount 43 = .ok (.ifCond .ne 12, 3) := by decide +kernel
theorem d_F_hasFittingCount_46 : decode c_F_hasFittingCount 46 = .ok (.aload_n 0, 1) := by decide +kernel
theorem d_F_hasFittingCount_47 : decode c_F_hasFittingCount 47 = .ok (.iload 6, 2) := by decide +kernel
theorem d_F_hasFittingCount_49 : decode c_F_hasFittingCount 49 = .ok (.invokevirtual 102, 3) := by decide +kernel
theorem d_F_hasFittingCount_52 : decode c_F_hasFittingCount 52 = .ok (.ifCond .eq 7, 3) := by decide +kernel
theorem d_F_hasFittingCount_55 : decode c_F_hasFittingCount 55 = .ok (.iconst 1, 1) := by decide +kernel
theorem d_F_hasFittingCount_56 : decode c_F_hasFittingCount 56 = .ok (.goto 4, 3) := by decide +kernel
theorem d_F_hasFittingCount_59 : decode c_F_hasFittingCount 59 = .ok (.iconst 0, 1) := by decide +kernel
theorem d_F_hasFittingCount_60 : decode c_F_hasFittingCount 60 = .ok (.istore 4, 2) := by decide +kernel
theorem d_F_hasFittingCount_62 : decode c_F_hasFittingCount 62 = .ok (.iinc 5 1, 3) := by decide +kernel
theorem d_F_hasFittingCount_65 : decode c_F_hasFittingCount 65 = .ok (.goto (-57), 3) := by decide +kernel
theorem d_F_hasFittingCount_68 : decode c_F_hasFittingCount 68 = .ok (.aload_n 0, 1) := by decide +kernel
theorem d_F_hasFittingCount_69 : decode c_F_hasFittingCount 69 = .ok (.getfield 38, 3) := by decide +kernel
theorem d_F_hasFittingCount_72 : decode c_F_hasFittingCount 72 = .ok (.iload_n 2, 1) := by decide +kernel
theorem d_F_hasFittingCount_73 : decode c_F_hasFittingCount 73 = .ok (.iaload, 1) := by decide +kernel
theorem d_F_hasFittingCount_74 : decode c_F_hasFittingCount 74 = .ok (.iload_n 3, 1) := by decide +kernel
theorem d_F_hasFittingCount_75 : decode c_F_hasFittingCount 75 = .ok (.if_icmp .lt 27, 3) := by decide +kernel
theorem d_F_hasFittingCount_78 : decode c_F_hasFittingCount 78 = .ok (.iload 4, 2) := by decide +kernel
theorem d_F_hasFittingCount_80 : decode c_F_hasFittingCount 80 = .ok (.ifCond .ne 18, 3) := by decide +kernel
theorem d_F_hasFittingCount_83 : decode c_F_hasFittingCount 83 = .ok (.aload_n 0, 1) := by decide +kernel
theorem d_F_hasFittingCount_84 : decode c_F_hasFittingCount 84 = .ok (.getfield 38, 3) := by decide +kernel
theorem d_F_hasFittingCount_87 : decode c_F_hasFittingCount 87 = .ok (.iload_n 2, 1) := by decide +kernel
theorem d_F_hasFittingCount_88 : decode c_F_hasFittingCount 88 = .ok (.iaload, 1) := by decide +kernel
theorem d_F_hasFittingCount_89 : decode c_F_hasFittingCount 89 = .ok (.aload_n 0, 1) := by decide +kernel
theorem d_F_hasFittingCount_90 : decode c_F_hasFittingCount 90 = .ok (.getfield 38, 3) := by decide +kernel
theorem d_F_hasFittingCount_93 : decode c_F_hasFittingCount 93 = .ok (.iload_n 1, 1) := by decide +kernel
theorem d_F_hasFittingCount_94 : decode c_F_hasFittingCount 94 = .ok (.iaload, 1) := by decide +kernel
theorem d_F_hasFittingCount_95 : decode c_F_hasFittingCount 95 = .ok (.if_icmp .gt 7, 3) := by decide +kernel
theorem d_F_hasFittingCount_98 : decode c_F_hasFittingCount 98 = .ok (.iconst 1, 1) := by decide +kernel
theorem d_F_hasFittingCount_99 : decode c_F_hasFittingCount 99 = .ok (.goto 4, 3) := by decide +kernel
theorem d_F_hasFittingCount_102 : decode c_F_hasFittingCount 102 = .ok (.iconst 0, 1) := by decide +kernel
theorem d_F_hasFittingCount_103 : decode c_F_hasFittingCount 103 = .ok (.ireturn, 1) := by decide +kernel
theorem d_F_hasFittingStart_0 : decode c_F_hasFittingStart 0 = .ok (.aload_n 0, 1) := by decide +kernel
theorem d_F_hasFittingStart_1 : decode c_F_hasFittingStart 1 = .ok (.iload_n 1, 1) := by decide +kernel
theorem d_F_hasFittingStart_2 : decode c_F_hasFittingStart 2 = .ok (.invokevirtual 66, 3) := by decide +kernel
theorem d_F_hasFittingStart_5 : decode c_F_hasFittingStart 5 = .ok (.ifCond .ne 25, 3) := by decide +kernel
theorem d_F_hasFittingStart_8 : decode c_F_hasFittingStart 8 = .ok (.aload_n 0, 1) := by decide +kernel
theorem d_F_hasFittingStart_9 : decode c_F_hasFittingStart 9 = .ok (.getfield 38, 3) := by decide +kernel
theorem d_F_hasFittingStart_12 : decode c_F_hasFittingStart 12 = .ok (.iload_n 1, 1) := by decide +kernel
theorem d_F_hasFittingStart_13 : decode c_F_hasFittingStart 13 = .ok (.iaload, 1) := by decide +kernel
theorem d_F_hasFittingStart_14 : decode c_F_hasFittingStart 14 = .ok (.ifCond .eq 16, 3) := by decide +kernel
theorem d_F_hasFittingStart_17 : decode c_F_hasFittingStart 17 = .ok (.aload_n 0, 1) := by decide +kernel
theorem d_F_hasFittingStart_18 : decode c_F_hasFittingStart 18 = .ok (.aload_n 0, 1) := by decide +kernel
theorem d_F_hasFittingStart_19 : decode c_F_hasFittingStart 19 = .ok (.iload_n 1, 1) := by decide +kernel
theorem d_F_hasFittingStart_20 : decode c_F_hasFittingStart 20 = .ok (.iconst 0, 1) := by decide +kernel
theorem d_F_hasFittingStart_21 : decode c_F_hasFittingStart 21 = .ok (.invokevirtual 70, 3) := by decide +kernel
theorem d_F_hasFittingStart_24 : decode c_F_hasFittingStart 24 = .ok (.invokevirtual 90, 3) := by decide +kernel
theorem d_F_hasFittingStart_27 : decode c_F_hasFittingStart 27 = .ok (.ifCond .eq 5, 3) := by decide +kernel
theorem d_F_hasFittingStart_30 : decode c_F_hasFittingStart 30 = .ok (.iconst 1, 1) := by decide +kernel
theorem d_F_hasFittingStart_31 : decode c_F_hasFittingStart 31 = .ok (.ireturn, 1) := by decide +kernel
theorem d_F_hasFittingStart_32 : decode c_F_hasFittingStart 32 = .ok (.aload_n 0, 1) := by decide +kernel
theorem d_F_hasFittingStart_33 : decode c_F_hasFittingStart 33 = .ok (.getfield 38, 3) := by decide +kernel
theorem d_F_hasFittingStart_36 : decode c_F_hasFittingStart 36 = .ok (.iload_n 2, 1) := by decide +kernel
theorem d_F_hasFittingStart_37 : decode c_F_hasFittingStart 37 = .ok (.iaload, 1) := by decide +kernel
theorem d_F_hasFittingStart_38 : decode c_F_hasFittingStart 38 = .ok (.ifCond .le 26, 3) := by decide +kernel
theorem d_F_hasFittingStart_41 : decode c_F_hasFittingStart 41 = .ok (.aload_n 0, 1) := by decide +kernel
theorem d_F_hasFittingStart_42 : decode c_F_hasFittingStart 42 = .ok (.aload_n 0, 1) := by decide +kernel
theorem d_F_hasFittingStart_43 : decode c_F_hasFittingStart 43 = .ok (.iload_n 1, 1) := by decide +kernel
theorem d_F_hasFittingStart_44 : decode c_F_hasFittingStart 44 = .ok (.iconst 0, 1) := by decide +kernel
theorem d_F_hasFittingStart_45 : decode c_F_hasFittingStart 45 = .ok (.invokevirtual 70, 3) := by decide +kernel
theorem d_F_hasFittingStart_48 : decode c_F_hasFittingStart 48 = .ok (.aload_n 0, 1) := by decide +kernel
theorem d_F_hasFittingStart_49 : decode c_F_hasFittingStart 49 = .ok (.iload_n 2, 1) := by decide +kernel
theorem d_F_hasFittingStart_50 : decode c_F_hasFittingStart 50 = .ok (.iconst 0, 1) := by decide +kernel
theorem d_F_hasFittingStart_51 : decode c_F_hasFittingStart 51 = .ok (.invokevirtual 70, 3) := by decide +kernel
theorem d_F_hasFittingStart_54 : decode c_F_hasFittingStart 54 = .ok (.invokevirtual 93, 3) := by decide +kernel
theorem d_F_hasFittingStart_57 : decode c_F_hasFittingStart 57 = .ok (.ifCond .eq 7, 3) := by decide +kernel
theorem d_F_hasFittingStart_60 : decode c_F_hasFittingStart 60 = .ok (.iconst 1, 1) := by decide +kernel
theorem d_F_hasFittingStart_61 : decode c_F_hasFittingStart 61 = .ok (.goto 4, 3) := by decide +kernel
theorem d_F_hasFittingStart_64 : decode c_F_hasFittingStart 64 = .ok (.iconst 0, 1) := by decide +kernel
theorem d_F_hasFittingStart_65 : decode c_F_hasFittingStart 65 = .ok (.ireturn, 1) := by decide +kernel
theorem d_Mt_init_0 : decode c_Mt_init 0 = .ok (.aload_n 0, 1) := by decide +kernel
theorem d_Mt_init_1 : decode c_Mt_init 1 = .ok (.invokespecial 3, 3) := by decide +kernel
theorem d_Mt_init_4 : decode c_Mt_init 4 = .ok (.aload_n 0, 1) := by decide +kernel
theorem d_Mt_init_5 : decode c_Mt_init 5 = .ok (.iconst 0, 1) := by decide +kernel
theorem d_Mt_init_6 : decode c_Mt_init 6 = .ok (.putfield 9, 3) := by decide +kernel
theorem d_Mt_init_9 : decode c_Mt_init 9 = .ok (.aload_n 0, 1) := by decide +kernel
theorem d_Mt_init_10 : decode c_Mt_init 10 = .ok (.sipush 160, 3) := by decide +kernel
theorem d_Mt_init_13 : decode c_Mt_init 13 = .ok (.newarray .int, 2) := by decide +kernel
theorem d_Mt_init_15 : decode c_Mt_init 15 = .ok (.putfield 15, 3) := by decide +kernel
theorem d_Mt_init_18 : decode c_Mt_init 18 = .ok (.aload_n 0, 1) := by decide +kernel
theorem d_Mt_init_19 : decode c_Mt_init 19 = .ok (.sipush 1920, 3) := by decide +kernel
theorem d_Mt_init_22 : decode c_Mt_init 22 = .ok (.newarray .int, 2) := by decide +kernel
theorem d_Mt_init_24 : decode c_Mt_init 24 = .ok (.putfield 19, 3) := by decide +kernel
theorem d_Mt_init_27 : decode c_Mt_init 27 = .ok (.return_, 1) := by decide +kernel
theorem d_Mt_clear_0 : decode c_Mt_clear 0 = .ok (.aload_n 0, 1) := by decide +kernel
theorem d_Mt_clear_1 : decode c_Mt_clear 1 = .ok (.iconst 0, 1) := by decide +kernel
theorem d_Mt_clear_2 : decode c_Mt_clear 2 = .ok (.putfield 9, 3) := by decide +kernel
theorem d_Mt_clear_5 : decode c_Mt_clear 5 = .ok (.return_, 1) := by decide +kernel
theorem d_Mt_keep_0 : decode c_Mt_keep 0 = .ok (.aload_n 0, 1) := by decide +kernel
theorem d_Mt_keep_1 : decode c_Mt_keep 1 = .ok (.getfield 9, 3) := by decide +kernel
theorem d_Mt_keep_4 : decode c_Mt_keep 4 = .ok (.bipush 20, 2) := by decide +kernel
theorem d_Mt_keep_6 : decode c_Mt_keep 6 = .ok (.if_icmp .ge 55, 3) := by decide +kernel
theorem d_Mt_keep_9 : decode c_Mt_keep 9 = .ok (.aload_n 1, 1) := by decide +kernel
theorem d_Mt_keep_10 : decode c_Mt_keep 10 = .ok (.getfield 22, 3) := by decide +kernel
theorem d_Mt_keep_13 : decode c_Mt_keep 13 = .ok (.iconst 0, 1) := by decide +kernel
theorem d_Mt_keep_14 : decode c_Mt_keep 14 = .ok (.aload_n 0, 1) := by decide +kernel
theorem d_Mt_keep_15 : decode c_Mt_keep 15 = .ok (.getfield 15, 3) := by decide +kernel
theorem d_Mt_keep_18 : decode c_Mt_keep 18 = .ok (.aload_n 0, 1) := by decide +kernel
theorem d_Mt_keep_19 : decode c_Mt_keep 19 = .ok (.getfield 9, 3) := by decide +kernel
theorem d_Mt_keep_22 : decode c_Mt_keep 22 = .ok (.bipush 8, 2) := by decide +kernel
theorem d_Mt_keep_24 : decode c_Mt_keep 24 = .ok (.imul, 1) := by decide +kernel
theorem d_Mt_keep_25 : decode c_Mt_keep 25 = .ok (.bipush 8, 2) := by decide +kernel
theorem d_Mt_keep_27 : decode c_Mt_keep 27 = .ok (.invokestatic 25, 3) := by decide +kernel
theorem d_Mt_keep_30 : decode c_Mt_keep 30 = .ok (.aload_n 1, 1) := by decide +kernel
theorem d_Mt_keep_31 : decode c_Mt_keep 31 = .ok (.getfield 31, 3) := by decide +kernel
theorem d_Mt_keep_34 : decode c_Mt_keep 34 = .ok (.iconst 0, 1) := by decide +kernel
theorem d_Mt_keep_35 : decode c_Mt_keep 35 = .ok (.aload_n 0, 1) := by decide +kernel
theorem d_Mt_keep_36 : decode c_Mt_keep 36 = .ok (.getfield 19, 3) := by decide +kernel
theorem d_Mt_keep_39 : decode c_Mt_keep 39 = .ok (.aload_n 0, 1) := by decide +kernel
theorem d_Mt_keep_40 : decode c_Mt_keep 40 = .ok (.getfield 9, 3) := by decide +kernel
theorem d_Mt_keep_43 : decode c_Mt_keep 43 = .ok (.bipush 96, 2) := by decide +kernel
theorem d_Mt_keep_45 : decode c_Mt_keep 45 = .ok (.imul, 1) := by decide +kernel
theorem d_Mt_keep_46 : decode c_Mt_keep 46 = .ok (.bipush 96, 2) := by decide +kernel
theorem d_Mt_keep_48 : decode c_Mt_keep 48 = .ok (.invokestatic 25, 3) := by decide +kernel
theorem d_Mt_keep_51 : decode c_Mt_keep 51 = .ok (.aload_n 0, 1) := by decide +kernel
theorem d_Mt_keep_52 : decode c_Mt_keep 52 = .ok (.dup, 1) := by decide +kernel
theorem d_Mt_keep_53 : decode c_Mt_keep 53 = .ok (.getfield 9, 3) := by decide +kernel
theorem d_Mt_keep_56 : decode c_Mt_keep 56 = .ok (.iconst 1, 1) := by decide +kernel
theorem d_Mt_keep_57 : decode c_Mt_keep 57 = .ok (.iadd, 1) := by decide +kernel
theorem d_Mt_keep_58 : decode c_Mt_keep 58 = .ok (.putfield 9, 3) := by decide +kernel
theorem d_Mt_keep_61 : decode c_Mt_keep 61 = .ok (.return_, 1) := by decide +kernel
theorem d_Mt_keptCount_0 : decode c_Mt_keptCount 0 = .ok (.aload_n 0, 1) := by decide +kernel
theorem d_Mt_keptCount_1 : decode c_Mt_keptCount 1 = .ok (.getfield 9, 3) := by decide +kernel
theorem d_Mt_keptCount_4 : decode c_Mt_keptCount 4 = .ok (.ireturn, 1) := by decide +kernel
theorem d_Mt_lengthOf_0 : decode c_Mt_lengthOf 0 = .ok (.aload_n 0, 1) := by decide +kernel
theorem d_Mt_lengthOf_1 : decode c_Mt_lengthOf 1 = .ok (.getfield 15, 3) := by decide +kernel
theorem d_Mt_lengthOf_4 : decode c_Mt_lengthOf 4 = .ok (.iload_n 1, 1) := by decide +kernel
theorem d_Mt_lengthOf_5 : decode c_Mt_lengthOf 5 = .ok (.bipush 8, 2) := by decide +kernel
theorem d_Mt_lengthOf_7 : decode c_Mt_lengthOf 7 = .ok (.imul, 1) := by decide +kernel
theorem d_Mt_lengthOf_8 : decode c_Mt_lengthOf 8 = .ok (.iload_n 2, 1) := by decide +kernel
theorem d_Mt_lengthOf_9 : decode c_Mt_lengthOf 9 = .ok (.iadd, 1) := by decide +kernel
theorem d_Mt_lengthOf_10 : decode c_Mt_lengthOf 10 = .ok (.iaload, 1) := by decide +kernel
theorem d_Mt_lengthOf_11 : decode c_Mt_lengthOf 11 = .ok (.ireturn, 1) := by decide +kernel
theorem d_Mt_treeOf_0 : decode c_Mt_treeOf 0 = .ok (.iload_n 3, 1) := by decide +kernel
theorem d_Mt_treeOf_1 : decode c_Mt_treeOf 1 = .ok (.ifCond .lt 13, 3) := by decide +kernel
theorem d_Mt_treeOf_4 : decode c_Mt_treeOf 4 = .ok (.iload_n 3, 1) := by decide +kernel
theorem d_Mt_treeOf_5 : decode c_Mt_treeOf 5 = .ok (.aload_n 0, 1) := by decide +kernel
theorem d_Mt_treeOf_6 : decode c_Mt_treeOf 6 = .ok (.iload_n 1, 1) := by decide +kernel
theorem d_Mt_treeOf_7 : decode c_Mt_treeOf 7 = .ok (.iload_n 2, 1) := by decide +kernel
theorem d_Mt_treeOf_8 : decode c_Mt_treeOf 8 = .ok (.invokevirtual 32, 3) := by decide +kernel
theorem d_Mt_treeOf_11 : decode c_Mt_treeOf 11 = .ok (.if_icmp .lt 5, 3) := by decide +kernel
theorem d_Mt_treeOf_14 : decode c_Mt_treeOf 14 = .ok (.iconst (-1), 1) := by decide +kernel
theorem d_Mt_treeOf_15 : decode c_Mt_treeOf 15 = .ok (.ireturn, 1) := by decide +kernel
theorem d_Mt_treeOf_16 : decode c_Mt_treeOf 16 = .ok (.aload_n 0, 1) := by decide +kernel
theorem d_Mt_treeOf_17 : decode c_Mt_treeOf 17 = .ok (.getfield 19, 3) := by decide +kernel
theorem d_Mt_treeOf_20 : decode c_Mt_treeOf 20 = .ok (.iload_n 1, 1) := by decide +kernel
theorem d_Mt_treeOf_21 : decode c_Mt_treeOf 21 = .ok (.bipush 96, 2) := by decide +kernel
theorem d_Mt_treeOf_23 : decode c_Mt_treeOf 23 = .ok (.imul, 1) := by decide +kernel
theorem d_Mt_treeOf_24 : decode c_Mt_treeOf 24 = .ok (.iload_n 2, 1) := by decide +kernel
theorem d_Mt_treeOf_25 : decode c_Mt_treeOf 25 = .ok (.bipush 12, 2) := by decide +kernel
theorem d_Mt_treeOf_27 : decode c_Mt_treeOf 27 = .ok (.imul, 1) := by decide +kernel
theorem d_Mt_treeOf_28 : decode c_Mt_treeOf 28 = .ok (.iadd, 1) := by decide +kernel
theorem d_Mt_treeOf_29 : decode c_Mt_treeOf 29 = .ok (.iload_n 3, 1) := by decide +kernel
theorem d_Mt_treeOf_30 : decode c_Mt_treeOf 30 = .ok (.iadd, 1) := by decide +kernel
theorem d_Mt_treeOf_31 : decode c_Mt_treeOf 31 = .ok (.iaload, 1) := by decide +kernel
theorem d_Mt_treeOf_32 : decode c_Mt_treeOf 32 = .ok (.ireturn, 1) := by decide +kernel
theorem d_Nm_init_0 : decode c_Nm_init 0 = .ok (.aload_n 0, 1) := by decide +kernel
theorem d_Nm_init_1 : decode c_Nm_init 1 = .ok (.invokespecial 3, 3) := by decide +kernel
theorem d_Nm_init_4 : decode c_Nm_init 4 = .ok (.aload_n 0, 1) := by decide +kernel
theorem d_Nm_init_5 : decode c_Nm_init 5 = .ok (.bipush 8, 2) := by decide +kernel
theorem d_Nm_init_7 : decode c_Nm_init 7 = .ok (.newarray .int, 2) := by decide +kernel
theorem d_Nm_init_9 : decode c_Nm_init 9 = .ok (.putfield 9, 3) := by decide +kernel
theorem d_Nm_init_12 : decode c_Nm_init 12 = .ok (.aload_n 0, 1) := by decide +kernel
theorem d_Nm_init_13 : decode c_Nm_init 13 = .ok (.bipush 96, 2) := by decide +kernel
theorem d_Nm_init_15 : decode c_Nm_init 15 = .ok (.newarray .int, 2) := by decide +kernel
theorem d_Nm_init_17 : decode c_Nm_init 17 = .ok (.putfield 15, 3) := by decide +kernel
theorem d_Nm_init_20 : decode c_Nm_init 20 = .ok (.aload_n 0, 1) := by decide +kernel
theorem d_Nm_init_21 : decode c_Nm_init 21 = .ok (.bipush 8, 2) := by decide +kernel
theorem d_Nm_init_23 : decode c_Nm_init 23 = .ok (.newarray .int, 2) := by decide +kernel
theorem d_Nm_init_25 : decode c_Nm_init 25 = .ok (.putfield 18, 3) := by decide +kernel
theorem d_Nm_init_28 : decode c_Nm_init 28 = .ok (.return_, 1) := by decide +kernel
theorem d_Nm_clear_0 : decode c_Nm_clear 0 = .ok (.aload_n 0, 1) := by decide +kernel
theorem d_Nm_clear_1 : decode c_Nm_clear 1 = .ok (.getfield 9, 3) := by decide +kernel
theorem d_Nm_clear_4 : decode c_Nm_clear 4 = .ok (.iconst (-1), 1) := by decide +kernel
theorem d_Nm_clear_5 : decode c_Nm_clear 5 = .ok (.invokestatic 21, 3) := by decide +kernel
theorem d_Nm_clear_8 : decode c_Nm_clear 8 = .ok (.aload_n 0, 1) := by decide +kernel
theorem d_Nm_clear_9 : decode c_Nm_clear 9 = .ok (.getfield 18, 3) := by decide +kernel
theorem d_Nm_clear_12 : decode c_Nm_clear 12 = .ok (.iconst (-1), 1) := by decide +kernel
theorem d_Nm_clear_13 : decode c_Nm_clear 13 = .ok (.invokestatic 21, 3) := by decide +kernel
theorem d_Nm_clear_16 : decode c_Nm_clear 16 = .ok (.return_, 1) := by decide +kernel
theorem d_Nm_hasNothing_0 : decode c_Nm_hasNothing 0 = .ok (.aload_n 0, 1) := by decide +kernel
theorem d_Nm_hasNothing_1 : decode c_Nm_hasNothing 1 = .ok (.getfield 9, 3) := by decide +kernel
theorem d_Nm_hasNothing_4 : decode c_Nm_hasNothing 4 = .ok (.iload_n 1, 1) := by decide +kernel
theorem d_Nm_hasNothing_5 : decode c_Nm_hasNothing 5 = .ok (.iaload, 1) := by decide +kernel
theorem d_Nm_hasNothing_6 : decode c_Nm_hasNothing 6 = .ok (.ifCond .ge 7, 3) := by decide +kernel
theorem d_Nm_hasNothing_9 : decode c_Nm_hasNothing 9 = .ok (.iconst 1, 1) := by decide +kernel
theorem d_Nm_hasNothing_10 : decode c_Nm_hasNothing 10 = .ok (.goto 4, 3) := by decide +kernel
theorem d_Nm_hasNothing_13 : decode c_Nm_hasNothing 13 = .ok (.iconst 0, 1) := by decide +kernel
theorem d_Nm_hasNothing_14 : decode c_Nm_hasNothing 14 = .ok (.ireturn, 1) := by decide +kernel
theorem d_Nm_give_0 : decode c_Nm_give 0 = .ok (.aload_n 2, 1) := by decide +kernel
theorem d_Nm_give_1 : decode c_Nm_give 1 = .ok (.iconst 0, 1) := by decide +kernel
theorem d_Nm_give_2 : decode c_Nm_give 2 = .ok (.aload_n 0, 1) := by decide +kernel
theorem d_Nm_give_3 : decode c_Nm_give 3 = .ok (.getfield 15, 3) := by decide +kernel
theorem d_Nm_give_6 : decode c_Nm_give 6 = .ok (.iload_n 1, 1) := by decide +kernel
theorem d_Nm_give_7 : decode c_Nm_give 7 = .ok (.bipush 12, 2) := by decide +kernel
theorem d_Nm_give_9 : decode c_Nm_give 9 = .ok (.imul, 1) := by decide +kernel
theorem d_Nm_give_10 : decode c_Nm_give 10 = .ok (.iload_n 3, 1) := by decide +kernel
theorem d_Nm_give_11 : decode c_Nm_give 11 = .ok (.invokestatic 27, 3) := by decide +kernel
theorem d_Nm_give_14 : decode c_Nm_give 14 = .ok (.aload_n 0, 1) := by decide +kernel
theorem d_Nm_give_15 : decode c_Nm_give 15 = .ok (.getfield 9, 3) := by decide +kernel
theorem d_Nm_give_18 : decode c_Nm_give 18 = .ok (.iload_n 1, 1) := by decide +kernel
theorem d_Nm_give_19 : decode c_Nm_give 19 = .ok (.iload_n 3, 1) := by decide +kernel
theorem d_Nm_give_20 : decode c_Nm_give 20 = .ok (.iastore, 1) := by decide +kernel
theorem d_Nm_give_21 : decode c_Nm_give 21 = .ok (.aload_n 0, 1) := by decide +kernel
theorem d_Nm_give_22 : decode c_Nm_give 22 = .ok (.getfield 18, 3) := by decide +kernel
theorem d_Nm_give_25 : decode c_Nm_give 25 = .ok (.iload_n 1, 1) := by decide +kernel
theorem d_Nm_give_26 : decode c_Nm_give 26 = .ok (.iload 4, 2) := by decide +kernel
theorem d_Nm_give_28 : decode c_Nm_give 28 = .ok (.iastore, 1) := by decide +kernel
theorem d_Nm_give_29 : decode c_Nm_give 29 = .ok (.return_, 1) := by decide +kernel
theorem d_Nm_takeBack_0 : decode c_Nm_takeBack 0 = .ok (.aload_n 0, 1) := by decide +kernel
theorem d_Nm_takeBack_1 : decode c_Nm_takeBack 1 = .ok (.getfield 18, 3) := by decide +kernel
theorem d_Nm_takeBack_4 : decode c_Nm_takeBack 4 = .ok (.iload_n 1, 1) := by decide +kernel
theorem d_Nm_takeBack_5 : decode c_Nm_takeBack 5 = .ok (.iaload, 1) := by decide +kernel
theorem d_Nm_takeBack_6 : decode c_Nm_takeBack 6 = .ok (.iload_n 2, 1) := by decide +kernel
theorem d_Nm_takeBack_7 : decode c_Nm_takeBack 7 = .ok (.if_icmp .ne 17, 3) := by decide +kernel
theorem d_Nm_takeBack_10 : decode c_Nm_takeBack 10 = .ok (.aload_n 0, 1) := by decide +kernel
theorem d_Nm_takeBack_11 : decode c_Nm_takeBack 11 = .ok (.getfield 9, 3) := by decide +kernel
theorem d_Nm_takeBack_14 : decode c_Nm_takeBack 14 = .ok (.iload_n 1, 1) := by decide +kernel
theorem d_Nm_takeBack_15 : decode c_Nm_takeBack 15 = .ok (.iconst (-1), 1) := by decide +kernel
theorem d_Nm_takeBack_16 : decode c_Nm_takeBack 16 = .ok (.iastore, 1) := by decide +kernel
theorem d_Nm_takeBack_17 : decode c_Nm_takeBack 17 = .ok (.aload_n 0, 1) := by decide +kernel
theorem d_Nm_takeBack_18 : decode c_Nm_takeBack 18 = .ok (.getfield 18, 3) := by decide +kernel
theorem d_Nm_takeBack_21 : decode c_Nm_takeBack 21 = .ok (.iload_n 1, 1) := by decide +kernel
theorem d_Nm_takeBack_22 : decode c_Nm_takeBack 22 = .ok (.iconst (-1), 1) := by decide +kernel
theorem d_Nm_takeBack_23 : decode c_Nm_takeBack 23 = .ok (.iastore, 1) := by decide +kernel
theorem d_Nm_takeBack_24 : decode c_Nm_takeBack 24 = .ok (.return_, 1) := by decide +kernel
theorem d_Nm_hasSame_0 : decode c_Nm_hasSame 0 = .ok (.aload_n 0, 1) := by decide +kernel
theorem d_Nm_hasSame_1 : decode c_Nm_hasSame 1 = .ok (.getfield 9, 3) := by decide +kernel
theorem d_Nm_hasSame_4 : decode c_Nm_hasSame 4 = .ok (.iload_n 2, 1) := by decide +kernel
theorem d_Nm_hasSame_5 : decode c_Nm_hasSame 5 = .ok (.iaload, 1) := by decide +kernel
theorem d_Nm_hasSame_6 : decode c_Nm_hasSame 6 = .ok (.iload 4, 2) := by decide +kernel
theorem d_Nm_hasSame_8 : decode c_Nm_hasSame 8 = .ok (.if_icmp .eq 5, 3) := by decide +kernel
theorem d_Nm_hasSame_11 : decode c_Nm_hasSame 11 = .ok (.iconst 0, 1) := by decide +kernel
theorem d_Nm_hasSame_12 : decode c_Nm_hasSame 12 = .ok (.ireturn, 1) := by decide +kernel
theorem d_Nm_hasSame_13 : decode c_Nm_hasSame 13 = .ok (.iconst 0, 1) := by decide +kernel
theorem d_Nm_hasSame_14 : decode c_Nm_hasSame 14 = .ok (.istore 5, 2) := by decide +kernel
theorem d_Nm_hasSame_16 : decode c_Nm_hasSame 16 = .ok (.iload 5, 2) := by decide +kernel
theorem d_Nm_hasSame_18 : decode c_Nm_hasSame 18 = .ok (.iload 4, 2) := by decide +kernel
theorem d_Nm_hasSame_20 : decode c_Nm_hasSame 20 = .ok (.if_icmp .ge 34, 3) := by decide +kernel
theorem d_Nm_hasSame_23 : decode c_Nm_hasSame 23 = .ok (.aload_n 1, 1) := by decide +kernel
theorem d_Nm_hasSame_24 : decode c_Nm_hasSame 24 = .ok (.aload_n 0, 1) := by decide +kernel
theorem d_Nm_hasSame_25 : decode c_Nm_hasSame 25 = .ok (.getfield 15, 3) := by decide +kernel
theorem d_Nm_hasSame_28 : decode c_Nm_hasSame 28 = .ok (.iload_n 2, 1) := by decide +kernel
theorem d_Nm_hasSame_29 : decode c_Nm_hasSame 29 = .ok (.bipush 12, 2) := by decide +kernel
theorem d_Nm_hasSame_31 : decode c_Nm_hasSame 31 = .ok (.imul, 1) := by decide +kernel
theorem d_Nm_hasSame_32 : decode c_Nm_hasSame 32 = .ok (.iload 5, 2) := by decide +kernel
theorem d_Nm_hasSame_34 : decode c_Nm_hasSame 34 = .ok (.iadd, 1) := by decide +kernel
theorem d_Nm_hasSame_35 : decode c_Nm_hasSame 35 = .ok (.iaload, 1) := by decide +kernel
theorem d_Nm_hasSame_36 : decode c_Nm_hasSame 36 = .ok (.aload_n 3, 1) := by decide +kernel
theorem d_Nm_hasSame_37 : decode c_Nm_hasSame 37 = .ok (.iload 5, 2) := by decide +kernel
theorem d_Nm_hasSame_39 : decode c_Nm_hasSame 39 = .ok (.iaload, 1) := by decide +kernel
theorem d_Nm_hasSame_40 : decode c_Nm_hasSame 40 = .ok (.invokevirtual 33, 3) := by decide +kernel
theorem d_Nm_hasSame_43 : decode c_Nm_hasSame 43 = .ok (.ifCond .eq 5, 3) := by decide +kernel
theorem d_Nm_hasSame_46 : decode c_Nm_hasSame 46 = .ok (.iconst 0, 1) := by decide +kernel
theorem d_Nm_hasSame_47 : decode c_Nm_hasSame 47 = .ok (.ireturn, 1) := by decide +kernel
theorem d_Nm_hasSame_48 : decode c_Nm_hasSame 48 = .ok (.iinc 5 1, 3) := by decide +kernel
theorem d_Nm_hasSame_51 : decode c_Nm_hasSame 51 = .ok (.goto (-35), 3) := by decide +kernel
theorem d_Nm_hasSame_54 : decode c_Nm_hasSame 54 = .ok (.iconst 1, 1) := by decide +kernel
theorem d_Nm_hasSame_55 : decode c_Nm_hasSame 55 = .ok (.ireturn, 1) := by decide +kernel
theorem d_Pc_all_0 : decode c_Pc_all 0 = .ok (.iconst 1, 1) := by decide +kernel
theorem d_Pc_all_1 : decode c_Pc_all 1 = .ok (.iload_n 0, 1) := by decide +kernel
theorem d_Pc_all_2 : decode c_Pc_all 2 = .ok (.ishl, 1) := by decide +kernel
theorem d_Pc_all_3 : decode c_Pc_all 3 = .ok (.iconst 1, 1) := by decide +kernel
theorem d_Pc_all_4 : decode c_Pc_all 4 = .ok (.isub, 1) := by decide +kernel
theorem d_Pc_all_5 : decode c_Pc_all 5 = .ok (.ireturn, 1) := by decide +kernel
theorem d_Pc_lowest_0 : decode c_Pc_lowest 0 = .ok (.iconst 0, 1) := by decide +kernel
theorem d_Pc_lowest_1 : decode c_Pc_lowest 1 = .ok (.istore_n 2, 1) := by decide +kernel
theorem d_Pc_lowest_2 : decode c_Pc_lowest 2 = .ok (.iload_n 1, 1) := by decide +kernel
theorem d_Pc_lowest_3 : decode c_Pc_lowest 3 = .ok (.istore_n 3, 1) := by decide +kernel
theorem d_Pc_lowest_4 : decode c_Pc_lowest 4 = .ok (.iconst 0, 1) := by decide +kernel
theorem d_Pc_lowest_5 : decode c_Pc_lowest 5 = .ok (.istore 4, 2) := by decide +kernel
theorem d_Pc_lowest_7 : decode c_Pc_lowest 7 = .ok (.iload 4, 2) := by decide +kernel
theorem d_Pc_lowest_9 : decode c_Pc_lowest 9 = .ok (.bipush 12, 2) := by decide +kernel
theorem d_Pc_lowest_11 : decode c_Pc_lowest 11 = .ok (.if_icmp .ge 34, 3) := by decide +kernel
theorem d_Pc_lowest_14 : decode c_Pc_lowest 14 = .ok (.iload_n 3, 1) := by decide +kernel
theorem d_Pc_lowest_15 : decode c_Pc_lowest 15 = .ok (.ifCond .le 30, 3) := by decide +kernel
theorem d_Pc_lowest_18 : decode c_Pc_lowest 18 = .ok (.iconst 1, 1) := by decide +kernel
theorem d_Pc_lowest_19 : decode c_Pc_lowest 19 = .ok (.iload 4, 2) := by decide +kernel
theorem d_Pc_lowest_21 : decode c_Pc_lowest 21 = .ok (.ishl, 1) := by decide +kernel
theorem d_Pc_lowest_22 : decode c_Pc_lowest 22 = .ok (.istore 5, 2) := by decide +kernel
theorem d_Pc_lowest_24 : decode c_Pc_lowest 24 = .ok (.iload_n 0, 1) := by decide +kernel
theorem d_Pc_lowest_25 : decode c_Pc_lowest 25 = .ok (.iload 5, 2) := by decide +kernel
theorem d_Pc_lowest_27 : decode c_Pc_lowest 27 = .ok (.iand, 1) := by decide +kernel
theorem d_Pc_lowest_28 : decode c_Pc_lowest 28 = .ok (.ifCond .eq 11, 3) := by decide +kernel
theorem d_Pc_lowest_31 : decode c_Pc_lowest 31 = .ok (.iload_n 2, 1) := by decide +kernel
theorem d_Pc_lowest_32 : decode c_Pc_lowest 32 = .ok (.iload 5, 2) := by decide +kernel
theorem d_Pc_lowest_34 : decode c_Pc_lowest 34 = .ok (.ior, 1) := by decide +kernel
theorem d_Pc_lowest_35 : decode c_Pc_lowest 35 = .ok (.istore_n 2, 1) := by decide +kernel
theorem d_Pc_lowest_36 : decode c_Pc_lowest 36 = .ok (.iinc 3 (-1), 3) := by decide +kernel
theorem d_Pc_lowest_39 : decode c_Pc_lowest 39 = .ok (.iinc 4 1, 3) := by decide +kernel
theorem d_Pc_lowest_42 : decode c_Pc_lowest 42 = .ok (.goto (-35), 3) := by decide +kernel
theorem d_Pc_lowest_45 : decode c_Pc_lowest 45 = .ok (.iload_n 3, 1) := by decide +kernel
theorem d_Pc_lowest_46 : decode c_Pc_lowest 46 = .ok (.ifCond .ne 7, 3) := by decide +kernel
theorem d_Pc_lowest_49 : decode c_Pc_lowest 49 = .ok (.iload_n 2, 1) := by decide +kernel
theorem d_Pc_lowest_50 : decode c_Pc_lowest 50 = .ok (.goto 4, 3) := by decide +kernel
theorem d_Pc_lowest_53 : decode c_Pc_lowest 53 = .ok (.iconst (-1), 1) := by decide +kernel
theorem d_Pc_lowest_54 : decode c_Pc_lowest 54 = .ok (.ireturn, 1) := by decide +kernel
theorem d_Pc_behind_0 : decode c_Pc_behind 0 = .ok (.iload_n 0, 1) := by decide +kernel
theorem d_Pc_behind_1 : decode c_Pc_behind 1 = .ok (.iload_n 1, 1) := by decide +kernel
theorem d_Pc_behind_2 : decode c_Pc_behind 2 = .ok (.iload_n 1, 1) := by decide +kernel
theorem d_Pc_behind_3 : decode c_Pc_behind 3 = .ok (.iconst 1, 1) := by decide +kernel
theorem d_Pc_behind_4 : decode c_Pc_behind 4 = .ok (.isub, 1) := by decide +kernel
theorem d_Pc_behind_5 : decode c_Pc_behind 5 = .ok (.ior, 1) := by decide +kernel
theorem d_Pc_behind_6 : decode c_Pc_behind 6 = .ok (.iconst (-1), 1) := by decide +kernel
theorem d_Pc_behind_7 : decode c_Pc_behind 7 = .ok (.ixor, 1) := by decide +kernel
theorem d_Pc_behind_8 : decode c_Pc_behind 8 = .ok (.iand, 1) := by decide +kernel
theorem d_Pc_behind_9 : decode c_Pc_behind 9 = .ok (.ireturn, 1) := by decide +kernel
theorem d_Pc_nextChoice_0 : decode c_Pc_nextChoice 0 = .ok (.iconst 0, 1) := by decide +kernel
theorem d_Pc_nextChoice_1 : decode c_Pc_nextChoice 1 = .ok (.istore_n 2, 1) := by decide +kernel
theorem d_Pc_nextChoice_2 : decode c_Pc_nextChoice 2 = .ok (.iconst 0, 1) := by decide +kernel
theorem d_Pc_nextChoice_3 : decode c_Pc_nextChoice 3 = .ok (.istore_n 3, 1) := by decide +kernel
theorem d_Pc_nextChoice_4 : decode c_Pc_nextChoice 4 = .ok (.bipush 11, 2) := by decide +kernel
theorem d_Pc_nextChoice_6 : decode c_Pc_nextChoice 6 = .ok (.istore 4, 2) := by decide +kernel
theorem d_Pc_nextChoice_8 : decode c_Pc_nextChoice 8 = .ok (.iload 4, 2) := by decide +kernel
theorem d_Pc_nextChoice_10 : decode c_Pc_nextChoice 10 = .ok (.ifCond .lt 69, 3) := by decide +kernel
theorem d_Pc_nextChoice_13 : decode c_Pc_nextChoice 13 = .ok (.iconst 1, 1) := by decide +kernel
theorem d_Pc_nextChoice_14 : decode c_Pc_nextChoice 14 = .ok (.iload 4, 2) := by decide +kernel
theorem d_Pc_nextChoice_16 : decode c_Pc_nextChoice 16 = .ok (.ishl, 1) := by decide +kernel
theorem d_Pc_nextChoice_17 : decode c_Pc_nextChoice 17 = .ok (.istore 5, 2) := by decide +kernel
theorem d_Pc_nextChoice_19 : decode c_Pc_nextChoice 19 = .ok (.iload_n 1, 1) := by decide +kernel
theorem d_Pc_nextChoice_20 : decode c_Pc_nextChoice 20 = .ok (.iload 5, 2) := by decide +kernel
theorem d_Pc_nextChoice_22 : decode c_Pc_nextChoice 22 = .ok (.iand, 1) := by decide +kernel
theorem d_Pc_nextChoice_23 : decode c_Pc_nextChoice 23 = .ok (.ifCond .ne 23, 3) := by decide +kernel
theorem d_Pc_nextChoice_26 : decode c_Pc_nextChoice 26 = .ok (.iload_n 3, 1) := by decide +kernel
theorem d_Pc_nextChoice_27 : decode c_Pc_nextChoice 27 = .ok (.ifCond .ne 10, 3) := by decide +kernel
theorem d_Pc_nextChoice_30 : decode c_Pc_nextChoice 30 = .ok (.iload_n 0, 1) := by decide +kernel
theorem d_Pc_nextChoice_31 : decode c_Pc_nextChoice 31 = .ok (.iload 5, 2) := by decide +kernel
theorem d_Pc_nextChoice_33 : decode c_Pc_nextChoice 33 = .ok (.iand, 1) := by decide +kernel
theorem d_Pc_nextChoice_34 : decode c_Pc_nextChoice 34 = .ok (.ifCond .eq 7, 3) := by decide +kernel
theorem d_Pc_nextChoice_37 : decode c_Pc_nextChoice 37 = .ok (.iconst 1, 1) := by decide +kernel
theorem d_Pc_nextChoice_38 : decode c_Pc_nextChoice 38 = .ok (.goto 4, 3) := by decide +kernel
theorem d_Pc_nextChoice_41 : decode c_Pc_nextChoice 41 = .ok (.iconst 0, 1) := by decide +kernel
theorem d_Pc_nextChoice_42 : decode c_Pc_nextChoice 42 = .ok (.istore_n 3, 1) := by decide +kernel
theorem d_Pc_nextChoice_43 : decode c_Pc_nextChoice 43 = .ok (.goto 30, 3) := by decide +kernel
theorem d_Pc_nextChoice_46 : decode c_Pc_nextChoice 46 = .ok (.iload_n 3, 1) := by decide +kernel
theorem d_Pc_nextChoice_47 : decode c_Pc_nextChoice 47 = .ok (.ifCond .eq 23, 3) := by decide +kernel
theorem d_Pc_nextChoice_50 : decode c_Pc_nextChoice 50 = .ok (.iload_n 1, 1) := by decide +kernel
theorem d_Pc_nextChoice_51 : decode c_Pc_nextChoice 51 = .ok (.iload 5, 2) := by decide +kernel
theorem d_Pc_nextChoice_53 : decode c_Pc_nextChoice 53 = .ok (.iconst 1, 1) := by decide +kernel
theorem d_Pc_nextChoice_54 : decode c_Pc_nextChoice 54 = .ok (.isub, 1) := by decide +kernel
theorem d_Pc_nextChoice_55 : decode c_Pc_nextChoice 55 = .ok (.iand, 1) := by decide +kernel
theorem d_Pc_nextChoice_56 : decode c_Pc_nextChoice 56 = .ok (.iload_n 0, 1) := by decide +kernel
theorem d_Pc_nextChoice_57 : decode c_Pc_nextChoice 57 = .ok (.iload 5, 2) := by decide +kernel
theorem d_Pc_nextChoice_59 : decode c_Pc_nextChoice 59 = .ok (.invokestatic 9, 3) := by decide +kernel
theorem d_Pc_nextChoice_62 : decode c_Pc_nextChoice 62 = .ok (.iload_n 2, 1) := by decide +kernel
theorem d_Pc_nextChoice_63 : decode c_Pc_nextChoice 63 = .ok (.iconst 1, 1) := by decide +kernel
theorem d_Pc_nextChoice_64 : decode c_Pc_nextChoice 64 = .ok (.iadd, 1) := by decide +kernel
theorem d_Pc_nextChoice_65 : decode c_Pc_nextChoice 65 = .ok (.invokestatic 15, 3) := by decide +kernel
theorem d_Pc_nextChoice_68 : decode c_Pc_nextChoice 68 = .ok (.ior, 1) := by decide +kernel
theorem d_Pc_nextChoice_69 : decode c_Pc_nextChoice 69 = .ok (.ireturn, 1) := by decide +kernel
theorem d_Pc_nextChoice_70 : decode c_Pc_nextChoice 70 = .ok (.iinc 2 1, 3) := by decide +kernel
theorem d_Pc_nextChoice_73 : decode c_Pc_nextChoice 73 = .ok (.iinc 4 (-1), 3) := by decide +kernel
theorem d_Pc_nextChoice_76 : decode c_Pc_nextChoice 76 = .ok (.goto (-68), 3) := by decide +kernel
theorem d_Pc_nextChoice_79 : decode c_Pc_nextChoice 79 = .ok (.iload_n 0, 1) := by decide +kernel
theorem d_Pc_nextChoice_80 : decode c_Pc_nextChoice 80 = .ok (.iload_n 2, 1) := by decide +kernel
theorem d_Pc_nextChoice_81 : decode c_Pc_nextChoice 81 = .ok (.iconst 1, 1) := by decide +kernel
theorem d_Pc_nextChoice_82 : decode c_Pc_nextChoice 82 = .ok (.iadd, 1) := by decide +kernel
theorem d_Pc_nextChoice_83 : decode c_Pc_nextChoice 83 = .ok (.invokestatic 15, 3) := by decide +kernel
theorem d_Pc_nextChoice_86 : decode c_Pc_nextChoice 86 = .ok (.ireturn, 1) := by decide +kernel
theorem d_Pl_init_0 : decode c_Pl_init 0 = .ok (.aload_n 0, 1) := by decide +kernel
theorem d_Pl_init_1 : decode c_Pl_init 1 = .ok (.invokespecial 3, 3) := by decide +kernel
theorem d_Pl_init_4 : decode c_Pl_init 4 = .ok (.aload_n 0, 1) := by decide +kernel
theorem d_Pl_init_5 : decode c_Pl_init 5 = .ok (.iconst 0, 1) := by decide +kernel
theorem d_Pl_init_6 : decode c_Pl_init 6 = .ok (.putfield 9, 3) := by decide +kernel
theorem d_Pl_init_9 : decode c_Pl_init 9 = .ok (.aload_n 0, 1) := by decide +kernel
theorem d_Pl_init_10 : decode c_Pl_init 10 = .ok (.bipush 70, 2) := by decide +kernel
theorem d_Pl_init_12 : decode c_Pl_init 12 = .ok (.newarray .int, 2) := by decide +kernel
theorem d_Pl_init_14 : decode c_Pl_init 14 = .ok (.putfield 15, 3) := by decide +kernel
theorem d_Pl_init_17 : decode c_Pl_init 17 = .ok (.aload_n 0, 1) := by decide +kernel
theorem d_Pl_init_18 : decode c_Pl_init 18 = .ok (.bipush 70, 2) := by decide +kernel
theorem d_Pl_init_20 : decode c_Pl_init 20 = .ok (.newarray .int, 2) := by decide +kernel
theorem d_Pl_init_22 : decode c_Pl_init 22 = .ok (.putfield 19, 3) := by decide +kernel
theorem d_Pl_init_25 : decode c_Pl_init 25 = .ok (.aload_n 0, 1) := by decide +kernel
theorem d_Pl_init_26 : decode c_Pl_init 26 = .ok (.bipush 70, 2) := by decide +kernel
theorem d_Pl_init_28 : decode c_Pl_init 28 = .ok (.newarray .boolean, 2) := by decide +kernel
theorem d_Pl_init_30 : decode c_Pl_init 30 = .ok (.putfield 22, 3) := by decide +kernel
theorem d_Pl_init_33 : decode c_Pl_init 33 = .ok (.return_, 1) := by decide +kernel
theorem d_Pl_lay_0 : decode c_Pl_lay 0 = .ok (.aload_n 0, 1) := by decide +kernel
theorem d_Pl_lay_1 : decode c_Pl_lay 1 = .ok (.iconst 1, 1) := by decide +kernel
theorem d_Pl_lay_2 : decode c_Pl_lay 2 = .ok (.putfield 9, 3) := by decide +kernel
theorem d_Pl_lay_5 : decode c_Pl_lay 5 = .ok (.aload_n 0, 1) := by decide +kernel
theorem d_Pl_lay_6 : decode c_Pl_lay 6 = .ok (.getfield 15, 3) := by decide +kernel
theorem d_Pl_lay_9 : decode c_Pl_lay 9 = .ok (.iconst 0, 1) := by decide +kernel
theorem d_Pl_lay_10 : decode c_Pl_lay 10 = .ok (.iload_n 2, 1) := by decide +kernel
theorem d_Pl_lay_11 : decode c_Pl_lay 11 = .ok (.iastore, 1) := by decide +kernel
theorem d_Pl_lay_12 : decode c_Pl_lay 12 = .ok (.aload_n 0, 1) := by decide +kernel
theorem d_Pl_lay_13 : decode c_Pl_lay 13 = .ok (.getfield 19, 3) := by decide +kernel
theorem d_Pl_lay_16 : decode c_Pl_lay 16 = .ok (.iconst 0, 1) := by decide +kernel
theorem d_Pl_lay_17 : decode c_Pl_lay 17 = .ok (.iconst (-1), 1) := by decide +kernel
theorem d_Pl_lay_18 : decode c_Pl_lay 18 = .ok (.iastore, 1) := by decide +kernel
theorem d_Pl_lay_19 : decode c_Pl_lay 19 = .ok (.aload_n 0, 1) := by decide +kernel
theorem d_Pl_lay_20 : decode c_Pl_lay 20 = .ok (.getfield 22, 3) := by decide +kernel
theorem d_Pl_lay_23 : decode c_Pl_lay 23 = .ok (.iconst 0, 1) := by decide +kernel
theorem d_Pl_lay_24 : decode c_Pl_lay 24 = .ok (.iconst 1, 1) := by decide +kernel
theorem d_Pl_lay_25 : decode c_Pl_lay 25 = .ok (.bastore, 1) := by decide +kernel
theorem d_Pl_lay_26 : decode c_Pl_lay 26 = .ok (.aload_n 0, 1) := by decide +kernel
theorem d_Pl_lay_27 : decode c_Pl_lay 27 = .ok (.aload_n 1, 1) := by decide +kernel
theorem d_Pl_lay_28 : decode c_Pl_lay 28 = .ok (.iconst 0, 1) := by decide +kernel
theorem d_Pl_lay_29 : decode c_Pl_lay 29 = .ok (.iconst 0, 1) := by decide +kernel
theorem d_Pl_lay_30 : decode c_Pl_lay 30 = .ok (.invokestatic 26, 3) := by decide +kernel
theorem d_Pl_lay_33 : decode c_Pl_lay 33 = .ok (.return_, 1) := by decide +kernel
theorem d_Pl_layParts_0 : decode c_Pl_layParts 0 = .ok (.iload_n 3, 1) := by decide +kernel
theorem d_Pl_layParts_1 : decode c_Pl_layParts 1 = .ok (.bipush 20, 2) := by decide +kernel
theorem d_Pl_layParts_3 : decode c_Pl_layParts 3 = .ok (.if_icmp .le 4, 3) := by decide +kernel
theorem d_Pl_layParts_6 : decode c_Pl_layParts 6 = .ok (.return_, 1) := by decide +kernel
theorem d_Pl_layParts_7 : decode c_Pl_layParts 7 = .ok (.aload_n 0, 1) := by decide +kernel
theorem d_Pl_layParts_8 : decode c_Pl_layParts 8 = .ok (.getfield 15, 3) := by decide +kernel
theorem d_Pl_layParts_11 : decode c_Pl_layParts 11 = .ok (.iload_n 2, 1) := by decide +kernel
theorem d_Pl_layParts_12 : decode c_Pl_layParts 12 = .ok (.iaload, 1) := by decide +kernel
theorem d_Pl_layParts_13 : decode c_Pl_layParts 13 = .ok (.istore 4, 2) := by decide +kernel
theorem d_Pl_layParts_15 : decode c_Pl_layParts 15 = .ok (.aload_n 1, 1) := by decide +kernel
theorem d_Pl_layParts_16 : decode c_Pl_layParts 16 = .ok (.iload 4, 2) := by decide +kernel
theorem d_Pl_layParts_18 : decode c_Pl_layParts 18 = .ok (.invokevirtual 30, 3) := by decide +kernel
theorem d_Pl_layParts_21 : decode c_Pl_layParts 21 = .ok (.istore 5, 2) := by decide +kernel
theorem d_Pl_layParts_23 : decode c_Pl_layParts 23 = .ok (.iconst 0, 1) := by decide +kernel
theorem d_Pl_layParts_24 : decode c_Pl_layParts 24 = .ok (.istore 6, 2) := by decide +kernel
theorem d_Pl_layParts_26 : decode c_Pl_layParts 26 = .ok (.iload 6, 2) := by decide +kernel
theorem d_Pl_layParts_28 : decode c_Pl_layParts 28 = .ok (.iload 5, 2) := by decide +kernel
theorem d_Pl_layParts_30 : decode c_Pl_layParts 30 = .ok (.if_icmp .ge 88, 3) := by decide +kernel
theorem d_Pl_layParts_33 : decode c_Pl_layParts 33 = .ok (.aload_n 0, 1) := by decide +kernel
theorem d_Pl_layParts_34 : decode c_Pl_layParts 34 = .ok (.getfield 9, 3) := by decide +kernel
theorem d_Pl_layParts_37 : decode c_Pl_layParts 37 = .ok (.bipush 70, 2) := by decide +kernel
theorem d_Pl_layParts_39 : decode c_Pl_layParts 39 = .ok (.if_icmp .ge 79, 3) := by decide +kernel
theorem d_Pl_layParts_42 : decode c_Pl_layParts 42 = .ok (.aload_n 0, 1) := by decide +kernel
theorem d_Pl_layParts_43 : decode c_Pl_layParts 43 = .ok (.getfield 9, 3) := by decide +kernel
theorem d_Pl_layParts_46 : decode c_Pl_layParts 46 = .ok (.istore 7, 2) := by decide +kernel
theorem d_Pl_layParts_48 : decode c_Pl_layParts 48 = .ok (.aload_n 0, 1) := by decide +kernel
theorem d_Pl_layParts_49 : decode c_Pl_layParts 49 = .ok (.getfield 15, 3) := by decide +kernel
theorem d_Pl_layParts_52 : decode c_Pl_layParts 52 = .ok (.iload 7, 2) := by decide +kernel
theorem d_Pl_layParts_54 : decode c_Pl_layParts 54 = .ok (.aload_n 1, 1) := by decide +kernel
theorem d_Pl_layParts_55 : decode c_Pl_layParts 55 = .ok (.iload 4, 2) := by decide +kernel
theorem d_Pl_layParts_57 : decode c_Pl_layParts 57 = .ok (.iload 6, 2) := by decide +kernel
theorem d_Pl_layParts_59 : decode c_Pl_layParts 59 = .ok (.invokevirtual 36, 3) := by decide +kernel
theorem d_Pl_layParts_62 : decode c_Pl_layParts 62 = .ok (.iastore, 1) := by decide +kernel
theorem d_Pl_layParts_63 : decode c_Pl_layParts 63 = .ok (.aload_n 0, 1) := by decide +kernel
theorem d_Pl_layParts_64 : decode c_Pl_layParts 64 = .ok (.getfield 19, 3) := by decide +kernel
theorem d_Pl_layParts_67 : decode c_Pl_layParts 67 = .ok (.iload 7, 2) := by decide +kernel
theorem d_Pl_layParts_69 : decode c_Pl_layParts 69 = .ok (.iload_n 2, 1) := by decide +kernel
theorem d_Pl_layParts_70 : decode c_Pl_layParts 70 = .ok (.iastore, 1) := by decide +kernel
theorem d_Pl_layParts_71 : decode c_Pl_layParts 71 = .ok (.aload_n 0, 1) := by decide +kernel
theorem d_Pl_layParts_72 : decode c_Pl_layParts 72 = .ok (.getfield 22, 3) := by decide +kernel
theorem d_Pl_layParts_75 : decode c_Pl_layParts 75 = .ok (.iload 7, 2) := by decide +kernel
theorem d_Pl_layParts_77 : decode c_Pl_layParts 77 = .ok (.iload 6, 2) := by decide +kernel
theorem d_Pl_layParts_79 : decode c_Pl_layParts 79 = .ok (.iload 5, 2) := by decide +kernel
theorem d_Pl_layParts_81 : decode c_Pl_layParts 81 = .ok (.iconst 1, 1) := by decide +kernel
theorem d_Pl_layParts_82 : decode c_Pl_layParts 82 = .ok (.isub, 1) := by decide +kernel
theorem d_Pl_layParts_83 : decode c_Pl_layParts 83 = .ok (.if_icmp .ne 7, 3) := by decide +kernel
theorem d_Pl_layParts_86 : decode c_Pl_layParts 86 = .ok (.iconst 1, 1) := by decide +kernel
theorem d_Pl_layParts_87 : decode c_Pl_layParts 87 = .ok (.goto 4, 3) := by decide +kernel
theorem d_Pl_layParts_90 : decode c_Pl_layParts 90 = .ok (.iconst 0, 1) := by decide +kernel
theorem d_Pl_layParts_91 : decode c_Pl_layParts 91 = .ok (.bastore, 1) := by decide +kernel
theorem d_Pl_layParts_92 : decode c_Pl_layParts 92 = .ok (.aload_n 0, 1) := by decide +kernel
theorem d_Pl_layParts_93 : decode c_Pl_layParts 93 = .ok (.dup, 1) := by decide +kernel
theorem d_Pl_layParts_94 : decode c_Pl_layParts 94 = .ok (.getfield 9, 3) := by decide +kernel
theorem d_Pl_layParts_97 : decode c_Pl_layParts 97 = .ok (.iconst 1, 1) := by decide +kernel
theorem d_Pl_layParts_98 : decode c_Pl_layParts 98 = .ok (.iadd, 1) := by decide +kernel
theorem d_Pl_layParts_99 : decode c_Pl_layParts 99 = .ok (.putfield 9, 3) := by decide +kernel
theorem d_Pl_layParts_102 : decode c_Pl_layParts 102 = .ok (.aload_n 0, 1) := by decide +kernel
theorem d_Pl_layParts_103 : decode c_Pl_layParts 103 = .ok (.aload_n 1, 1) := by decide +kernel
theorem d_Pl_layParts_104 : decode c_Pl_layParts 104 = .ok (.iload 7, 2) := by decide +kernel
theorem d_Pl_layParts_106 : decode c_Pl_layParts 106 = .ok (.iload_n 3, 1) := by decide +kernel
theorem d_Pl_layParts_107 : decode c_Pl_layParts 107 = .ok (.iconst 1, 1) := by decide +kernel
theorem d_Pl_layParts_108 : decode c_Pl_layParts 108 = .ok (.iadd, 1) := by decide +kernel
theorem d_Pl_layParts_109 : decode c_Pl_layParts 109 = .ok (.invokestatic 26, 3) := by decide +kernel
theorem d_Pl_layParts_112 : decode c_Pl_layParts 112 = .ok (.iinc 6 1, 3) := by decide +kernel
theorem d_Pl_layParts_115 : decode c_Pl_layParts 115 = .ok (.goto (-89), 3) := by decide +kernel
theorem d_Pl_layParts_118 : decode c_Pl_layParts 118 = .ok (.return_, 1) := by decide +kernel
theorem d_Pl_slotCount_0 : decode c_Pl_slotCount 0 = .ok (.aload_n 0, 1) := by decide +kernel
theorem d_Pl_slotCount_1 : decode c_Pl_slotCount 1 = .ok (.getfield 9, 3) := by decide +kernel
theorem d_Pl_slotCount_4 : decode c_Pl_slotCount 4 = .ok (.ireturn, 1) := by decide +kernel
theorem d_Pl_treeAt_0 : decode c_Pl_treeAt 0 = .ok (.aload_n 0, 1) := by decide +kernel
theorem d_Pl_treeAt_1 : decode c_Pl_treeAt 1 = .ok (.getfield 15, 3) := by decide +kernel
theorem d_Pl_treeAt_4 : decode c_Pl_treeAt 4 = .ok (.iload_n 1, 1) := by decide +kernel
theorem d_Pl_treeAt_5 : decode c_Pl_treeAt 5 = .ok (.iaload, 1) := by decide +kernel
theorem d_Pl_treeAt_6 : decode c_Pl_treeAt 6 = .ok (.ireturn, 1) := by decide +kernel
theorem d_Pl_parentOf_0 : decode c_Pl_parentOf 0 = .ok (.aload_n 0, 1) := by decide +kernel
theorem d_Pl_parentOf_1 : decode c_Pl_parentOf 1 = .ok (.getfield 19, 3) := by decide +kernel
theorem d_Pl_parentOf_4 : decode c_Pl_parentOf 4 = .ok (.iload_n 1, 1) := by decide +kernel
theorem d_Pl_parentOf_5 : decode c_Pl_parentOf 5 = .ok (.iaload, 1) := by decide +kernel
theorem d_Pl_parentOf_6 : decode c_Pl_parentOf 6 = .ok (.ireturn, 1) := by decide +kernel
theorem d_Pl_isLastInRow_0 : decode c_Pl_isLastInRow 0 = .ok (.aload_n 0, 1) := by decide +kernel
theorem d_Pl_isLastInRow_1 : decode c_Pl_isLastInRow 1 = .ok (.getfield 22, 3) := by decide +kernel
theorem d_Pl_isLastInRow_4 : decode c_Pl_isLastInRow 4 = .ok (.iload_n 1, 1) := by decide +kernel
theorem d_Pl_isLastInRow_5 : decode c_Pl_isLastInRow 5 = .ok (.baload, 1) := by decide +kernel
theorem d_Pl_isLastInRow_6 : decode c_Pl_isLastInRow 6 = .ok (.ireturn, 1) := by decide +kernel
theorem d_In_bitCount_0 : decode c_In_bitCount 0 = .ok (.iload_n 0, 1) := by decide +kernel
theorem d_In_bitCount_1 : decode c_In_bitCount 1 = .ok (.iload_n 0, 1) := by decide +kernel
theorem d_In_bitCount_2 : decode c_In_bitCount 2 = .ok (.iconst 1, 1) := by decide +kernel
theorem d_In_bitCount_3 : decode c_In_bitCount 3 = .ok (.iushr, 1) := by decide +kernel
theorem d_In_bitCount_4 : decode c_In_bitCount 4 = .ok (.ldc_w 265, 3) := by decide +kernel
theorem d_In_bitCount_7 : decode c_In_bitCount 7 = .ok (.iand, 1) := by decide +kernel
theorem d_In_bitCount_8 : decode c_In_bitCount 8 = .ok (.isub, 1) := by decide +kernel
theorem d_In_bitCount_9 : decode c_In_bitCount 9 = .ok (.istore_n 0, 1) := by decide +kernel
theorem d_In_bitCount_10 : decode c_In_bitCount 10 = .ok (.iload_n 0, 1) := by decide +kernel
theorem d_In_bitCount_11 : decode c_In_bitCount 11 = .ok (.ldc_w 266, 3) := by decide +kernel
theorem d_In_bitCount_14 : decode c_In_bitCount 14 = .ok (.iand, 1) := by decide +kernel
theorem d_In_bitCount_15 : decode c_In_bitCount 15 = .ok (.iload_n 0, 1) := by decide +kernel
theorem d_In_bitCount_16 : decode c_In_bitCount 16 = .ok (.iconst 2, 1) := by decide +kernel
theorem d_In_bitCount_17 : decode c_In_bitCount 17 = .ok (.iushr, 1) := by decide +kernel
theorem d_In_bitCount_18 : decode c_In_bitCount 18 = .ok (.ldc_w 266, 3) := by decide +kernel
theorem d_In_bitCount_21 : decode c_In_bitCount 21 = .ok (.iand, 1) := by decide +kernel
theorem d_In_bitCount_22 : decode c_In_bitCount 22 = .ok (.iadd, 1) := by decide +kernel
theorem d_In_bitCount_23 : decode c_In_bitCount 23 = .ok (.istore_n 0, 1) := by decide +kernel
theorem d_In_bitCount_24 : decode c_In_bitCount 24 = .ok (.iload_n 0, 1) := by decide +kernel
theorem d_In_bitCount_25 : decode c_In_bitCount 25 = .ok (.iload_n 0, 1) := by decide +kernel
theorem d_In_bitCount_26 : decode c_In_bitCount 26 = .ok (.iconst 4, 1) := by decide +kernel
theorem d_In_bitCount_27 : decode c_In_bitCount 27 = .ok (.iushr, 1) := by decide +kernel
theorem d_In_bitCount_28 : decode c_In_bitCount 28 = .ok (.iadd, 1) := by decide +kernel
theorem d_In_bitCount_29 : decode c_In_bitCount 29 = .ok (.ldc_w 267, 3) := by decide +kernel
theorem d_In_bitCount_32 : decode c_In_bitCount 32 = .ok (.iand, 1) := by decide +kernel
theorem d_In_bitCount_33 : decode c_In_bitCount 33 = .ok (.istore_n 0, 1) := by decide +kernel
theorem d_In_bitCount_34 : decode c_In_bitCount 34 = .ok (.iload_n 0, 1) := by decide +kernel
theorem d_In_bitCount_35 : decode c_In_bitCount 35 = .ok (.iload_n 0, 1) := by decide +kernel
theorem d_In_bitCount_36 : decode c_In_bitCount 36 = .ok (.bipush 8, 2) := by decide +kernel
theorem d_In_bitCount_38 : decode c_In_bitCount 38 = .ok (.iushr, 1) := by decide +kernel
theorem d_In_bitCount_39 : decode c_In_bitCount 39 = .ok (.iadd, 1) := by decide +kernel
theorem d_In_bitCount_40 : decode c_In_bitCount 40 = .ok (.istore_n 0, 1) := by decide +kernel
theorem d_In_bitCount_41 : decode c_In_bitCount 41 = .ok (.iload_n 0, 1) := by decide +kernel
theorem d_In_bitCount_42 : decode c_In_bitCount 42 = .ok (.iload_n 0, 1) := by decide +kernel
theorem d_In_bitCount_43 : decode c_In_bitCount 43 = .ok (.bipush 16, 2) := by decide +kernel
theorem d_In_bitCount_45 : decode c_In_bitCount 45 = .ok (.iushr, 1) := by decide +kernel
theorem d_In_bitCount_46 : decode c_In_bitCount 46 = .ok (.iadd, 1) := by decide +kernel
theorem d_In_bitCount_47 : decode c_In_bitCount 47 = .ok (.istore_n 0, 1) := by decide +kernel
theorem d_In_bitCount_48 : decode c_In_bitCount 48 = .ok (.iload_n 0, 1) := by decide +kernel
theorem d_In_bitCount_49 : decode c_In_bitCount 49 = .ok (.bipush 63, 2) := by decide +kernel
theorem d_In_bitCount_51 : decode c_In_bitCount 51 = .ok (.iand, 1) := by decide +kernel
theorem d_In_bitCount_52 : decode c_In_bitCount 52 = .ok (.ireturn, 1) := by decide +kernel
theorem d_Ar_fill_0 : decode c_Ar_fill 0 = .ok (.iconst 0, 1) := by decide +kernel
theorem d_Ar_fill_1 : decode c_Ar_fill 1 = .ok (.istore_n 2, 1) := by decide +kernel
theorem d_Ar_fill_2 : decode c_Ar_fill 2 = .ok (.aload_n 0, 1) := by decide +kernel
theorem d_Ar_fill_3 : decode c_Ar_fill 3 = .ok (.arraylength, 1) := by decide +kernel
theorem d_Ar_fill_4 : decode c_Ar_fill 4 = .ok (.istore_n 3, 1) := by decide +kernel
theorem d_Ar_fill_5 : decode c_Ar_fill 5 = .ok (.iload_n 2, 1) := by decide +kernel
theorem d_Ar_fill_6 : decode c_Ar_fill 6 = .ok (.iload_n 3, 1) := by decide +kernel
theorem d_Ar_fill_7 : decode c_Ar_fill 7 = .ok (.if_icmp .ge 13, 3) := by decide +kernel
theorem d_Ar_fill_10 : decode c_Ar_fill 10 = .ok (.aload_n 0, 1) := by decide +kernel
theorem d_Ar_fill_11 : decode c_Ar_fill 11 = .ok (.iload_n 2, 1) := by decide +kernel
theorem d_Ar_fill_12 : decode c_Ar_fill 12 = .ok (.iload_n 1, 1) := by decide +kernel
theorem d_Ar_fill_13 : decode c_Ar_fill 13 = .ok (.iastore, 1) := by decide +kernel
theorem d_Ar_fill_14 : decode c_Ar_fill 14 = .ok (.iinc 2 1, 3) := by decide +kernel
theorem d_Ar_fill_17 : decode c_Ar_fill 17 = .ok (.goto (-12), 3) := by decide +kernel
theorem d_Ar_fill_20 : decode c_Ar_fill 20 = .ok (.return_, 1) := by decide +kernel
end
section
/-! decode rows, by program (wip/whole/mk02.py) -/
theorem d_SM_init_0 : decode c_SM_init 0 = .ok (.aload_n 0, 1) := by decide +kernel
theorem d_SM_init_1 : decode c_SM_init 1 = .ok (.invokespecial 1, 3) := by decide +kernel
theorem d_SM_init_4 : decode c_SM_init 4 = .ok (.aload_n 0, 1) := by decide +kernel
theorem d_SM_init_5 : decode c_SM_init 5 = .ok (.new 7, 3) := by decide +kernel
theorem d_SM_init_8 : decode c_SM_init 8 = .ok (.dup, 1) := by decide +kernel
theorem d_SM_init_9 : decode c_SM_init 9 = .ok (.invokespecial 9, 3) := by decide +kernel
theorem d_SM_init_12 : decode c_SM_init 12 = .ok (.putfield 10, 3) := by decide +kernel
theorem d_SM_init_15 : decode c_SM_init 15 = .ok (.aload_n 0, 1) := by decide +kernel
theorem d_SM_init_16 : decode c_SM_init 16 = .ok (.new 16, 3) := by decide +kernel
theorem d_SM_init_19 : decode c_SM_init 19 = .ok (.dup, 1) := by decide +kernel
theorem d_SM_init_20 : decode c_SM_init 20 = .ok (.aload_n 0, 1) := by decide +kernel
theorem d_SM_init_21 : decode c_SM_init 21 = .ok (.getfield 10, 3) := by decide +kernel
theorem d_SM_init_24 : decode c_SM_init 24 = .ok (.invokespecial 18, 3) := by decide +kernel
theorem d_SM_init_27 : decode c_SM_init 27 = .ok (.putfield 21, 3) := by decide +kernel
theorem d_SM_init_30 : decode c_SM_init 30 = .ok (.aload_n 0, 1) := by decide +kernel
theorem d_SM_init_31 : decode c_SM_init 31 = .ok (.bipush 30, 2) := by decide +kernel
theorem d_SM_init_33 : decode c_SM_init 33 = .ok (.newarray .int, 2) := by decide +kernel
theorem d_SM_init_35 : decode c_SM_init 35 = .ok (.putfield 25, 3) := by decide +kernel
theorem d_SM_init_38 : decode c_SM_init 38 = .ok (.aload_n 0, 1) := by decide +kernel
theorem d_SM_init_39 : decode c_SM_init 39 = .ok (.iconst 0, 1) := by decide +kernel
theorem d_SM_init_40 : decode c_SM_init 40 = .ok (.putfield 29, 3) := by decide +kernel
theorem d_SM_init_43 : decode c_SM_init 43 = .ok (.aload_n 0, 1) := by decide +kernel
theorem d_SM_init_44 : decode c_SM_init 44 = .ok (.bipush 30, 2) := by decide +kernel
theorem d_SM_init_46 : decode c_SM_init 46 = .ok (.newarray .int, 2) := by decide +kernel
theorem d_SM_init_48 : decode c_SM_init 48 = .ok (.putfield 33, 3) := by decide +kernel
theorem d_SM_init_51 : decode c_SM_init 51 = .ok (.aload_n 0, 1) := by decide +kernel
theorem d_SM_init_52 : decode c_SM_init 52 = .ok (.iconst 0, 1) := by decide +kernel
theorem d_SM_init_53 : decode c_SM_init 53 = .ok (.putfield 36, 3) := by decide +kernel
theorem d_SM_init_56 : decode c_SM_init 56 = .ok (.return_, 1) := by decide +kernel
theorem d_SM_leaf_0 : decode c_SM_leaf 0 = .ok (.iload_n 1, 1) := by decide +kernel
theorem d_SM_leaf_1 : decode c_SM_leaf 1 = .ok (.bipush 100, 2) := by decide +kernel
theorem d_SM_leaf_3 : decode c_SM_leaf 3 = .ok (.invokestatic 39, 3) := by decide +kernel
theorem d_SM_leaf_6 : decode c_SM_leaf 6 = .ok (.aload_n 0, 1) := by decide +kernel
theorem d_SM_leaf_7 : decode c_SM_leaf 7 = .ok (.iconst 0, 1) := by decide +kernel
theorem d_SM_leaf_8 : decode c_SM_leaf 8 = .ok (.iload_n 1, 1) := by decide +kernel
theorem d_SM_leaf_9 : decode c_SM_leaf 9 = .ok (.iconst 0, 1) := by decide +kernel
theorem d_SM_leaf_10 : decode c_SM_leaf 10 = .ok (.invokevirtual 43, 3) := by decide +kernel
theorem d_SM_leaf_13 : decode c_SM_leaf 13 = .ok (.ireturn, 1) := by decide +kernel
theorem d_SM_node_0 : decode c_SM_node 0 = .ok (.iload_n 1, 1) := by decide +kernel
theorem d_SM_node_1 : decode c_SM_node 1 = .ok (.bipush 10, 2) := by decide +kernel
theorem d_SM_node_3 : decode c_SM_node 3 = .ok (.invokestatic 39, 3) := by decide +kernel
theorem d_SM_node_6 : decode c_SM_node 6 = .ok (.aload_n 0, 1) := by decide +kernel
theorem d_SM_node_7 : decode c_SM_node 7 = .ok (.iconst 1, 1) := by decide +kernel
theorem d_SM_node_8 : decode c_SM_node 8 = .ok (.iload_n 1, 1) := by decide +kernel
theorem d_SM_node_9 : decode c_SM_node 9 = .ok (.iconst 0, 1) := by decide +kernel
theorem d_SM_node_10 : decode c_SM_node 10 = .ok (.invokevirtual 43, 3) := by decide +kernel
theorem d_SM_node_13 : decode c_SM_node 13 = .ok (.ireturn, 1) := by decide +kernel
theorem d_SM_more_0 : decode c_SM_more 0 = .ok (.aload_n 0, 1) := by decide +kernel
theorem d_SM_more_1 : decode c_SM_more 1 = .ok (.iload_n 1, 1) := by decide +kernel
theorem d_SM_more_2 : decode c_SM_more 2 = .ok (.invokevirtual 47, 3) := by decide +kernel
theorem d_SM_more_5 : decode c_SM_more 5 = .ok (.aload_n 0, 1) := by decide +kernel
theorem d_SM_more_6 : decode c_SM_more 6 = .ok (.iload_n 2, 1) := by decide +kernel
theorem d_SM_more_7 : decode c_SM_more 7 = .ok (.invokevirtual 47, 3) := by decide +kernel
theorem d_SM_more_10 : decode c_SM_more 10 = .ok (.aload_n 0, 1) := by decide +kernel
theorem d_SM_more_11 : decode c_SM_more 11 = .ok (.getfield 10, 3) := by decide +kernel
theorem d_SM_more_14 : decode c_SM_more 14 = .ok (.iload_n 1, 1) := by decide +kernel
theorem d_SM_more_15 : decode c_SM_more 15 = .ok (.iload_n 2, 1) := by decide +kernel
theorem d_SM_more_16 : decode c_SM_more 16 = .ok (.invokevirtual 51, 3) := by decide +kernel
theorem d_SM_more_19 : decode c_SM_more 19 = .ok (.ifCond .ne 13, 3) := by decide +kernel
theorem d_SM_more_22 : decode c_SM_more 22 = .ok (.new 55, 3) := by decide +kernel
theorem d_SM_more_25 : decode c_SM_more 25 = .ok (.dup, 1) := by decide +kernel
theorem d_SM_more_26 : decode c_SM_more 26 = .ok (.ldc 57, 2) := by decide +kernel
theorem d_SM_more_28 : decode c_SM_more 28 = .ok (.invokespecial 59, 3) := by decide +kernel
theorem d_SM_more_31 : decode c_SM_more 31 = .ok (.athrow, 1) := by decide +kernel
theorem d_SM_more_32 : decode c_SM_more 32 = .ok (.aload_n 0, 1) := by decide +kernel
theorem d_SM_more_33 : decode c_SM_more 33 = .ok (.getfield 10, 3) := by decide +kernel
theorem d_SM_more_36 : decode c_SM_more 36 = .ok (.iload_n 1, 1) := by decide +kernel
theorem d_SM_more_37 : decode c_SM_more 37 = .ok (.iload_n 2, 1) := by decide +kernel
theorem d_SM_more_38 : decode c_SM_more 38 = .ok (.invokevirtual 62, 3) := by decide +kernel
theorem d_SM_more_41 : decode c_SM_more 41 = .ok (.ireturn, 1) := by decide +kernel
theorem d_SM_hole_0 : decode c_SM_hole 0 = .ok (.iload_n 1, 1) := by decide +kernel
theorem d_SM_hole_1 : decode c_SM_hole 1 = .ok (.bipush 8, 2) := by decide +kernel
theorem d_SM_hole_3 : decode c_SM_hole 3 = .ok (.invokestatic 39, 3) := by decide +kernel
theorem d_SM_hole_6 : decode c_SM_hole 6 = .ok (.iload_n 2, 1) := by decide +kernel
theorem d_SM_hole_7 : decode c_SM_hole 7 = .ok (.iconst 4, 1) := by decide +kernel
theorem d_SM_hole_8 : decode c_SM_hole 8 = .ok (.invokestatic 39, 3) := by decide +kernel
theorem d_SM_hole_11 : decode c_SM_hole 11 = .ok (.aload_n 0, 1) := by decide +kernel
theorem d_SM_hole_12 : decode c_SM_hole 12 = .ok (.iconst 2, 1) := by decide +kernel
theorem d_SM_hole_13 : decode c_SM_hole 13 = .ok (.iload_n 1, 1) := by decide +kernel
theorem d_SM_hole_14 : decode c_SM_hole 14 = .ok (.iload_n 2, 1) := by decide +kernel
theorem d_SM_hole_15 : decode c_SM_hole 15 = .ok (.invokevirtual 43, 3) := by decide +kernel
theorem d_SM_hole_18 : decode c_SM_hole 18 = .ok (.ireturn, 1) := by decide +kernel
theorem d_SM_test_0 : decode c_SM_test 0 = .ok (.aload_n 0, 1) := by decide +kernel
theorem d_SM_test_1 : decode c_SM_test 1 = .ok (.iload_n 1, 1) := by decide +kernel
theorem d_SM_test_2 : decode c_SM_test 2 = .ok (.invokevirtual 47, 3) := by decide +kernel
theorem d_SM_test_5 : decode c_SM_test 5 = .ok (.aload_n 0, 1) := by decide +kernel
theorem d_SM_test_6 : decode c_SM_test 6 = .ok (.getfield 10, 3) := by decide +kernel
theorem d_SM_test_9 : decode c_SM_test 9 = .ok (.iload_n 1, 1) := by decide +kernel
theorem d_SM_test_10 : decode c_SM_test 10 = .ok (.invokevirtual 65, 3) := by decide +kernel
theorem d_SM_test_13 : decode c_SM_test 13 = .ok (.ifCond .ne 13, 3) := by decide +kernel
theorem d_SM_test_16 : decode c_SM_test 16 = .ok (.new 55, 3) := by decide +kernel
theorem d_SM_test_19 : decode c_SM_test 19 = .ok (.dup, 1) := by decide +kernel
theorem d_SM_test_20 : decode c_SM_test 20 = .ok (.ldc 69, 2) := by decide +kernel
theorem d_SM_test_22 : decode c_SM_test 22 = .ok (.invokespecial 59, 3) := by decide +kernel
theorem d_SM_test_25 : decode c_SM_test 25 = .ok (.athrow, 1) := by decide +kernel
theorem d_SM_test_26 : decode c_SM_test 26 = .ok (.iload_n 2, 1) := by decide +kernel
theorem d_SM_test_27 : decode c_SM_test 27 = .ok (.iconst 5, 1) := by decide +kernel
theorem d_SM_test_28 : decode c_SM_test 28 = .ok (.invokestatic 39, 3) := by decide +kernel
theorem d_SM_test_31 : decode c_SM_test 31 = .ok (.aload_n 0, 1) := by decide +kernel
theorem d_SM_test_32 : decode c_SM_test 32 = .ok (.getfield 10, 3) := by decide +kernel
theorem d_SM_test_35 : decode c_SM_test 35 = .ok (.iload_n 1, 1) := by decide +kernel
theorem d_SM_test_36 : decode c_SM_test 36 = .ok (.iload_n 2, 1) := by decide +kernel
theorem d_SM_test_37 : decode c_SM_test 37 = .ok (.iload_n 3, 1) := by decide +kernel
theorem d_SM_test_38 : decode c_SM_test 38 = .ok (.invokevirtual 71, 3) := by decide +kernel
theorem d_SM_test_41 : decode c_SM_test 41 = .ok (.ireturn, 1) := by decide +kernel
theorem d_SM_match_0 : decode c_SM_match 0 = .ok (.aload_n 0, 1) := by decide +kernel
theorem d_SM_match_1 : decode c_SM_match 1 = .ok (.iload_n 1, 1) := by decide +kernel
theorem d_SM_match_2 : decode c_SM_match 2 = .ok (.invokevirtual 47, 3) := by decide +kernel
theorem d_SM_match_5 : decode c_SM_match 5 = .ok (.aload_n 0, 1) := by decide +kernel
theorem d_SM_match_6 : decode c_SM_match 6 = .ok (.iload_n 2, 1) := by decide +kernel
theorem d_SM_match_7 : decode c_SM_match 7 = .ok (.invokevirtual 75, 3) := by decide +kernel
theorem d_SM_match_10 : decode c_SM_match 10 = .ok (.iload_n 3, 1) := by decide +kernel
theorem d_SM_match_11 : decode c_SM_match 11 = .ok (.sipush 401, 3) := by decide +kernel
theorem d_SM_match_14 : decode c_SM_match 14 = .ok (.invokestatic 39, 3) := by decide +kernel
theorem d_SM_match_17 : decode c_SM_match 17 = .ok (.aload_n 0, 1) := by decide +kernel
theorem d_SM_match_18 : decode c_SM_match 18 = .ok (.getfield 21, 3) := by decide +kernel
theorem d_SM_match_21 : decode c_SM_match 21 = .ok (.iload_n 1, 1) := by decide +kernel
theorem d_SM_match_22 : decode c_SM_match 22 = .ok (.iload_n 2, 1) := by decide +kernel
theorem d_SM_match_23 : decode c_SM_match 23 = .ok (.iload_n 3, 1) := by decide +kernel
theorem d_SM_match_24 : decode c_SM_match 24 = .ok (.invokevirtual 78, 3) := by decide +kernel
theorem d_SM_match_27 : decode c_SM_match 27 = .ok (.aload_n 0, 1) := by decide +kernel
theorem d_SM_match_28 : decode c_SM_match 28 = .ok (.getfield 21, 3) := by decide +kernel
theorem d_SM_match_31 : decode c_SM_match 31 = .ok (.invokevirtual 82, 3) := by decide +kernel
theorem d_SM_match_34 : decode c_SM_match 34 = .ok (.ifCond .eq 7, 3) := by decide +kernel
theorem d_SM_match_37 : decode c_SM_match 37 = .ok (.iconst (-1), 1) := by decide +kernel
theorem d_SM_match_38 : decode c_SM_match 38 = .ok (.goto 10, 3) := by decide +kernel
theorem d_SM_match_41 : decode c_SM_match 41 = .ok (.aload_n 0, 1) := by decide +kernel
theorem d_SM_match_42 : decode c_SM_match 42 = .ok (.getfield 21, 3) := by decide +kernel
theorem d_SM_match_45 : decode c_SM_match 45 = .ok (.invokevirtual 86, 3) := by decide +kernel
theorem d_SM_match_48 : decode c_SM_match 48 = .ok (.ireturn, 1) := by decide +kernel
theorem d_SM_tried_0 : decode c_SM_tried 0 = .ok (.aload_n 0, 1) := by decide +kernel
theorem d_SM_tried_1 : decode c_SM_tried 1 = .ok (.getfield 21, 3) := by decide +kernel
theorem d_SM_tried_4 : decode c_SM_tried 4 = .ok (.invokevirtual 90, 3) := by decide +kernel
theorem d_SM_tried_7 : decode c_SM_tried 7 = .ok (.ireturn, 1) := by decide +kernel
theorem d_SM_bound_0 : decode c_SM_bound 0 = .ok (.aload_n 0, 1) := by decide +kernel
theorem d_SM_bound_1 : decode c_SM_bound 1 = .ok (.iload_n 1, 1) := by decide +kernel
theorem d_SM_bound_2 : decode c_SM_bound 2 = .ok (.invokevirtual 93, 3) := by decide +kernel
theorem d_SM_bound_5 : decode c_SM_bound 5 = .ok (.iload_n 2, 1) := by decide +kernel
theorem d_SM_bound_6 : decode c_SM_bound 6 = .ok (.bipush 8, 2) := by decide +kernel
theorem d_SM_bound_8 : decode c_SM_bound 8 = .ok (.invokestatic 39, 3) := by decide +kernel
theorem d_SM_bound_11 : decode c_SM_bound 11 = .ok (.aload_n 0, 1) := by decide +kernel
theorem d_SM_bound_12 : decode c_SM_bound 12 = .ok (.getfield 21, 3) := by decide +kernel
theorem d_SM_bound_15 : decode c_SM_bound 15 = .ok (.invokevirtual 96, 3) := by decide +kernel
theorem d_SM_bound_18 : decode c_SM_bound 18 = .ok (.iload_n 1, 1) := by decide +kernel
theorem d_SM_bound_19 : decode c_SM_bound 19 = .ok (.iload_n 2, 1) := by decide +kernel
theorem d_SM_bound_20 : decode c_SM_bound 20 = .ok (.iload_n 3, 1) := by decide +kernel
theorem d_SM_bound_21 : decode c_SM_bound 21 = .ok (.invokevirtual 100, 3) := by decide +kernel
theorem d_SM_bound_24 : decode c_SM_bound 24 = .ok (.ireturn, 1) := by decide +kernel
theorem d_SM_many_0 : decode c_SM_many 0 = .ok (.aload_n 0, 1) := by decide +kernel
theorem d_SM_many_1 : decode c_SM_many 1 = .ok (.iload_n 1, 1) := by decide +kernel
theorem d_SM_many_2 : decode c_SM_many 2 = .ok (.invokevirtual 93, 3) := by decide +kernel
theorem d_SM_many_5 : decode c_SM_many 5 = .ok (.iload_n 2, 1) := by decide +kernel
theorem d_SM_many_6 : decode c_SM_many 6 = .ok (.bipush 8, 2) := by decide +kernel
theorem d_SM_many_8 : decode c_SM_many 8 = .ok (.invokestatic 39, 3) := by decide +kernel
theorem d_SM_many_11 : decode c_SM_many 11 = .ok (.aload_n 0, 1) := by decide +kernel
theorem d_SM_many_12 : decode c_SM_many 12 = .ok (.getfield 21, 3) := by decide +kernel
theorem d_SM_many_15 : decode c_SM_many 15 = .ok (.invokevirtual 96, 3) := by decide +kernel
theorem d_SM_many_18 : decode c_SM_many 18 = .ok (.iload_n 1, 1) := by decide +kernel
theorem d_SM_many_19 : decode c_SM_many 19 = .ok (.iload_n 2, 1) := by decide +kernel
theorem d_SM_many_20 : decode c_SM_many 20 = .ok (.invokevirtual 105, 3) := by decide +kernel
theorem d_SM_many_23 : decode c_SM_many 23 = .ok (.ireturn, 1) := by decide +kernel
theorem d_SM_rule_0 : decode c_SM_rule 0 = .ok (.aload_n 0, 1) := by decide +kernel
theorem d_SM_rule_1 : decode c_SM_rule 1 = .ok (.iload_n 1, 1) := by decide +kernel
theorem d_SM_rule_2 : decode c_SM_rule 2 = .ok (.invokevirtual 47, 3) := by decide +kernel
theorem d_SM_rule_5 : decode c_SM_rule 5 = .ok (.aload_n 0, 1) := by decide +kernel
theorem d_SM_rule_6 : decode c_SM_rule 6 = .ok (.getfield 29, 3) := by decide +kernel
theorem d_SM_rule_9 : decode c_SM_rule 9 = .ok (.bipush 30, 2) := by decide +kernel
theorem d_SM_rule_11 : decode c_SM_rule 11 = .ok (.if_icmp .lt 13, 3) := by decide +kernel
theorem d_SM_rule_14 : decode c_SM_rule 14 = .ok (.new 109, 3) := by decide +kernel
theorem d_SM_rule_17 : decode c_SM_rule 17 = .ok (.dup, 1) := by decide +kernel
theorem d_SM_rule_18 : decode c_SM_rule 18 = .ok (.ldc 111, 2) := by decide +kernel
theorem d_SM_rule_20 : decode c_SM_rule 20 = .ok (.invokespecial 113, 3) := by decide +kernel
theorem d_SM_rule_23 : decode c_SM_rule 23 = .ok (.athrow, 1) := by decide +kernel
theorem d_SM_rule_24 : decode c_SM_rule 24 = .ok (.aload_n 0, 1) := by decide +kernel
theorem d_SM_rule_25 : decode c_SM_rule 25 = .ok (.getfield 10, 3) := by decide +kernel
theorem d_SM_rule_28 : decode c_SM_rule 28 = .ok (.iload_n 1, 1) := by decide +kernel
theorem d_SM_rule_29 : decode c_SM_rule 29 = .ok (.invokevirtual 114, 3) := by decide +kernel
theorem d_SM_rule_32 : decode c_SM_rule 32 = .ok (.aload_n 0, 1) := by decide +kernel
theorem d_SM_rule_33 : decode c_SM_rule 33 = .ok (.getfield 25, 3) := by decide +kernel
theorem d_SM_rule_36 : decode c_SM_rule 36 = .ok (.aload_n 0, 1) := by decide +kernel
theorem d_SM_rule_37 : decode c_SM_rule 37 = .ok (.getfield 29, 3) := by decide +kernel
theorem d_SM_rule_40 : decode c_SM_rule 40 = .ok (.iload_n 1, 1) := by decide +kernel
theorem d_SM_rule_41 : decode c_SM_rule 41 = .ok (.iastore, 1) := by decide +kernel
theorem d_SM_rule_42 : decode c_SM_rule 42 = .ok (.aload_n 0, 1) := by decide +kernel
theorem d_SM_rule_43 : decode c_SM_rule 43 = .ok (.dup, 1) := by decide +kernel
theorem d_SM_rule_44 : decode c_SM_rule 44 = .ok (.getfield 29, 3) := by decide +kernel
theorem d_SM_rule_47 : decode c_SM_rule 47 = .ok (.iconst 1, 1) := by decide +kernel
theorem d_SM_rule_48 : decode c_SM_rule 48 = .ok (.iadd, 1) := by decide +kernel
theorem d_SM_rule_49 : decode c_SM_rule 49 = .ok (.putfield 29, 3) := by decide +kernel
theorem d_SM_rule_52 : decode c_SM_rule 52 = .ok (.aload_n 0, 1) := by decide +kernel
theorem d_SM_rule_53 : decode c_SM_rule 53 = .ok (.getfield 29, 3) := by decide +kernel
theorem d_SM_rule_56 : decode c_SM_rule 56 = .ok (.iconst 1, 1) := by decide +kernel
theorem d_SM_rule_57 : decode c_SM_rule 57 = .ok (.isub, 1) := by decide +kernel
theorem d_SM_rule_58 : decode c_SM_rule 58 = .ok (.ireturn, 1) := by decide +kernel
theorem d_SM_net_0 : decode c_SM_net 0 = .ok (.aload_n 0, 1) := by decide +kernel
theorem d_SM_net_1 : decode c_SM_net 1 = .ok (.iload_n 1, 1) := by decide +kernel
theorem d_SM_net_2 : decode c_SM_net 2 = .ok (.invokevirtual 75, 3) := by decide +kernel
theorem d_SM_net_5 : decode c_SM_net 5 = .ok (.aload_n 0, 1) := by decide +kernel
theorem d_SM_net_6 : decode c_SM_net 6 = .ok (.iconst 0, 1) := by decide +kernel
theorem d_SM_net_7 : decode c_SM_net 7 = .ok (.putfield 36, 3) := by decide +kernel
theorem d_SM_net_10 : decode c_SM_net 10 = .ok (.iconst 0, 1) := by decide +kernel
theorem d_SM_net_11 : decode c_SM_net 11 = .ok (.istore_n 2, 1) := by decide +kernel
theorem d_SM_net_12 : decode c_SM_net 12 = .ok (.iload_n 2, 1) := by decide +kernel
theorem d_SM_net_13 : decode c_SM_net 13 = .ok (.aload_n 0, 1) := by decide +kernel
theorem d_SM_net_14 : decode c_SM_net 14 = .ok (.getfield 29, 3) := by decide +kernel
theorem d_SM_net_17 : decode c_SM_net 17 = .ok (.if_icmp .ge 46, 3) := by decide +kernel
theorem d_SM_net_20 : decode c_SM_net 20 = .ok (.aload_n 0, 1) := by decide +kernel
theorem d_SM_net_21 : decode c_SM_net 21 = .ok (.getfield 10, 3) := by decide +kernel
theorem d_SM_net_24 : decode c_SM_net 24 = .ok (.aload_n 0, 1) := by decide +kernel
theorem d_SM_net_25 : decode c_SM_net 25 = .ok (.getfield 25, 3) := by decide +kernel
theorem d_SM_net_28 : decode c_SM_net 28 = .ok (.iload_n 2, 1) := by decide +kernel
theorem d_SM_net_29 : decode c_SM_net 29 = .ok (.iaload, 1) := by decide +kernel
theorem d_SM_net_30 : decode c_SM_net 30 = .ok (.iload_n 1, 1) := by decide +kernel
theorem d_SM_net_31 : decode c_SM_net 31 = .ok (.invokevirtual 117, 3) := by decide +kernel
theorem d_SM_net_34 : decode c_SM_net 34 = .ok (.ifCond .eq 23, 3) := by decide +kernel
theorem d_SM_net_37 : decode c_SM_net 37 = .ok (.aload_n 0, 1) := by decide +kernel
theorem d_SM_net_38 : decode c_SM_net 38 = .ok (.getfield 33, 3) := by decide +kernel
theorem d_SM_net_41 : decode c_SM_net 41 = .ok (.aload_n 0, 1) := by decide +kernel
theorem d_SM_net_42 : decode c_SM_net 42 = .ok (.getfield 36, 3) := by decide +kernel
theorem d_SM_net_45 : decode c_SM_net 45 = .ok (.iload_n 2, 1) := by decide +kernel
theorem d_SM_net_46 : decode c_SM_net 46 = .ok (.iastore, 1) := by decide +kernel
theorem d_SM_net_47 : decode c_SM_net 47 = .ok (.aload_n 0, 1) := by decide +kernel
theorem d_SM_net_48 : decode c_SM_net 48 = .ok (.dup, 1) := by decide +kernel
theorem d_SM_net_49 : decode c_SM_net 49 = .ok (.getfield 36, 3) := by decide +kernel
theorem d_SM_net_52 : decode c_SM_net 52 = .ok (.iconst 1, 1) := by decide +kernel
theorem d_SM_net_53 : decode c_SM_net 53 = .ok (.iadd, 1) := by decide +kernel
theorem d_SM_net_54 : decode c_SM_net 54 = .ok (.putfield 36, 3) := by decide +kernel
theorem d_SM_net_57 : decode c_SM_net 57 = .ok (.iinc 2 1, 3) := by decide +kernel
theorem d_SM_net_60 : decode c_SM_net 60 = .ok (.goto (-48), 3) := by decide +kernel
theorem d_SM_net_63 : decode c_SM_net 63 = .ok (.aload_n 0, 1) := by decide +kernel
theorem d_SM_net_64 : decode c_SM_net 64 = .ok (.getfield 36, 3) := by decide +kernel
theorem d_SM_net_67 : decode c_SM_net 67 = .ok (.ireturn, 1) := by decide +kernel
theorem d_SM_rules_0 : decode c_SM_rules 0 = .ok (.iload_n 1, 1) := by decide +kernel
theorem d_SM_rules_1 : decode c_SM_rules 1 = .ok (.ifCond .lt 20, 3) := by decide +kernel
theorem d_SM_rules_4 : decode c_SM_rules 4 = .ok (.iload_n 1, 1) := by decide +kernel
theorem d_SM_rules_5 : decode c_SM_rules 5 = .ok (.aload_n 0, 1) := by decide +kernel
theorem d_SM_rules_6 : decode c_SM_rules 6 = .ok (.getfield 36, 3) := by decide +kernel
theorem d_SM_rules_9 : decode c_SM_rules 9 = .ok (.if_icmp .ge 12, 3) := by decide +kernel
theorem d_SM_rules_12 : decode c_SM_rules 12 = .ok (.aload_n 0, 1) := by decide +kernel
theorem d_SM_rules_13 : decode c_SM_rules 13 = .ok (.getfield 33, 3) := by decide +kernel
theorem d_SM_rules_16 : decode c_SM_rules 16 = .ok (.iload_n 1, 1) := by decide +kernel
theorem d_SM_rules_17 : decode c_SM_rules 17 = .ok (.iaload, 1) := by decide +kernel
theorem d_SM_rules_18 : decode c_SM_rules 18 = .ok (.goto 4, 3) := by decide +kernel
theorem d_SM_rules_21 : decode c_SM_rules 21 = .ok (.iconst (-1), 1) := by decide +kernel
theorem d_SM_rules_22 : decode c_SM_rules 22 = .ok (.ireturn, 1) := by decide +kernel
theorem d_SM_first_0 : decode c_SM_first 0 = .ok (.aload_n 0, 1) := by decide +kernel
theorem d_SM_first_1 : decode c_SM_first 1 = .ok (.iload_n 1, 1) := by decide +kernel
theorem d_SM_first_2 : decode c_SM_first 2 = .ok (.invokevirtual 75, 3) := by decide +kernel
theorem d_SM_first_5 : decode c_SM_first 5 = .ok (.aload_n 0, 1) := by decide +kernel
theorem d_SM_first_6 : decode c_SM_first 6 = .ok (.getfield 21, 3) := by decide +kernel
theorem d_SM_first_9 : decode c_SM_first 9 = .ok (.invokevirtual 120, 3) := by decide +kernel
theorem d_SM_first_12 : decode c_SM_first 12 = .ok (.sipush 400, 3) := by decide +kernel
theorem d_SM_first_15 : decode c_SM_first 15 = .ok (.istore_n 2, 1) := by decide +kernel
theorem d_SM_first_16 : decode c_SM_first 16 = .ok (.iconst 0, 1) := by decide +kernel
theorem d_SM_first_17 : decode c_SM_first 17 = .ok (.istore_n 3, 1) := by decide +kernel
theorem d_SM_first_18 : decode c_SM_first 18 = .ok (.iload_n 3, 1) := by decide +kernel
theorem d_SM_first_19 : decode c_SM_first 19 = .ok (.aload_n 0, 1) := by decide +kernel
theorem d_SM_first_20 : decode c_SM_first 20 = .ok (.getfield 29, 3) := by decide +kernel
theorem d_SM_first_23 : decode c_SM_first 23 = .ok (.if_icmp .ge 63, 3) := by decide +kernel
theorem d_SM_first_26 : decode c_SM_first 26 = .ok (.aload_n 0, 1) := by decide +kernel
theorem d_SM_first_27 : decode c_SM_first 27 = .ok (.getfield 10, 3) := by decide +kernel
theorem d_SM_first_30 : decode c_SM_first 30 = .ok (.aload_n 0, 1) := by decide +kernel
theorem d_SM_first_31 : decode c_SM_first 31 = .ok (.getfield 25, 3) := by decide +kernel
theorem d_SM_first_34 : decode c_SM_first 34 = .ok (.iload_n 3, 1) := by decide +kernel
theorem d_SM_first_35 : decode c_SM_first 35 = .ok (.iaload, 1) := by decide +kernel
theorem d_SM_first_36 : decode c_SM_first 36 = .ok (.iload_n 1, 1) := by decide +kernel
theorem d_SM_first_37 : decode c_SM_first 37 = .ok (.invokevirtual 117, 3) := by decide +kernel
theorem d_SM_first_40 : decode c_SM_first 40 = .ok (.ifCond .eq 40, 3) := by decide +kernel
theorem d_SM_first_43 : decode c_SM_first 43 = .ok (.aload_n 0, 1) := by decide +kernel
theorem d_SM_first_44 : decode c_SM_first 44 = .ok (.getfield 21, 3) := by decide +kernel
theorem d_SM_first_47 : decode c_SM_first 47 = .ok (.aload_n 0, 1) := by decide +kernel
theorem d_SM_first_48 : decode c_SM_first 48 = .ok (.getfield 25, 3) := by decide +kernel
theorem d_SM_first_51 : decode c_SM_first 51 = .ok (.iload_n 3, 1) := by decide +kernel
theorem d_SM_first_52 : decode c_SM_first 52 = .ok (.iaload, 1) := by decide +kernel
theorem d_SM_first_53 : decode c_SM_first 53 = .ok (.iload_n 1, 1) := by decide +kernel
theorem d_SM_first_54 : decode c_SM_first 54 = .ok (.iload_n 2, 1) := by decide +kernel
theorem d_SM_first_55 : decode c_SM_first 55 = .ok (.invokevirtual 78, 3) := by decide +kernel
theorem d_SM_first_58 : decode c_SM_first 58 = .ok (.iload_n 2, 1) := by decide +kernel
theorem d_SM_first_59 : decode c_SM_first 59 = .ok (.aload_n 0, 1) := by decide +kernel
theorem d_SM_first_60 : decode c_SM_first 60 = .ok (.getfield 21, 3) := by decide +kernel
theorem d_SM_first_63 : decode c_SM_first 63 = .ok (.invokevirtual 90, 3) := by decide +kernel
theorem d_SM_first_66 : decode c_SM_first 66 = .ok (.isub, 1) := by decide +kernel
theorem d_SM_first_67 : decode c_SM_first 67 = .ok (.istore_n 2, 1) := by decide +kernel
theorem d_SM_first_68 : decode c_SM_first 68 = .ok (.aload_n 0, 1) := by decide +kernel
theorem d_SM_first_69 : decode c_SM_first 69 = .ok (.getfield 21, 3) := by decide +kernel
theorem d_SM_first_72 : decode c_SM_first 72 = .ok (.invokevirtual 86, 3) := by decide +kernel
theorem d_SM_first_75 : decode c_SM_first 75 = .ok (.ifCond .le 5, 3) := by decide +kernel
theorem d_SM_first_78 : decode c_SM_first 78 = .ok (.iload_n 3, 1) := by decide +kernel
theorem d_SM_first_79 : decode c_SM_first 79 = .ok (.ireturn, 1) := by decide +kernel
theorem d_SM_first_80 : decode c_SM_first 80 = .ok (.iinc 3 1, 3) := by decide +kernel
theorem d_SM_first_83 : decode c_SM_first 83 = .ok (.goto (-65), 3) := by decide +kernel
theorem d_SM_first_86 : decode c_SM_first 86 = .ok (.iconst (-1), 1) := by decide +kernel
theorem d_SM_first_87 : decode c_SM_first 87 = .ok (.ireturn, 1) := by decide +kernel
theorem d_SM_order_0 : decode c_SM_order 0 = .ok (.aload_n 0, 1) := by decide +kernel
theorem d_SM_order_1 : decode c_SM_order 1 = .ok (.iload_n 1, 1) := by decide +kernel
theorem d_SM_order_2 : decode c_SM_order 2 = .ok (.invokevirtual 47, 3) := by decide +kernel
theorem d_SM_order_5 : decode c_SM_order 5 = .ok (.aload_n 0, 1) := by decide +kernel
theorem d_SM_order_6 : decode c_SM_order 6 = .ok (.iload_n 2, 1) := by decide +kernel
theorem d_SM_order_7 : decode c_SM_order 7 = .ok (.invokevirtual 47, 3) := by decide +kernel
theorem d_SM_order_10 : decode c_SM_order 10 = .ok (.aload_n 0, 1) := by decide +kernel
theorem d_SM_order_11 : decode c_SM_order 11 = .ok (.iload_n 1, 1) := by decide +kernel
theorem d_SM_order_12 : decode c_SM_order 12 = .ok (.invokevirtual 75, 3) := by decide +kernel
theorem d_SM_order_15 : decode c_SM_order 15 = .ok (.aload_n 0, 1) := by decide +kernel
theorem d_SM_order_16 : decode c_SM_order 16 = .ok (.iload_n 2, 1) := by decide +kernel
theorem d_SM_order_17 : decode c_SM_order 17 = .ok (.invokevirtual 75, 3) := by decide +kernel
theorem d_SM_order_20 : decode c_SM_order 20 = .ok (.aload_n 0, 1) := by decide +kernel
theorem d_SM_order_21 : decode c_SM_order 21 = .ok (.getfield 10, 3) := by decide +kernel
theorem d_SM_order_24 : decode c_SM_order 24 = .ok (.iload_n 1, 1) := by decide +kernel
theorem d_SM_order_25 : decode c_SM_order 25 = .ok (.iload_n 2, 1) := by decide +kernel
theorem d_SM_order_26 : decode c_SM_order 26 = .ok (.invokevirtual 123, 3) := by decide +kernel
theorem d_SM_order_29 : decode c_SM_order 29 = .ok (.ireturn, 1) := by decide +kernel
theorem d_SM_parts_0 : decode c_SM_parts 0 = .ok (.aload_n 0, 1) := by decide +kernel
theorem d_SM_parts_1 : decode c_SM_parts 1 = .ok (.iload_n 1, 1) := by decide +kernel
theorem d_SM_parts_2 : decode c_SM_parts 2 = .ok (.invokevirtual 47, 3) := by decide +kernel
theorem d_SM_parts_5 : decode c_SM_parts 5 = .ok (.aload_n 0, 1) := by decide +kernel
theorem d_SM_parts_6 : decode c_SM_parts 6 = .ok (.getfield 10, 3) := by decide +kernel
theorem d_SM_parts_9 : decode c_SM_parts 9 = .ok (.iload_n 1, 1) := by decide +kernel
theorem d_SM_parts_10 : decode c_SM_parts 10 = .ok (.invokevirtual 126, 3) := by decide +kernel
theorem d_SM_parts_13 : decode c_SM_parts 13 = .ok (.ireturn, 1) := by decide +kernel
theorem d_SM_part_0 : decode c_SM_part 0 = .ok (.aload_n 0, 1) := by decide +kernel
theorem d_SM_part_1 : decode c_SM_part 1 = .ok (.iload_n 1, 1) := by decide +kernel
theorem d_SM_part_2 : decode c_SM_part 2 = .ok (.invokevirtual 47, 3) := by decide +kernel
theorem d_SM_part_5 : decode c_SM_part 5 = .ok (.iload_n 2, 1) := by decide +kernel
theorem d_SM_part_6 : decode c_SM_part 6 = .ok (.ifCond .lt 27, 3) := by decide +kernel
theorem d_SM_part_9 : decode c_SM_part 9 = .ok (.iload_n 2, 1) := by decide +kernel
theorem d_SM_part_10 : decode c_SM_part 10 = .ok (.aload_n 0, 1) := by decide +kernel
theorem d_SM_part_11 : decode c_SM_part 11 = .ok (.getfield 10, 3) := by decide +kernel
theorem d_SM_part_14 : decode c_SM_part 14 = .ok (.iload_n 1, 1) := by decide +kernel
theorem d_SM_part_15 : decode c_SM_part 15 = .ok (.invokevirtual 126, 3) := by decide +kernel
theorem d_SM_part_18 : decode c_SM_part 18 = .ok (.if_icmp .ge 15, 3) := by decide +kernel
theorem d_SM_part_21 : decode c_SM_part 21 = .ok (.aload_n 0, 1) := by decide +kernel
theorem d_SM_part_22 : decode c_SM_part 22 = .ok (.getfield 10, 3) := by decide +kernel
theorem d_SM_part_25 : decode c_SM_part 25 = .ok (.iload_n 1, 1) := by decide +kernel
theorem d_SM_part_26 : decode c_SM_part 26 = .ok (.iload_n 2, 1) := by decide +kernel
theorem d_SM_part_27 : decode c_SM_part 27 = .ok (.invokevirtual 130, 3) := by decide +kernel
theorem d_SM_part_30 : decode c_SM_part 30 = .ok (.goto 4, 3) := by decide +kernel
theorem d_SM_part_33 : decode c_SM_part 33 = .ok (.iconst (-1), 1) := by decide +kernel
theorem d_SM_part_34 : decode c_SM_part 34 = .ok (.ireturn, 1) := by decide +kernel
theorem d_SM_count_0 : decode c_SM_count 0 = .ok (.iload_n 1, 1) := by decide +kernel
theorem d_SM_count_1 : decode c_SM_count 1 = .ok (.tableswitch 51 0 2 #[27, 35, 40], 27) := by decide +kernel
theorem d_SM_count_28 : decode c_SM_count 28 = .ok (.aload_n 0, 1) := by decide +kernel
theorem d_SM_count_29 : decode c_SM_count 29 = .ok (.getfield 10, 3) := by decide +kernel
theorem d_SM_count_32 : decode c_SM_count 32 = .ok (.invokevirtual 133, 3) := by decide +kernel
theorem d_SM_count_35 : decode c_SM_count 35 = .ok (.ireturn, 1) := by decide +kernel
theorem d_SM_count_36 : decode c_SM_count 36 = .ok (.aload_n 0, 1) := by decide +kernel
theorem d_SM_count_37 : decode c_SM_count 37 = .ok (.getfield 29, 3) := by decide +kernel
theorem d_SM_count_40 : decode c_SM_count 40 = .ok (.ireturn, 1) := by decide +kernel
theorem d_SM_count_41 : decode c_SM_count 41 = .ok (.aload_n 0, 1) := by decide +kernel
theorem d_SM_count_42 : decode c_SM_count 42 = .ok (.getfield 21, 3) := by decide +kernel
theorem d_SM_count_45 : decode c_SM_count 45 = .ok (.invokevirtual 96, 3) := by decide +kernel
theorem d_SM_count_48 : decode c_SM_count 48 = .ok (.invokevirtual 136, 3) := by decide +kernel
theorem d_SM_count_51 : decode c_SM_count 51 = .ok (.ireturn, 1) := by decide +kernel
theorem d_SM_count_52 : decode c_SM_count 52 = .ok (.iconst (-1), 1) := by decide +kernel
theorem d_SM_count_53 : decode c_SM_count 53 = .ok (.ireturn, 1) := by decide +kernel
theorem d_SM_newTree_0 : decode c_SM_newTree 0 = .ok (.aload_n 0, 1) := by decide +kernel
theorem d_SM_newTree_1 : decode c_SM_newTree 1 = .ok (.getfield 10, 3) := by decide +kernel
theorem d_SM_newTree_4 : decode c_SM_newTree 4 = .ok (.invokevirtual 139, 3) := by decide +kernel
theorem d_SM_newTree_7 : decode c_SM_newTree 7 = .ok (.ifCond .eq 13, 3) := by decide +kernel
theorem d_SM_newTree_10 : decode c_SM_newTree 10 = .ok (.new 109, 3) := by decide +kernel
theorem d_SM_newTree_13 : decode c_SM_newTree 13 = .ok (.dup, 1) := by decide +kernel
theorem d_SM_newTree_14 : decode c_SM_newTree 14 = .ok (.ldc 142, 2) := by decide +kernel
theorem d_SM_newTree_16 : decode c_SM_newTree 16 = .ok (.invokespecial 113, 3) := by decide +kernel
theorem d_SM_newTree_19 : decode c_SM_newTree 19 = .ok (.athrow, 1) := by decide +kernel
theorem d_SM_newTree_20 : decode c_SM_newTree 20 = .ok (.aload_n 0, 1) := by decide +kernel
theorem d_SM_newTree_21 : decode c_SM_newTree 21 = .ok (.getfield 10, 3) := by decide +kernel
theorem d_SM_newTree_24 : decode c_SM_newTree 24 = .ok (.iload_n 1, 1) := by decide +kernel
theorem d_SM_newTree_25 : decode c_SM_newTree 25 = .ok (.iload_n 2, 1) := by decide +kernel
theorem d_SM_newTree_26 : decode c_SM_newTree 26 = .ok (.iload_n 3, 1) := by decide +kernel
theorem d_SM_newTree_27 : decode c_SM_newTree 27 = .ok (.invokevirtual 144, 3) := by decide +kernel
theorem d_SM_newTree_30 : decode c_SM_newTree 30 = .ok (.ireturn, 1) := by decide +kernel
theorem d_SM_requireTree_0 : decode c_SM_requireTree 0 = .ok (.aload_n 0, 1) := by decide +kernel
theorem d_SM_requireTree_1 : decode c_SM_requireTree 1 = .ok (.getfield 10, 3) := by decide +kernel
theorem d_SM_requireTree_4 : decode c_SM_requireTree 4 = .ok (.iload_n 1, 1) := by decide +kernel
theorem d_SM_requireTree_5 : decode c_SM_requireTree 5 = .ok (.invokevirtual 147, 3) := by decide +kernel
theorem d_SM_requireTree_8 : decode c_SM_requireTree 8 = .ok (.ifCond .ne 13, 3) := by decide +kernel
theorem d_SM_requireTree_11 : decode c_SM_requireTree 11 = .ok (.new 150, 3) := by decide +kernel
theorem d_SM_requireTree_14 : decode c_SM_requireTree 14 = .ok (.dup, 1) := by decide +kernel
theorem d_SM_requireTree_15 : decode c_SM_requireTree 15 = .ok (.ldc 152, 2) := by decide +kernel
theorem d_SM_requireTree_17 : decode c_SM_requireTree 17 = .ok (.invokespecial 154, 3) := by decide +kernel
theorem d_SM_requireTree_20 : decode c_SM_requireTree 20 = .ok (.athrow, 1) := by decide +kernel
theorem d_SM_requireTree_21 : decode c_SM_requireTree 21 = .ok (.return_, 1) := by decide +kernel
theorem d_SM_requirePlain_0 : decode c_SM_requirePlain 0 = .ok (.aload_n 0, 1) := by decide +kernel
theorem d_SM_requirePlain_1 : decode c_SM_requirePlain 1 = .ok (.iload_n 1, 1) := by decide +kernel
theorem d_SM_requirePlain_2 : decode c_SM_requirePlain 2 = .ok (.invokevirtual 47, 3) := by decide +kernel
theorem d_SM_requirePlain_5 : decode c_SM_requirePlain 5 = .ok (.aload_n 0, 1) := by decide +kernel
theorem d_SM_requirePlain_6 : decode c_SM_requirePlain 6 = .ok (.getfield 10, 3) := by decide +kernel
theorem d_SM_requirePlain_9 : decode c_SM_requirePlain 9 = .ok (.iload_n 1, 1) := by decide +kernel
theorem d_SM_requirePlain_10 : decode c_SM_requirePlain 10 = .ok (.invokevirtual 155, 3) := by decide +kernel
theorem d_SM_requirePlain_13 : decode c_SM_requirePlain 13 = .ok (.ifCond .ne 13, 3) := by decide +kernel
theorem d_SM_requirePlain_16 : decode c_SM_requirePlain 16 = .ok (.new 55, 3) := by decide +kernel
theorem d_SM_requirePlain_19 : decode c_SM_requirePlain 19 = .ok (.dup, 1) := by decide +kernel
theorem d_SM_requirePlain_20 : decode c_SM_requirePlain 20 = .ok (.ldc 158, 2) := by decide +kernel
theorem d_SM_requirePlain_22 : decode c_SM_requirePlain 22 = .ok (.invokespecial 59, 3) := by decide +kernel
theorem d_SM_requirePlain_25 : decode c_SM_requirePlain 25 = .ok (.athrow, 1) := by decide +kernel
theorem d_SM_requirePlain_26 : decode c_SM_requirePlain 26 = .ok (.return_, 1) := by decide +kernel
theorem d_SM_requireMatch_0 : decode c_SM_requireMatch 0 = .ok (.iload_n 1, 1) := by decide +kernel
theorem d_SM_requireMatch_1 : decode c_SM_requireMatch 1 = .ok (.ifCond .lt 17, 3) := by decide +kernel
theorem d_SM_requireMatch_4 : decode c_SM_requireMatch 4 = .ok (.iload_n 1, 1) := by decide +kernel
theorem d_SM_requireMatch_5 : decode c_SM_requireMatch 5 = .ok (.aload_n 0, 1) := by decide +kernel
theorem d_SM_requireMatch_6 : decode c_SM_requireMatch 6 = .ok (.getfield 21, 3) := by decide +kernel
theorem d_SM_requireMatch_9 : decode c_SM_requireMatch 9 = .ok (.invokevirtual 96, 3) := by decide +kernel
theorem d_SM_requireMatch_12 : decode c_SM_requireMatch 12 = .ok (.invokevirtual 136, 3) := by decide +kernel
theorem d_SM_requireMatch_15 : decode c_SM_requireMatch 15 = .ok (.if_icmp .lt 13, 3) := by decide +kernel
theorem d_SM_requireMatch_18 : decode c_SM_requireMatch 18 = .ok (.new 150, 3) := by decide +kernel
theorem d_SM_requireMatch_21 : decode c_SM_requireMatch 21 = .ok (.dup, 1) := by decide +kernel
theorem d_SM_requireMatch_22 : decode c_SM_requireMatch 22 = .ok (.ldc 160, 2) := by decide +kernel
theorem d_SM_requireMatch_24 : decode c_SM_requireMatch 24 = .ok (.invokespecial 154, 3) := by decide +kernel
theorem d_SM_requireMatch_27 : decode c_SM_requireMatch 27 = .ok (.athrow, 1) := by decide +kernel
theorem d_SM_requireMatch_28 : decode c_SM_requireMatch 28 = .ok (.return_, 1) := by decide +kernel
theorem d_SM_requireBelow_0 : decode c_SM_requireBelow 0 = .ok (.iload_n 0, 1) := by decide +kernel
theorem d_SM_requireBelow_1 : decode c_SM_requireBelow 1 = .ok (.ifCond .lt 8, 3) := by decide +kernel
theorem d_SM_requireBelow_4 : decode c_SM_requireBelow 4 = .ok (.iload_n 0, 1) := by decide +kernel
theorem d_SM_requireBelow_5 : decode c_SM_requireBelow 5 = .ok (.iload_n 1, 1) := by decide +kernel
theorem d_SM_requireBelow_6 : decode c_SM_requireBelow 6 = .ok (.if_icmp .lt 13, 3) := by decide +kernel
theorem d_SM_requireBelow_9 : decode c_SM_requireBelow 9 = .ok (.new 55, 3) := by decide +kernel
theorem d_SM_requireBelow_12 : decode c_SM_requireBelow 12 = .ok (.dup, 1) := by decide +kernel
theorem d_SM_requireBelow_13 : decode c_SM_requireBelow 13 = .ok (.ldc 162, 2) := by decide +kernel
theorem d_SM_requireBelow_15 : decode c_SM_requireBelow 15 = .ok (.invokespecial 59, 3) := by decide +kernel
theorem d_SM_requireBelow_18 : decode c_SM_requireBelow 18 = .ok (.athrow, 1) := by decide +kernel
theorem d_SM_requireBelow_19 : decode c_SM_requireBelow 19 = .ok (.return_, 1) := by decide +kernel
theorem d_Se_init_0 : decode c_Se_init 0 = .ok (.aload_n 0, 1) := by decide +kernel
theorem d_Se_init_1 : decode c_Se_init 1 = .ok (.invokespecial 3, 3) := by decide +kernel
theorem d_Se_init_4 : decode c_Se_init 4 = .ok (.aload_n 0, 1) := by decide +kernel
theorem d_Se_init_5 : decode c_Se_init 5 = .ok (.aload_n 1, 1) := by decide +kernel
theorem d_Se_init_6 : decode c_Se_init 6 = .ok (.putfield 9, 3) := by decide +kernel
theorem d_Se_init_9 : decode c_Se_init 9 = .ok (.aload_n 0, 1) := by decide +kernel
theorem d_Se_init_10 : decode c_Se_init 10 = .ok (.new 15, 3) := by decide +kernel
theorem d_Se_init_13 : decode c_Se_init 13 = .ok (.dup, 1) := by decide +kernel
theorem d_Se_init_14 : decode c_Se_init 14 = .ok (.invokespecial 17, 3) := by decide +kernel
theorem d_Se_init_17 : decode c_Se_init 17 = .ok (.putfield 18, 3) := by decide +kernel
theorem d_Se_init_20 : decode c_Se_init 20 = .ok (.aload_n 0, 1) := by decide +kernel
theorem d_Se_init_21 : decode c_Se_init 21 = .ok (.new 22, 3) := by decide +kernel
theorem d_Se_init_24 : decode c_Se_init 24 = .ok (.dup, 1) := by decide +kernel
theorem d_Se_init_25 : decode c_Se_init 25 = .ok (.invokespecial 24, 3) := by decide +kernel
theorem d_Se_init_28 : decode c_Se_init 28 = .ok (.putfield 25, 3) := by decide +kernel
theorem d_Se_init_31 : decode c_Se_init 31 = .ok (.aload_n 0, 1) := by decide +kernel
theorem d_Se_init_32 : decode c_Se_init 32 = .ok (.new 29, 3) := by decide +kernel
theorem d_Se_init_35 : decode c_Se_init 35 = .ok (.dup, 1) := by decide +kernel
theorem d_Se_init_36 : decode c_Se_init 36 = .ok (.invokespecial 31, 3) := by decide +kernel
theorem d_Se_init_39 : decode c_Se_init 39 = .ok (.putfield 32, 3) := by decide +kernel
theorem d_Se_init_42 : decode c_Se_init 42 = .ok (.aload_n 0, 1) := by decide +kernel
theorem d_Se_init_43 : decode c_Se_init 43 = .ok (.bipush 70, 2) := by decide +kernel
theorem d_Se_init_45 : decode c_Se_init 45 = .ok (.newarray .int, 2) := by decide +kernel
theorem d_Se_init_47 : decode c_Se_init 47 = .ok (.putfield 36, 3) := by decide +kernel
theorem d_Se_init_50 : decode c_Se_init 50 = .ok (.aload_n 0, 1) := by decide +kernel
theorem d_Se_init_51 : decode c_Se_init 51 = .ok (.bipush 70, 2) := by decide +kernel
theorem d_Se_init_53 : decode c_Se_init 53 = .ok (.newarray .int, 2) := by decide +kernel
theorem d_Se_init_55 : decode c_Se_init 55 = .ok (.putfield 40, 3) := by decide +kernel
theorem d_Se_init_58 : decode c_Se_init 58 = .ok (.aload_n 0, 1) := by decide +kernel
theorem d_Se_init_59 : decode c_Se_init 59 = .ok (.bipush 70, 2) := by decide +kernel
theorem d_Se_init_61 : decode c_Se_init 61 = .ok (.newarray .int, 2) := by decide +kernel
theorem d_Se_init_63 : decode c_Se_init 63 = .ok (.putfield 43, 3) := by decide +kernel
theorem d_Se_init_66 : decode c_Se_init 66 = .ok (.aload_n 0, 1) := by decide +kernel
theorem d_Se_init_67 : decode c_Se_init 67 = .ok (.bipush 12, 2) := by decide +kernel
theorem d_Se_init_69 : decode c_Se_init 69 = .ok (.newarray .int, 2) := by decide +kernel
theorem d_Se_init_71 : decode c_Se_init 71 = .ok (.putfield 46, 3) := by decide +kernel
theorem d_Se_init_74 : decode c_Se_init 74 = .ok (.aload_n 0, 1) := by decide +kernel
theorem d_Se_init_75 : decode c_Se_init 75 = .ok (.iconst 0, 1) := by decide +kernel
theorem d_Se_init_76 : decode c_Se_init 76 = .ok (.putfield 49, 3) := by decide +kernel
theorem d_Se_init_79 : decode c_Se_init 79 = .ok (.aload_n 0, 1) := by decide +kernel
theorem d_Se_init_80 : decode c_Se_init 80 = .ok (.iconst 0, 1) := by decide +kernel
theorem d_Se_init_81 : decode c_Se_init 81 = .ok (.putfield 53, 3) := by decide +kernel
theorem d_Se_init_84 : decode c_Se_init 84 = .ok (.aload_n 0, 1) := by decide +kernel
theorem d_Se_init_85 : decode c_Se_init 85 = .ok (.iconst 0, 1) := by decide +kernel
theorem d_Se_init_86 : decode c_Se_init 86 = .ok (.putfield 56, 3) := by decide +kernel
theorem d_Se_init_89 : decode c_Se_init 89 = .ok (.aload_n 0, 1) := by decide +kernel
theorem d_Se_init_90 : decode c_Se_init 90 = .ok (.iconst 0, 1) := by decide +kernel
theorem d_Se_init_91 : decode c_Se_init 91 = .ok (.putfield 59, 3) := by decide +kernel
theorem d_Se_init_94 : decode c_Se_init 94 = .ok (.aload_n 0, 1) := by decide +kernel
theorem d_Se_init_95 : decode c_Se_init 95 = .ok (.iconst 0, 1) := by decide +kernel
theorem d_Se_init_96 : decode c_Se_init 96 = .ok (.putfield 62, 3) := by decide +kernel
theorem d_Se_init_99 : decode c_Se_init 99 = .ok (.return_, 1) := by decide +kernel
theorem d_Se_matches_0 : decode c_Se_matches 0 = .ok (.aload_n 0, 1) := by decide +kernel
theorem d_Se_matches_1 : decode c_Se_matches 1 = .ok (.getfield 32, 3) := by decide +kernel
theorem d_Se_matches_4 : decode c_Se_matches 4 = .ok (.areturn, 1) := by decide +kernel
theorem d_Se_triesMade_0 : decode c_Se_triesMade 0 = .ok (.aload_n 0, 1) := by decide +kernel
theorem d_Se_triesMade_1 : decode c_Se_triesMade 1 = .ok (.getfield 56, 3) := by decide +kernel
theorem d_Se_triesMade_4 : decode c_Se_triesMade 4 = .ok (.ireturn, 1) := by decide +kernel
theorem d_Se_found_0 : decode c_Se_found 0 = .ok (.aload_n 0, 1) := by decide +kernel
theorem d_Se_found_1 : decode c_Se_found 1 = .ok (.getfield 59, 3) := by decide +kernel
theorem d_Se_found_4 : decode c_Se_found 4 = .ok (.ireturn, 1) := by decide +kernel
theorem d_Se_isSpent_0 : decode c_Se_isSpent 0 = .ok (.aload_n 0, 1) := by decide +kernel
theorem d_Se_isSpent_1 : decode c_Se_isSpent 1 = .ok (.getfield 62, 3) := by decide +kernel
theorem d_Se_isSpent_4 : decode c_Se_isSpent 4 = .ok (.ireturn, 1) := by decide +kernel
theorem d_Se_clear_0 : decode c_Se_clear 0 = .ok (.aload_n 0, 1) := by decide +kernel
theorem d_Se_clear_1 : decode c_Se_clear 1 = .ok (.getfield 32, 3) := by decide +kernel
theorem d_Se_clear_4 : decode c_Se_clear 4 = .ok (.invokevirtual 66, 3) := by decide +kernel
theorem d_Se_clear_7 : decode c_Se_clear 7 = .ok (.aload_n 0, 1) := by decide +kernel
theorem d_Se_clear_8 : decode c_Se_clear 8 = .ok (.getfield 25, 3) := by decide +kernel
theorem d_Se_clear_11 : decode c_Se_clear 11 = .ok (.invokevirtual 69, 3) := by decide +kernel
theorem d_Se_clear_14 : decode c_Se_clear 14 = .ok (.aload_n 0, 1) := by decide +kernel
theorem d_Se_clear_15 : decode c_Se_clear 15 = .ok (.iconst 0, 1) := by decide +kernel
theorem d_Se_clear_16 : decode c_Se_clear 16 = .ok (.putfield 56, 3) := by decide +kernel
theorem d_Se_clear_19 : decode c_Se_clear 19 = .ok (.aload_n 0, 1) := by decide +kernel
theorem d_Se_clear_20 : decode c_Se_clear 20 = .ok (.iconst 0, 1) := by decide +kernel
theorem d_Se_clear_21 : decode c_Se_clear 21 = .ok (.putfield 59, 3) := by decide +kernel
theorem d_Se_clear_24 : decode c_Se_clear 24 = .ok (.aload_n 0, 1) := by decide +kernel
theorem d_Se_clear_25 : decode c_Se_clear 25 = .ok (.iconst 0, 1) := by decide +kernel
theorem d_Se_clear_26 : decode c_Se_clear 26 = .ok (.putfield 62, 3) := by decide +kernel
theorem d_Se_clear_29 : decode c_Se_clear 29 = .ok (.return_, 1) := by decide +kernel
theorem d_Se_run_0 : decode c_Se_run 0 = .ok (.aload_n 0, 1) := by decide +kernel
theorem d_Se_run_1 : decode c_Se_run 1 = .ok (.invokevirtual 70, 3) := by decide +kernel
theorem d_Se_run_4 : decode c_Se_run 4 = .ok (.aload_n 0, 1) := by decide +kernel
theorem d_Se_run_5 : decode c_Se_run 5 = .ok (.getfield 18, 3) := by decide +kernel
theorem d_Se_run_8 : decode c_Se_run 8 = .ok (.aload_n 0, 1) := by decide +kernel
theorem d_Se_run_9 : decode c_Se_run 9 = .ok (.getfield 9, 3) := by decide +kernel
theorem d_Se_run_12 : decode c_Se_run 12 = .ok (.iload_n 1, 1) := by decide +kernel
theorem d_Se_run_13 : decode c_Se_run 13 = .ok (.invokevirtual 71, 3) := by decide +kernel
theorem d_Se_run_16 : decode c_Se_run 16 = .ok (.aload_n 0, 1) := by decide +kernel
theorem d_Se_run_17 : decode c_Se_run 17 = .ok (.iload_n 2, 1) := by decide +kernel
theorem d_Se_run_18 : decode c_Se_run 18 = .ok (.putfield 53, 3) := by decide +kernel
theorem d_Se_run_21 : decode c_Se_run 21 = .ok (.iconst 0, 1) := by decide +kernel
theorem d_Se_run_22 : decode c_Se_run 22 = .ok (.istore 4, 2) := by decide +kernel
theorem d_Se_run_24 : decode c_Se_run 24 = .ok (.aload_n 0, 1) := by decide +kernel
theorem d_Se_run_25 : decode c_Se_run 25 = .ok (.getfield 36, 3) := by decide +kernel
theorem d_Se_run_28 : decode c_Se_run 28 = .ok (.iconst 0, 1) := by decide +kernel
theorem d_Se_run_29 : decode c_Se_run 29 = .ok (.iconst (-1), 1) := by decide +kernel
theorem d_Se_run_30 : decode c_Se_run 30 = .ok (.iastore, 1) := by decide +kernel
theorem d_Se_run_31 : decode c_Se_run 31 = .ok (.iconst 0, 1) := by decide +kernel
theorem d_Se_run_32 : decode c_Se_run 32 = .ok (.istore 5, 2) := by decide +kernel
theorem d_Se_run_34 : decode c_Se_run 34 = .ok (.iload 5, 2) := by decide +kernel
theorem d_Se_run_36 : decode c_Se_run 36 = .ok (.sipush 802, 3) := by decide +kernel
theorem d_Se_run_39 : decode c_Se_run 39 = .ok (.if_icmp .ge 57, 3) := by decide +kernel
theorem d_Se_run_42 : decode c_Se_run 42 = .ok (.iload 4, 2) := by decide +kernel
theorem d_Se_run_44 : decode c_Se_run 44 = .ok (.ifCond .lt 52, 3) := by decide +kernel
theorem d_Se_run_47 : decode c_Se_run 47 = .ok (.aload_n 0, 1) := by decide +kernel
theorem d_Se_run_48 : decode c_Se_run 48 = .ok (.iload 4, 2) := by decide +kernel
theorem d_Se_run_50 : decode c_Se_run 50 = .ok (.invokevirtual 75, 3) := by decide +kernel
theorem d_Se_run_53 : decode c_Se_run 53 = .ok (.aload_n 0, 1) := by decide +kernel
theorem d_Se_run_54 : decode c_Se_run 54 = .ok (.iload 4, 2) := by decide +kernel
theorem d_Se_run_56 : decode c_Se_run 56 = .ok (.invokevirtual 79, 3) := by decide +kernel
theorem d_Se_run_59 : decode c_Se_run 59 = .ok (.ifCond .ne 9, 3) := by decide +kernel
theorem d_Se_run_62 : decode c_Se_run 62 = .ok (.iinc 4 (-1), 3) := by decide +kernel
theorem d_Se_run_65 : decode c_Se_run 65 = .ok (.goto 25, 3) := by decide +kernel
theorem d_Se_run_68 : decode c_Se_run 68 = .ok (.aload_n 0, 1) := by decide +kernel
theorem d_Se_run_69 : decode c_Se_run 69 = .ok (.getfield 56, 3) := by decide +kernel
theorem d_Se_run_72 : decode c_Se_run 72 = .ok (.iload_n 3, 1) := by decide +kernel
theorem d_Se_run_73 : decode c_Se_run 73 = .ok (.if_icmp .lt 9, 3) := by decide +kernel
theorem d_Se_run_76 : decode c_Se_run 76 = .ok (.aload_n 0, 1) := by decide +kernel
theorem d_Se_run_77 : decode c_Se_run 77 = .ok (.iconst 1, 1) := by decide +kernel
theorem d_Se_run_78 : decode c_Se_run 78 = .ok (.putfield 62, 3) := by decide +kernel
theorem d_Se_run_81 : decode c_Se_run 81 = .ok (.return_, 1) := by decide +kernel
theorem d_Se_run_82 : decode c_Se_run 82 = .ok (.aload_n 0, 1) := by decide +kernel
theorem d_Se_run_83 : decode c_Se_run 83 = .ok (.iload 4, 2) := by decide +kernel
theorem d_Se_run_85 : decode c_Se_run 85 = .ok (.invokevirtual 83, 3) := by decide +kernel
theorem d_Se_run_88 : decode c_Se_run 88 = .ok (.istore 4, 2) := by decide +kernel
theorem d_Se_run_90 : decode c_Se_run 90 = .ok (.iinc 5 1, 3) := by decide +kernel
theorem d_Se_run_93 : decode c_Se_run 93 = .ok (.goto (-59), 3) := by decide +kernel
theorem d_Se_run_96 : decode c_Se_run 96 = .ok (.return_, 1) := by decide +kernel
theorem d_Se_makeTry_0 : decode c_Se_makeTry 0 = .ok (.aload_n 0, 1) := by decide +kernel
theorem d_Se_makeTry_1 : decode c_Se_makeTry 1 = .ok (.dup, 1) := by decide +kernel
theorem d_Se_makeTry_2 : decode c_Se_makeTry 2 = .ok (.getfield 56, 3) := by decide +kernel
theorem d_Se_makeTry_5 : decode c_Se_makeTry 5 = .ok (.iconst 1, 1) := by decide +kernel
theorem d_Se_makeTry_6 : decode c_Se_makeTry 6 = .ok (.iadd, 1) := by decide +kernel
theorem d_Se_makeTry_7 : decode c_Se_makeTry 7 = .ok (.putfield 56, 3) := by decide +kernel
theorem d_Se_makeTry_10 : decode c_Se_makeTry 10 = .ok (.aload_n 0, 1) := by decide +kernel
theorem d_Se_makeTry_11 : decode c_Se_makeTry 11 = .ok (.iload_n 1, 1) := by decide +kernel
theorem d_Se_makeTry_12 : decode c_Se_makeTry 12 = .ok (.invokevirtual 87, 3) := by decide +kernel
theorem d_Se_makeTry_15 : decode c_Se_makeTry 15 = .ok (.aload_n 0, 1) := by decide +kernel
theorem d_Se_makeTry_16 : decode c_Se_makeTry 16 = .ok (.getfield 18, 3) := by decide +kernel
theorem d_Se_makeTry_19 : decode c_Se_makeTry 19 = .ok (.iload_n 1, 1) := by decide +kernel
theorem d_Se_makeTry_20 : decode c_Se_makeTry 20 = .ok (.invokevirtual 90, 3) := by decide +kernel
theorem d_Se_makeTry_23 : decode c_Se_makeTry 23 = .ok (.istore_n 2, 1) := by decide +kernel
theorem d_Se_makeTry_24 : decode c_Se_makeTry 24 = .ok (.aload_n 0, 1) := by decide +kernel
theorem d_Se_makeTry_25 : decode c_Se_makeTry 25 = .ok (.getfield 9, 3) := by decide +kernel
theorem d_Se_makeTry_28 : decode c_Se_makeTry 28 = .ok (.iload_n 2, 1) := by decide +kernel
theorem d_Se_makeTry_29 : decode c_Se_makeTry 29 = .ok (.invokevirtual 93, 3) := by decide +kernel
theorem d_Se_makeTry_32 : decode c_Se_makeTry 32 = .ok (.ifCond .eq 12, 3) := by decide +kernel
theorem d_Se_makeTry_35 : decode c_Se_makeTry 35 = .ok (.aload_n 0, 1) := by decide +kernel
theorem d_Se_makeTry_36 : decode c_Se_makeTry 36 = .ok (.iload_n 1, 1) := by decide +kernel
theorem d_Se_makeTry_37 : decode c_Se_makeTry 37 = .ok (.iload_n 2, 1) := by decide +kernel
theorem d_Se_makeTry_38 : decode c_Se_makeTry 38 = .ok (.invokevirtual 98, 3) := by decide +kernel
theorem d_Se_makeTry_41 : decode c_Se_makeTry 41 = .ok (.goto 9, 3) := by decide +kernel
theorem d_Se_makeTry_44 : decode c_Se_makeTry 44 = .ok (.aload_n 0, 1) := by decide +kernel
theorem d_Se_makeTry_45 : decode c_Se_makeTry 45 = .ok (.iload_n 1, 1) := by decide +kernel
theorem d_Se_makeTry_46 : decode c_Se_makeTry 46 = .ok (.iload_n 2, 1) := by decide +kernel
theorem d_Se_makeTry_47 : decode c_Se_makeTry 47 = .ok (.invokevirtual 102, 3) := by decide +kernel
theorem d_Se_makeTry_50 : decode c_Se_makeTry 50 = .ok (.istore_n 3, 1) := by decide +kernel
theorem d_Se_makeTry_51 : decode c_Se_makeTry 51 = .ok (.iload_n 3, 1) := by decide +kernel
theorem d_Se_makeTry_52 : decode c_Se_makeTry 52 = .ok (.ifCond .eq 11, 3) := by decide +kernel
theorem d_Se_makeTry_55 : decode c_Se_makeTry 55 = .ok (.aload_n 0, 1) := by decide +kernel
theorem d_Se_makeTry_56 : decode c_Se_makeTry 56 = .ok (.iload_n 1, 1) := by decide +kernel
theorem d_Se_makeTry_57 : decode c_Se_makeTry 57 = .ok (.invokevirtual 105, 3) := by decide +kernel
theorem d_Se_makeTry_60 : decode c_Se_makeTry 60 = .ok (.ifCond .ne 5, 3) := by decide +kernel
theorem d_Se_makeTry_63 : decode c_Se_makeTry 63 = .ok (.iload_n 1, 1) := by decide +kernel
theorem d_Se_makeTry_64 : decode c_Se_makeTry 64 = .ok (.ireturn, 1) := by decide +kernel
theorem d_Se_makeTry_65 : decode c_Se_makeTry 65 = .ok (.iload_n 1, 1) := by decide +kernel
theorem d_Se_makeTry_66 : decode c_Se_makeTry 66 = .ok (.iconst 1, 1) := by decide +kernel
theorem d_Se_makeTry_67 : decode c_Se_makeTry 67 = .ok (.iadd, 1) := by decide +kernel
theorem d_Se_makeTry_68 : decode c_Se_makeTry 68 = .ok (.aload_n 0, 1) := by decide +kernel
theorem d_Se_makeTry_69 : decode c_Se_makeTry 69 = .ok (.getfield 18, 3) := by decide +kernel
theorem d_Se_makeTry_72 : decode c_Se_makeTry 72 = .ok (.invokevirtual 108, 3) := by decide +kernel
theorem d_Se_makeTry_75 : decode c_Se_makeTry 75 = .ok (.if_icmp .lt 26, 3) := by decide +kernel
theorem d_Se_makeTry_78 : decode c_Se_makeTry 78 = .ok (.aload_n 0, 1) := by decide +kernel
theorem d_Se_makeTry_79 : decode c_Se_makeTry 79 = .ok (.dup, 1) := by decide +kernel
theorem d_Se_makeTry_80 : decode c_Se_makeTry 80 = .ok (.getfield 59, 3) := by decide +kernel
theorem d_Se_makeTry_83 : decode c_Se_makeTry 83 = .ok (.iconst 1, 1) := by decide +kernel
theorem d_Se_makeTry_84 : decode c_Se_makeTry 84 = .ok (.iadd, 1) := by decide +kernel
theorem d_Se_makeTry_85 : decode c_Se_makeTry 85 = .ok (.putfield 59, 3) := by decide +kernel
theorem d_Se_makeTry_88 : decode c_Se_makeTry 88 = .ok (.aload_n 0, 1) := by decide +kernel
theorem d_Se_makeTry_89 : decode c_Se_makeTry 89 = .ok (.getfield 32, 3) := by decide +kernel
theorem d_Se_makeTry_92 : decode c_Se_makeTry 92 = .ok (.aload_n 0, 1) := by decide +kernel
theorem d_Se_makeTry_93 : decode c_Se_makeTry 93 = .ok (.getfield 25, 3) := by decide +kernel
theorem d_Se_makeTry_96 : decode c_Se_makeTry 96 = .ok (.invokevirtual 112, 3) := by decide +kernel
theorem d_Se_makeTry_99 : decode c_Se_makeTry 99 = .ok (.iload_n 1, 1) := by decide +kernel
theorem d_Se_makeTry_100 : decode c_Se_makeTry 100 = .ok (.ireturn, 1) := by decide +kernel
theorem d_Se_makeTry_101 : decode c_Se_makeTry 101 = .ok (.aload_n 0, 1) := by decide +kernel
theorem d_Se_makeTry_102 : decode c_Se_makeTry 102 = .ok (.getfield 36, 3) := by decide +kernel
theorem d_Se_makeTry_105 : decode c_Se_makeTry 105 = .ok (.iload_n 1, 1) := by decide +kernel
theorem d_Se_makeTry_106 : decode c_Se_makeTry 106 = .ok (.iconst 1, 1) := by decide +kernel
theorem d_Se_makeTry_107 : decode c_Se_makeTry 107 = .ok (.iadd, 1) := by decide +kernel
theorem d_Se_makeTry_108 : decode c_Se_makeTry 108 = .ok (.iconst (-1), 1) := by decide +kernel
theorem d_Se_makeTry_109 : decode c_Se_makeTry 109 = .ok (.iastore, 1) := by decide +kernel
theorem d_Se_makeTry_110 : decode c_Se_makeTry 110 = .ok (.iload_n 1, 1) := by decide +kernel
theorem d_Se_makeTry_111 : decode c_Se_makeTry 111 = .ok (.iconst 1, 1) := by decide +kernel
theorem d_Se_makeTry_112 : decode c_Se_makeTry 112 = .ok (.iadd, 1) := by decide +kernel
theorem d_Se_makeTry_113 : decode c_Se_makeTry 113 = .ok (.ireturn, 1) := by decide +kernel
theorem d_Se_release_0 : decode c_Se_release 0 = .ok (.iload_n 1, 1) := by decide +kernel
theorem d_Se_release_1 : decode c_Se_release 1 = .ok (.ifCond .le 35, 3) := by decide +kernel
theorem d_Se_release_4 : decode c_Se_release 4 = .ok (.aload_n 0, 1) := by decide +kernel
theorem d_Se_release_5 : decode c_Se_release 5 = .ok (.getfield 36, 3) := by decide +kernel
theorem d_Se_release_8 : decode c_Se_release 8 = .ok (.iload_n 1, 1) := by decide +kernel
theorem d_Se_release_9 : decode c_Se_release 9 = .ok (.iaload, 1) := by decide +kernel
theorem d_Se_release_10 : decode c_Se_release 10 = .ok (.iconst (-1), 1) := by decide +kernel
theorem d_Se_release_11 : decode c_Se_release 11 = .ok (.if_icmp .eq 25, 3) := by decide +kernel
theorem d_Se_release_14 : decode c_Se_release 14 = .ok (.aload_n 0, 1) := by decide +kernel
theorem d_Se_release_15 : decode c_Se_release 15 = .ok (.getfield 43, 3) := by decide +kernel
theorem d_Se_release_18 : decode c_Se_release 18 = .ok (.aload_n 0, 1) := by decide +kernel
theorem d_Se_release_19 : decode c_Se_release 19 = .ok (.getfield 18, 3) := by decide +kernel
theorem d_Se_release_22 : decode c_Se_release 22 = .ok (.iload_n 1, 1) := by decide +kernel
theorem d_Se_release_23 : decode c_Se_release 23 = .ok (.invokevirtual 116, 3) := by decide +kernel
theorem d_Se_release_26 : decode c_Se_release 26 = .ok (.dup2, 1) := by decide +kernel
theorem d_Se_release_27 : decode c_Se_release 27 = .ok (.iaload, 1) := by decide +kernel
theorem d_Se_release_28 : decode c_Se_release 28 = .ok (.aload_n 0, 1) := by decide +kernel
theorem d_Se_release_29 : decode c_Se_release 29 = .ok (.getfield 36, 3) := by decide +kernel
theorem d_Se_release_32 : decode c_Se_release 32 = .ok (.iload_n 1, 1) := by decide +kernel
theorem d_Se_release_33 : decode c_Se_release 33 = .ok (.iaload, 1) := by decide +kernel
theorem d_Se_release_34 : decode c_Se_release 34 = .ok (.ior, 1) := by decide +kernel
theorem d_Se_release_35 : decode c_Se_release 35 = .ok (.iastore, 1) := by decide +kernel
theorem d_Se_release_36 : decode c_Se_release 36 = .ok (.aload_n 0, 1) := by decide +kernel
theorem d_Se_release_37 : decode c_Se_release 37 = .ok (.getfield 18, 3) := by decide +kernel
theorem d_Se_release_40 : decode c_Se_release 40 = .ok (.iload_n 1, 1) := by decide +kernel
theorem d_Se_release_41 : decode c_Se_release 41 = .ok (.invokevirtual 90, 3) := by decide +kernel
theorem d_Se_release_44 : decode c_Se_release 44 = .ok (.istore_n 2, 1) := by decide +kernel
theorem d_Se_release_45 : decode c_Se_release 45 = .ok (.aload_n 0, 1) := by decide +kernel
theorem d_Se_release_46 : decode c_Se_release 46 = .ok (.getfield 9, 3) := by decide +kernel
theorem d_Se_release_49 : decode c_Se_release 49 = .ok (.iload_n 2, 1) := by decide +kernel
theorem d_Se_release_50 : decode c_Se_release 50 = .ok (.invokevirtual 93, 3) := by decide +kernel
theorem d_Se_release_53 : decode c_Se_release 53 = .ok (.ifCond .eq 19, 3) := by decide +kernel
theorem d_Se_release_56 : decode c_Se_release 56 = .ok (.aload_n 0, 1) := by decide +kernel
theorem d_Se_release_57 : decode c_Se_release 57 = .ok (.getfield 25, 3) := by decide +kernel
theorem d_Se_release_60 : decode c_Se_release 60 = .ok (.aload_n 0, 1) := by decide +kernel
theorem d_Se_release_61 : decode c_Se_release 61 = .ok (.getfield 9, 3) := by decide +kernel
theorem d_Se_release_64 : decode c_Se_release 64 = .ok (.iload_n 2, 1) := by decide +kernel
theorem d_Se_release_65 : decode c_Se_release 65 = .ok (.invokevirtual 119, 3) := by decide +kernel
theorem d_Se_release_68 : decode c_Se_release 68 = .ok (.iload_n 1, 1) := by decide +kernel
theorem d_Se_release_69 : decode c_Se_release 69 = .ok (.invokevirtual 122, 3) := by decide +kernel
theorem d_Se_release_72 : decode c_Se_release 72 = .ok (.return_, 1) := by decide +kernel
theorem d_Se_choose_0 : decode c_Se_choose 0 = .ok (.iload_n 1, 1) := by decide +kernel
theorem d_Se_choose_1 : decode c_Se_choose 1 = .ok (.ifCond .ne 36, 3) := by decide +kernel
theorem d_Se_choose_4 : decode c_Se_choose 4 = .ok (.aload_n 0, 1) := by decide +kernel
theorem d_Se_choose_5 : decode c_Se_choose 5 = .ok (.getfield 36, 3) := by decide +kernel
theorem d_Se_choose_8 : decode c_Se_choose 8 = .ok (.iconst 0, 1) := by decide +kernel
theorem d_Se_choose_9 : decode c_Se_choose 9 = .ok (.iaload, 1) := by decide +kernel
theorem d_Se_choose_10 : decode c_Se_choose 10 = .ok (.iconst (-1), 1) := by decide +kernel
theorem d_Se_choose_11 : decode c_Se_choose 11 = .ok (.if_icmp .ne 7, 3) := by decide +kernel
theorem d_Se_choose_14 : decode c_Se_choose 14 = .ok (.iconst 1, 1) := by decide +kernel
theorem d_Se_choose_15 : decode c_Se_choose 15 = .ok (.goto 4, 3) := by decide +kernel
theorem d_Se_choose_18 : decode c_Se_choose 18 = .ok (.iconst 0, 1) := by decide +kernel
theorem d_Se_choose_19 : decode c_Se_choose 19 = .ok (.istore_n 2, 1) := by decide +kernel
theorem d_Se_choose_20 : decode c_Se_choose 20 = .ok (.aload_n 0, 1) := by decide +kernel
theorem d_Se_choose_21 : decode c_Se_choose 21 = .ok (.getfield 36, 3) := by decide +kernel
theorem d_Se_choose_24 : decode c_Se_choose 24 = .ok (.iconst 0, 1) := by decide +kernel
theorem d_Se_choose_25 : decode c_Se_choose 25 = .ok (.iload_n 2, 1) := by decide +kernel
theorem d_Se_choose_26 : decode c_Se_choose 26 = .ok (.ifCond .eq 7, 3) := by decide +kernel
theorem d_Se_choose_29 : decode c_Se_choose 29 = .ok (.iconst 1, 1) := by decide +kernel
theorem d_Se_choose_30 : decode c_Se_choose 30 = .ok (.goto 4, 3) := by decide +kernel
theorem d_Se_choose_33 : decode c_Se_choose 33 = .ok (.iconst (-1), 1) := by decide +kernel
theorem d_Se_choose_34 : decode c_Se_choose 34 = .ok (.iastore, 1) := by decide +kernel
theorem d_Se_choose_35 : decode c_Se_choose 35 = .ok (.iload_n 2, 1) := by decide +kernel
theorem d_Se_choose_36 : decode c_Se_choose 36 = .ok (.ireturn, 1) := by decide +kernel
theorem d_Se_choose_37 : decode c_Se_choose 37 = .ok (.aload_n 0, 1) := by decide +kernel
theorem d_Se_choose_38 : decode c_Se_choose 38 = .ok (.getfield 36, 3) := by decide +kernel
theorem d_Se_choose_41 : decode c_Se_choose 41 = .ok (.iload_n 1, 1) := by decide +kernel
theorem d_Se_choose_42 : decode c_Se_choose 42 = .ok (.iaload, 1) := by decide +kernel
theorem d_Se_choose_43 : decode c_Se_choose 43 = .ok (.iconst (-1), 1) := by decide +kernel
theorem d_Se_choose_44 : decode c_Se_choose 44 = .ok (.if_icmp .ne 11, 3) := by decide +kernel
theorem d_Se_choose_47 : decode c_Se_choose 47 = .ok (.aload_n 0, 1) := by decide +kernel
theorem d_Se_choose_48 : decode c_Se_choose 48 = .ok (.iload_n 1, 1) := by decide +kernel
theorem d_Se_choose_49 : decode c_Se_choose 49 = .ok (.invokevirtual 126, 3) := by decide +kernel
theorem d_Se_choose_52 : decode c_Se_choose 52 = .ok (.goto 8, 3) := by decide +kernel
theorem d_Se_choose_55 : decode c_Se_choose 55 = .ok (.aload_n 0, 1) := by decide +kernel
theorem d_Se_choose_56 : decode c_Se_choose 56 = .ok (.iload_n 1, 1) := by decide +kernel
theorem d_Se_choose_57 : decode c_Se_choose 57 = .ok (.invokevirtual 129, 3) := by decide +kernel
theorem d_Se_choose_60 : decode c_Se_choose 60 = .ok (.istore_n 2, 1) := by decide +kernel
theorem d_Se_choose_61 : decode c_Se_choose 61 = .ok (.aload_n 0, 1) := by decide +kernel
theorem d_Se_choose_62 : decode c_Se_choose 62 = .ok (.getfield 36, 3) := by decide +kernel
theorem d_Se_choose_65 : decode c_Se_choose 65 = .ok (.iload_n 1, 1) := by decide +kernel
theorem d_Se_choose_66 : decode c_Se_choose 66 = .ok (.iload_n 2, 1) := by decide +kernel
theorem d_Se_choose_67 : decode c_Se_choose 67 = .ok (.iastore, 1) := by decide +kernel
theorem d_Se_choose_68 : decode c_Se_choose 68 = .ok (.iload_n 2, 1) := by decide +kernel
theorem d_Se_choose_69 : decode c_Se_choose 69 = .ok (.iconst (-1), 1) := by decide +kernel
theorem d_Se_choose_70 : decode c_Se_choose 70 = .ok (.if_icmp .ne 5, 3) := by decide +kernel
theorem d_Se_choose_73 : decode c_Se_choose 73 = .ok (.iconst 0, 1) := by decide +kernel
theorem d_Se_choose_74 : decode c_Se_choose 74 = .ok (.ireturn, 1) := by decide +kernel
theorem d_Se_choose_75 : decode c_Se_choose 75 = .ok (.aload_n 0, 1) := by decide +kernel
theorem d_Se_choose_76 : decode c_Se_choose 76 = .ok (.getfield 43, 3) := by decide +kernel
theorem d_Se_choose_79 : decode c_Se_choose 79 = .ok (.aload_n 0, 1) := by decide +kernel
theorem d_Se_choose_80 : decode c_Se_choose 80 = .ok (.getfield 18, 3) := by decide +kernel
theorem d_Se_choose_83 : decode c_Se_choose 83 = .ok (.iload_n 1, 1) := by decide +kernel
theorem d_Se_choose_84 : decode c_Se_choose 84 = .ok (.invokevirtual 116, 3) := by decide +kernel
theorem d_Se_choose_87 : decode c_Se_choose 87 = .ok (.dup2, 1) := by decide +kernel
theorem d_Se_choose_88 : decode c_Se_choose 88 = .ok (.iaload, 1) := by decide +kernel
theorem d_Se_choose_89 : decode c_Se_choose 89 = .ok (.iload_n 2, 1) := by decide +kernel
theorem d_Se_choose_90 : decode c_Se_choose 90 = .ok (.iconst (-1), 1) := by decide +kernel
theorem d_Se_choose_91 : decode c_Se_choose 91 = .ok (.ixor, 1) := by decide +kernel
theorem d_Se_choose_92 : decode c_Se_choose 92 = .ok (.iand, 1) := by decide +kernel
theorem d_Se_choose_93 : decode c_Se_choose 93 = .ok (.iastore, 1) := by decide +kernel
theorem d_Se_choose_94 : decode c_Se_choose 94 = .ok (.iconst 1, 1) := by decide +kernel
theorem d_Se_choose_95 : decode c_Se_choose 95 = .ok (.ireturn, 1) := by decide +kernel
theorem d_Se_firstChoice_0 : decode c_Se_firstChoice 0 = .ok (.aload_n 0, 1) := by decide +kernel
theorem d_Se_firstChoice_1 : decode c_Se_firstChoice 1 = .ok (.getfield 9, 3) := by decide +kernel
theorem d_Se_firstChoice_4 : decode c_Se_firstChoice 4 = .ok (.aload_n 0, 1) := by decide +kernel
theorem d_Se_firstChoice_5 : decode c_Se_firstChoice 5 = .ok (.getfield 18, 3) := by decide +kernel
theorem d_Se_firstChoice_8 : decode c_Se_firstChoice 8 = .ok (.iload_n 1, 1) := by decide +kernel
theorem d_Se_firstChoice_9 : decode c_Se_firstChoice 9 = .ok (.invokevirtual 90, 3) := by decide +kernel
theorem d_Se_firstChoice_12 : decode c_Se_firstChoice 12 = .ok (.iconst 3, 1) := by decide +kernel
theorem d_Se_firstChoice_13 : decode c_Se_firstChoice 13 = .ok (.invokevirtual 132, 3) := by decide +kernel
theorem d_Se_firstChoice_16 : decode c_Se_firstChoice 16 = .ok (.ifCond .eq 7, 3) := by decide +kernel
theorem d_Se_firstChoice_19 : decode c_Se_firstChoice 19 = .ok (.iconst 0, 1) := by decide +kernel
theorem d_Se_firstChoice_20 : decode c_Se_firstChoice 20 = .ok (.goto 4, 3) := by decide +kernel
theorem d_Se_firstChoice_23 : decode c_Se_firstChoice 23 = .ok (.iconst 1, 1) := by decide +kernel
theorem d_Se_firstChoice_24 : decode c_Se_firstChoice 24 = .ok (.istore_n 2, 1) := by decide +kernel
theorem d_Se_firstChoice_25 : decode c_Se_firstChoice 25 = .ok (.aload_n 0, 1) := by decide +kernel
theorem d_Se_firstChoice_26 : decode c_Se_firstChoice 26 = .ok (.getfield 43, 3) := by decide +kernel
theorem d_Se_firstChoice_29 : decode c_Se_firstChoice 29 = .ok (.aload_n 0, 1) := by decide +kernel
theorem d_Se_firstChoice_30 : decode c_Se_firstChoice 30 = .ok (.getfield 18, 3) := by decide +kernel
theorem d_Se_firstChoice_33 : decode c_Se_firstChoice 33 = .ok (.iload_n 1, 1) := by decide +kernel
theorem d_Se_firstChoice_34 : decode c_Se_firstChoice 34 = .ok (.invokevirtual 116, 3) := by decide +kernel
theorem d_Se_firstChoice_37 : decode c_Se_firstChoice 37 = .ok (.iaload, 1) := by decide +kernel
theorem d_Se_firstChoice_38 : decode c_Se_firstChoice 38 = .ok (.iload_n 2, 1) := by decide +kernel
theorem d_Se_firstChoice_39 : decode c_Se_firstChoice 39 = .ok (.invokestatic 135, 3) := by decide +kernel
theorem d_Se_firstChoice_42 : decode c_Se_firstChoice 42 = .ok (.ireturn, 1) := by decide +kernel
theorem d_Se_laterChoice_0 : decode c_Se_laterChoice 0 = .ok (.aload_n 0, 1) := by decide +kernel
theorem d_Se_laterChoice_1 : decode c_Se_laterChoice 1 = .ok (.getfield 18, 3) := by decide +kernel
theorem d_Se_laterChoice_4 : decode c_Se_laterChoice 4 = .ok (.iload_n 1, 1) := by decide +kernel
theorem d_Se_laterChoice_5 : decode c_Se_laterChoice 5 = .ok (.invokevirtual 116, 3) := by decide +kernel
theorem d_Se_laterChoice_8 : decode c_Se_laterChoice 8 = .ok (.istore_n 2, 1) := by decide +kernel
theorem d_Se_laterChoice_9 : decode c_Se_laterChoice 9 = .ok (.aload_n 0, 1) := by decide +kernel
theorem d_Se_laterChoice_10 : decode c_Se_laterChoice 10 = .ok (.getfield 9, 3) := by decide +kernel
theorem d_Se_laterChoice_13 : decode c_Se_laterChoice 13 = .ok (.aload_n 0, 1) := by decide +kernel
theorem d_Se_laterChoice_14 : decode c_Se_laterChoice 14 = .ok (.getfield 18, 3) := by decide +kernel
theorem d_Se_laterChoice_17 : decode c_Se_laterChoice 17 = .ok (.iload_n 2, 1) := by decide +kernel
theorem d_Se_laterChoice_18 : decode c_Se_laterChoice 18 = .ok (.invokevirtual 90, 3) := by decide +kernel
theorem d_Se_laterChoice_21 : decode c_Se_laterChoice 21 = .ok (.invokevirtual 141, 3) := by decide +kernel
theorem d_Se_laterChoice_24 : decode c_Se_laterChoice 24 = .ok (.istore_n 3, 1) := by decide +kernel
theorem d_Se_laterChoice_25 : decode c_Se_laterChoice 25 = .ok (.aload_n 0, 1) := by decide +kernel
theorem d_Se_laterChoice_26 : decode c_Se_laterChoice 26 = .ok (.getfield 9, 3) := by decide +kernel
theorem d_Se_laterChoice_29 : decode c_Se_laterChoice 29 = .ok (.aload_n 0, 1) := by decide +kernel
theorem d_Se_laterChoice_30 : decode c_Se_laterChoice 30 = .ok (.getfield 18, 3) := by decide +kernel
theorem d_Se_laterChoice_33 : decode c_Se_laterChoice 33 = .ok (.iload_n 1, 1) := by decide +kernel
theorem d_Se_laterChoice_34 : decode c_Se_laterChoice 34 = .ok (.invokevirtual 90, 3) := by decide +kernel
theorem d_Se_laterChoice_37 : decode c_Se_laterChoice 37 = .ok (.invokevirtual 144, 3) := by decide +kernel
theorem d_Se_laterChoice_40 : decode c_Se_laterChoice 40 = .ok (.ifCond .eq 46, 3) := by decide +kernel
theorem d_Se_laterChoice_43 : decode c_Se_laterChoice 43 = .ok (.iload_n 3, 1) := by decide +kernel
theorem d_Se_laterChoice_44 : decode c_Se_laterChoice 44 = .ok (.ifCond .eq 21, 3) := by decide +kernel
theorem d_Se_laterChoice_47 : decode c_Se_laterChoice 47 = .ok (.aload_n 0, 1) := by decide +kernel
theorem d_Se_laterChoice_48 : decode c_Se_laterChoice 48 = .ok (.getfield 43, 3) := by decide +kernel
theorem d_Se_laterChoice_51 : decode c_Se_laterChoice 51 = .ok (.iload_n 2, 1) := by decide +kernel
theorem d_Se_laterChoice_52 : decode c_Se_laterChoice 52 = .ok (.iaload, 1) := by decide +kernel
theorem d_Se_laterChoice_53 : decode c_Se_laterChoice 53 = .ok (.aload_n 0, 1) := by decide +kernel
theorem d_Se_laterChoice_54 : decode c_Se_laterChoice 54 = .ok (.getfield 36, 3) := by decide +kernel
theorem d_Se_laterChoice_57 : decode c_Se_laterChoice 57 = .ok (.iload_n 1, 1) := by decide +kernel
theorem d_Se_laterChoice_58 : decode c_Se_laterChoice 58 = .ok (.iaload, 1) := by decide +kernel
theorem d_Se_laterChoice_59 : decode c_Se_laterChoice 59 = .ok (.invokestatic 147, 3) := by decide +kernel
theorem d_Se_laterChoice_62 : decode c_Se_laterChoice 62 = .ok (.goto 23, 3) := by decide +kernel
theorem d_Se_laterChoice_65 : decode c_Se_laterChoice 65 = .ok (.aload_n 0, 1) := by decide +kernel
theorem d_Se_laterChoice_66 : decode c_Se_laterChoice 66 = .ok (.getfield 43, 3) := by decide +kernel
theorem d_Se_laterChoice_69 : decode c_Se_laterChoice 69 = .ok (.iload_n 2, 1) := by decide +kernel
theorem d_Se_laterChoice_70 : decode c_Se_laterChoice 70 = .ok (.iaload, 1) := by decide +kernel
theorem d_Se_laterChoice_71 : decode c_Se_laterChoice 71 = .ok (.aload_n 0, 1) := by decide +kernel
theorem d_Se_laterChoice_72 : decode c_Se_laterChoice 72 = .ok (.getfield 36, 3) := by decide +kernel
theorem d_Se_laterChoice_75 : decode c_Se_laterChoice 75 = .ok (.iload_n 1, 1) := by decide +kernel
theorem d_Se_laterChoice_76 : decode c_Se_laterChoice 76 = .ok (.iaload, 1) := by decide +kernel
theorem d_Se_laterChoice_77 : decode c_Se_laterChoice 77 = .ok (.invokestatic 150, 3) := by decide +kernel
theorem d_Se_laterChoice_80 : decode c_Se_laterChoice 80 = .ok (.iconst 1, 1) := by decide +kernel
theorem d_Se_laterChoice_81 : decode c_Se_laterChoice 81 = .ok (.iadd, 1) := by decide +kernel
theorem d_Se_laterChoice_82 : decode c_Se_laterChoice 82 = .ok (.invokestatic 135, 3) := by decide +kernel
theorem d_Se_laterChoice_85 : decode c_Se_laterChoice 85 = .ok (.ireturn, 1) := by decide +kernel
theorem d_Se_laterChoice_86 : decode c_Se_laterChoice 86 = .ok (.iload_n 3, 1) := by decide +kernel
theorem d_Se_laterChoice_87 : decode c_Se_laterChoice 87 = .ok (.ifCond .eq 25, 3) := by decide +kernel
theorem d_Se_laterChoice_90 : decode c_Se_laterChoice 90 = .ok (.aload_n 0, 1) := by decide +kernel
theorem d_Se_laterChoice_91 : decode c_Se_laterChoice 91 = .ok (.getfield 43, 3) := by decide +kernel
theorem d_Se_laterChoice_94 : decode c_Se_laterChoice 94 = .ok (.iload_n 2, 1) := by decide +kernel
theorem d_Se_laterChoice_95 : decode c_Se_laterChoice 95 = .ok (.iaload, 1) := by decide +kernel
theorem d_Se_laterChoice_96 : decode c_Se_laterChoice 96 = .ok (.aload_n 0, 1) := by decide +kernel
theorem d_Se_laterChoice_97 : decode c_Se_laterChoice 97 = .ok (.getfield 36, 3) := by decide +kernel
theorem d_Se_laterChoice_100 : decode c_Se_laterChoice 100 = .ok (.iload_n 1, 1) := by decide +kernel
theorem d_Se_laterChoice_101 : decode c_Se_laterChoice 101 = .ok (.iaload, 1) := by decide +kernel
theorem d_Se_laterChoice_102 : decode c_Se_laterChoice 102 = .ok (.invokestatic 155, 3) := by decide +kernel
theorem d_Se_laterChoice_105 : decode c_Se_laterChoice 105 = .ok (.iconst 1, 1) := by decide +kernel
theorem d_Se_laterChoice_106 : decode c_Se_laterChoice 106 = .ok (.invokestatic 135, 3) := by decide +kernel
theorem d_Se_laterChoice_109 : decode c_Se_laterChoice 109 = .ok (.goto 4, 3) := by decide +kernel
theorem d_Se_laterChoice_112 : decode c_Se_laterChoice 112 = .ok (.iconst (-1), 1) := by decide +kernel
theorem d_Se_laterChoice_113 : decode c_Se_laterChoice 113 = .ok (.ireturn, 1) := by decide +kernel
theorem d_Se_gatherRow_0 : decode c_Se_gatherRow 0 = .ok (.iload_n 1, 1) := by decide +kernel
theorem d_Se_gatherRow_1 : decode c_Se_gatherRow 1 = .ok (.ifCond .ne 19, 3) := by decide +kernel
theorem d_Se_gatherRow_4 : decode c_Se_gatherRow 4 = .ok (.aload_n 0, 1) := by decide +kernel
theorem d_Se_gatherRow_5 : decode c_Se_gatherRow 5 = .ok (.getfield 46, 3) := by decide +kernel
theorem d_Se_gatherRow_8 : decode c_Se_gatherRow 8 = .ok (.iconst 0, 1) := by decide +kernel
theorem d_Se_gatherRow_9 : decode c_Se_gatherRow 9 = .ok (.aload_n 0, 1) := by decide +kernel
theorem d_Se_gatherRow_10 : decode c_Se_gatherRow 10 = .ok (.getfield 53, 3) := by decide +kernel
theorem d_Se_gatherRow_13 : decode c_Se_gatherRow 13 = .ok (.iastore, 1) := by decide +kernel
theorem d_Se_gatherRow_14 : decode c_Se_gatherRow 14 = .ok (.aload_n 0, 1) := by decide +kernel
theorem d_Se_gatherRow_15 : decode c_Se_gatherRow 15 = .ok (.iconst 1, 1) := by decide +kernel
theorem d_Se_gatherRow_16 : decode c_Se_gatherRow 16 = .ok (.putfield 49, 3) := by decide +kernel
theorem d_Se_gatherRow_19 : decode c_Se_gatherRow 19 = .ok (.return_, 1) := by decide +kernel
theorem d_Se_gatherRow_20 : decode c_Se_gatherRow 20 = .ok (.aload_n 0, 1) := by decide +kernel
theorem d_Se_gatherRow_21 : decode c_Se_gatherRow 21 = .ok (.getfield 40, 3) := by decide +kernel
theorem d_Se_gatherRow_24 : decode c_Se_gatherRow 24 = .ok (.aload_n 0, 1) := by decide +kernel
theorem d_Se_gatherRow_25 : decode c_Se_gatherRow 25 = .ok (.getfield 18, 3) := by decide +kernel
theorem d_Se_gatherRow_28 : decode c_Se_gatherRow 28 = .ok (.iload_n 1, 1) := by decide +kernel
theorem d_Se_gatherRow_29 : decode c_Se_gatherRow 29 = .ok (.invokevirtual 116, 3) := by decide +kernel
theorem d_Se_gatherRow_32 : decode c_Se_gatherRow 32 = .ok (.iaload, 1) := by decide +kernel
theorem d_Se_gatherRow_33 : decode c_Se_gatherRow 33 = .ok (.istore_n 2, 1) := by decide +kernel
theorem d_Se_gatherRow_34 : decode c_Se_gatherRow 34 = .ok (.aload_n 0, 1) := by decide +kernel
theorem d_Se_gatherRow_35 : decode c_Se_gatherRow 35 = .ok (.iconst 0, 1) := by decide +kernel
theorem d_Se_gatherRow_36 : decode c_Se_gatherRow 36 = .ok (.putfield 49, 3) := by decide +kernel
theorem d_Se_gatherRow_39 : decode c_Se_gatherRow 39 = .ok (.iconst 0, 1) := by decide +kernel
theorem d_Se_gatherRow_40 : decode c_Se_gatherRow 40 = .ok (.istore_n 3, 1) := by decide +kernel
theorem d_Se_gatherRow_41 : decode c_Se_gatherRow 41 = .ok (.iload_n 3, 1) := by decide +kernel
theorem d_Se_gatherRow_42 : decode c_Se_gatherRow 42 = .ok (.aload_n 0, 1) := by decide +kernel
theorem d_Se_gatherRow_43 : decode c_Se_gatherRow 43 = .ok (.getfield 9, 3) := by decide +kernel
theorem d_Se_gatherRow_46 : decode c_Se_gatherRow 46 = .ok (.iload_n 2, 1) := by decide +kernel
theorem d_Se_gatherRow_47 : decode c_Se_gatherRow 47 = .ok (.invokevirtual 158, 3) := by decide +kernel
theorem d_Se_gatherRow_50 : decode c_Se_gatherRow 50 = .ok (.if_icmp .ge 50, 3) := by decide +kernel
theorem d_Se_gatherRow_53 : decode c_Se_gatherRow 53 = .ok (.aload_n 0, 1) := by decide +kernel
theorem d_Se_gatherRow_54 : decode c_Se_gatherRow 54 = .ok (.getfield 36, 3) := by decide +kernel
theorem d_Se_gatherRow_57 : decode c_Se_gatherRow 57 = .ok (.iload_n 1, 1) := by decide +kernel
theorem d_Se_gatherRow_58 : decode c_Se_gatherRow 58 = .ok (.iaload, 1) := by decide +kernel
theorem d_Se_gatherRow_59 : decode c_Se_gatherRow 59 = .ok (.iconst 1, 1) := by decide +kernel
theorem d_Se_gatherRow_60 : decode c_Se_gatherRow 60 = .ok (.iload_n 3, 1) := by decide +kernel
theorem d_Se_gatherRow_61 : decode c_Se_gatherRow 61 = .ok (.ishl, 1) := by decide +kernel
theorem d_Se_gatherRow_62 : decode c_Se_gatherRow 62 = .ok (.iand, 1) := by decide +kernel
theorem d_Se_gatherRow_63 : decode c_Se_gatherRow 63 = .ok (.ifCond .eq 31, 3) := by decide +kernel
theorem d_Se_gatherRow_66 : decode c_Se_gatherRow 66 = .ok (.aload_n 0, 1) := by decide +kernel
theorem d_Se_gatherRow_67 : decode c_Se_gatherRow 67 = .ok (.getfield 46, 3) := by decide +kernel
theorem d_Se_gatherRow_70 : decode c_Se_gatherRow 70 = .ok (.aload_n 0, 1) := by decide +kernel
theorem d_Se_gatherRow_71 : decode c_Se_gatherRow 71 = .ok (.getfield 49, 3) := by decide +kernel
theorem d_Se_gatherRow_74 : decode c_Se_gatherRow 74 = .ok (.aload_n 0, 1) := by decide +kernel
theorem d_Se_gatherRow_75 : decode c_Se_gatherRow 75 = .ok (.getfield 9, 3) := by decide +kernel
theorem d_Se_gatherRow_78 : decode c_Se_gatherRow 78 = .ok (.iload_n 2, 1) := by decide +kernel
theorem d_Se_gatherRow_79 : decode c_Se_gatherRow 79 = .ok (.iload_n 3, 1) := by decide +kernel
theorem d_Se_gatherRow_80 : decode c_Se_gatherRow 80 = .ok (.invokevirtual 161, 3) := by decide +kernel
theorem d_Se_gatherRow_83 : decode c_Se_gatherRow 83 = .ok (.iastore, 1) := by decide +kernel
theorem d_Se_gatherRow_84 : decode c_Se_gatherRow 84 = .ok (.aload_n 0, 1) := by decide +kernel
theorem d_Se_gatherRow_85 : decode c_Se_gatherRow 85 = .ok (.dup, 1) := by decide +kernel
theorem d_Se_gatherRow_86 : decode c_Se_gatherRow 86 = .ok (.getfield 49, 3) := by decide +kernel
theorem d_Se_gatherRow_89 : decode c_Se_gatherRow 89 = .ok (.iconst 1, 1) := by decide +kernel
theorem d_Se_gatherRow_90 : decode c_Se_gatherRow 90 = .ok (.iadd, 1) := by decide +kernel
theorem d_Se_gatherRow_91 : decode c_Se_gatherRow 91 = .ok (.putfield 49, 3) := by decide +kernel
theorem d_Se_gatherRow_94 : decode c_Se_gatherRow 94 = .ok (.iinc 3 1, 3) := by decide +kernel
theorem d_Se_gatherRow_97 : decode c_Se_gatherRow 97 = .ok (.goto (-56), 3) := by decide +kernel
theorem d_Se_gatherRow_100 : decode c_Se_gatherRow 100 = .ok (.return_, 1) := by decide +kernel
theorem d_Se_fitsLeafOrNode_0 : decode c_Se_fitsLeafOrNode 0 = .ok (.aload_n 0, 1) := by decide +kernel
theorem d_Se_fitsLeafOrNode_1 : decode c_Se_fitsLeafOrNode 1 = .ok (.getfield 9, 3) := by decide +kernel
theorem d_Se_fitsLeafOrNode_4 : decode c_Se_fitsLeafOrNode 4 = .ok (.iload_n 2, 1) := by decide +kernel
theorem d_Se_fitsLeafOrNode_5 : decode c_Se_fitsLeafOrNode 5 = .ok (.aload_n 0, 1) := by decide +kernel
theorem d_Se_fitsLeafOrNode_6 : decode c_Se_fitsLeafOrNode 6 = .ok (.getfield 46, 3) := by decide +kernel
theorem d_Se_fitsLeafOrNode_9 : decode c_Se_fitsLeafOrNode 9 = .ok (.iconst 0, 1) := by decide +kernel
theorem d_Se_fitsLeafOrNode_10 : decode c_Se_fitsLeafOrNode 10 = .ok (.iaload, 1) := by decide +kernel
theorem d_Se_fitsLeafOrNode_11 : decode c_Se_fitsLeafOrNode 11 = .ok (.invokevirtual 164, 3) := by decide +kernel
theorem d_Se_fitsLeafOrNode_14 : decode c_Se_fitsLeafOrNode 14 = .ok (.ifCond .ne 5, 3) := by decide +kernel
theorem d_Se_fitsLeafOrNode_17 : decode c_Se_fitsLeafOrNode 17 = .ok (.iconst 0, 1) := by decide +kernel
theorem d_Se_fitsLeafOrNode_18 : decode c_Se_fitsLeafOrNode 18 = .ok (.ireturn, 1) := by decide +kernel
theorem d_Se_fitsLeafOrNode_19 : decode c_Se_fitsLeafOrNode 19 = .ok (.aload_n 0, 1) := by decide +kernel
theorem d_Se_fitsLeafOrNode_20 : decode c_Se_fitsLeafOrNode 20 = .ok (.getfield 40, 3) := by decide +kernel
theorem d_Se_fitsLeafOrNode_23 : decode c_Se_fitsLeafOrNode 23 = .ok (.iload_n 1, 1) := by decide +kernel
theorem d_Se_fitsLeafOrNode_24 : decode c_Se_fitsLeafOrNode 24 = .ok (.aload_n 0, 1) := by decide +kernel
theorem d_Se_fitsLeafOrNode_25 : decode c_Se_fitsLeafOrNode 25 = .ok (.getfield 46, 3) := by decide +kernel
theorem d_Se_fitsLeafOrNode_28 : decode c_Se_fitsLeafOrNode 28 = .ok (.iconst 0, 1) := by decide +kernel
theorem d_Se_fitsLeafOrNode_29 : decode c_Se_fitsLeafOrNode 29 = .ok (.iaload, 1) := by decide +kernel
theorem d_Se_fitsLeafOrNode_30 : decode c_Se_fitsLeafOrNode 30 = .ok (.iastore, 1) := by decide +kernel
theorem d_Se_fitsLeafOrNode_31 : decode c_Se_fitsLeafOrNode 31 = .ok (.aload_n 0, 1) := by decide +kernel
theorem d_Se_fitsLeafOrNode_32 : decode c_Se_fitsLeafOrNode 32 = .ok (.getfield 43, 3) := by decide +kernel
theorem d_Se_fitsLeafOrNode_35 : decode c_Se_fitsLeafOrNode 35 = .ok (.iload_n 1, 1) := by decide +kernel
theorem d_Se_fitsLeafOrNode_36 : decode c_Se_fitsLeafOrNode 36 = .ok (.aload_n 0, 1) := by decide +kernel
theorem d_Se_fitsLeafOrNode_37 : decode c_Se_fitsLeafOrNode 37 = .ok (.getfield 9, 3) := by decide +kernel
theorem d_Se_fitsLeafOrNode_40 : decode c_Se_fitsLeafOrNode 40 = .ok (.aload_n 0, 1) := by decide +kernel
theorem d_Se_fitsLeafOrNode_41 : decode c_Se_fitsLeafOrNode 41 = .ok (.getfield 46, 3) := by decide +kernel
theorem d_Se_fitsLeafOrNode_44 : decode c_Se_fitsLeafOrNode 44 = .ok (.iconst 0, 1) := by decide +kernel
theorem d_Se_fitsLeafOrNode_45 : decode c_Se_fitsLeafOrNode 45 = .ok (.iaload, 1) := by decide +kernel
theorem d_Se_fitsLeafOrNode_46 : decode c_Se_fitsLeafOrNode 46 = .ok (.invokevirtual 158, 3) := by decide +kernel
theorem d_Se_fitsLeafOrNode_49 : decode c_Se_fitsLeafOrNode 49 = .ok (.invokestatic 167, 3) := by decide +kernel
theorem d_Se_fitsLeafOrNode_52 : decode c_Se_fitsLeafOrNode 52 = .ok (.iastore, 1) := by decide +kernel
theorem d_Se_fitsLeafOrNode_53 : decode c_Se_fitsLeafOrNode 53 = .ok (.iconst 1, 1) := by decide +kernel
theorem d_Se_fitsLeafOrNode_54 : decode c_Se_fitsLeafOrNode 54 = .ok (.ireturn, 1) := by decide +kernel
theorem d_Se_fitsHole_0 : decode c_Se_fitsHole 0 = .ok (.aload_n 0, 1) := by decide +kernel
theorem d_Se_fitsHole_1 : decode c_Se_fitsHole 1 = .ok (.getfield 9, 3) := by decide +kernel
theorem d_Se_fitsHole_4 : decode c_Se_fitsHole 4 = .ok (.iload_n 2, 1) := by decide +kernel
theorem d_Se_fitsHole_5 : decode c_Se_fitsHole 5 = .ok (.iconst 1, 1) := by decide +kernel
theorem d_Se_fitsHole_6 : decode c_Se_fitsHole 6 = .ok (.invokevirtual 132, 3) := by decide +kernel
theorem d_Se_fitsHole_9 : decode c_Se_fitsHole 9 = .ok (.ifCond .eq 21, 3) := by decide +kernel
theorem d_Se_fitsHole_12 : decode c_Se_fitsHole 12 = .ok (.aload_n 0, 1) := by decide +kernel
theorem d_Se_fitsHole_13 : decode c_Se_fitsHole 13 = .ok (.getfield 9, 3) := by decide +kernel
theorem d_Se_fitsHole_16 : decode c_Se_fitsHole 16 = .ok (.aload_n 0, 1) := by decide +kernel
theorem d_Se_fitsHole_17 : decode c_Se_fitsHole 17 = .ok (.getfield 46, 3) := by decide +kernel
theorem d_Se_fitsHole_20 : decode c_Se_fitsHole 20 = .ok (.iconst 0, 1) := by decide +kernel
theorem d_Se_fitsHole_21 : decode c_Se_fitsHole 21 = .ok (.iaload, 1) := by decide +kernel
theorem d_Se_fitsHole_22 : decode c_Se_fitsHole 22 = .ok (.invokevirtual 170, 3) := by decide +kernel
theorem d_Se_fitsHole_25 : decode c_Se_fitsHole 25 = .ok (.ifCond .ne 5, 3) := by decide +kernel
theorem d_Se_fitsHole_28 : decode c_Se_fitsHole 28 = .ok (.iconst 0, 1) := by decide +kernel
theorem d_Se_fitsHole_29 : decode c_Se_fitsHole 29 = .ok (.ireturn, 1) := by decide +kernel
theorem d_Se_fitsHole_30 : decode c_Se_fitsHole 30 = .ok (.aload_n 0, 1) := by decide +kernel
theorem d_Se_fitsHole_31 : decode c_Se_fitsHole 31 = .ok (.getfield 9, 3) := by decide +kernel
theorem d_Se_fitsHole_34 : decode c_Se_fitsHole 34 = .ok (.iload_n 2, 1) := by decide +kernel
theorem d_Se_fitsHole_35 : decode c_Se_fitsHole 35 = .ok (.aload_n 0, 1) := by decide +kernel
theorem d_Se_fitsHole_36 : decode c_Se_fitsHole 36 = .ok (.getfield 46, 3) := by decide +kernel
theorem d_Se_fitsHole_39 : decode c_Se_fitsHole 39 = .ok (.aload_n 0, 1) := by decide +kernel
theorem d_Se_fitsHole_40 : decode c_Se_fitsHole 40 = .ok (.getfield 49, 3) := by decide +kernel
theorem d_Se_fitsHole_43 : decode c_Se_fitsHole 43 = .ok (.invokevirtual 173, 3) := by decide +kernel
theorem d_Se_fitsHole_46 : decode c_Se_fitsHole 46 = .ok (.ifCond .ne 5, 3) := by decide +kernel
theorem d_Se_fitsHole_49 : decode c_Se_fitsHole 49 = .ok (.iconst 0, 1) := by decide +kernel
theorem d_Se_fitsHole_50 : decode c_Se_fitsHole 50 = .ok (.ireturn, 1) := by decide +kernel
theorem d_Se_fitsHole_51 : decode c_Se_fitsHole 51 = .ok (.aload_n 0, 1) := by decide +kernel
theorem d_Se_fitsHole_52 : decode c_Se_fitsHole 52 = .ok (.getfield 9, 3) := by decide +kernel
theorem d_Se_fitsHole_55 : decode c_Se_fitsHole 55 = .ok (.iload_n 2, 1) := by decide +kernel
theorem d_Se_fitsHole_56 : decode c_Se_fitsHole 56 = .ok (.invokevirtual 119, 3) := by decide +kernel
theorem d_Se_fitsHole_59 : decode c_Se_fitsHole 59 = .ok (.istore_n 3, 1) := by decide +kernel
theorem d_Se_fitsHole_60 : decode c_Se_fitsHole 60 = .ok (.aload_n 0, 1) := by decide +kernel
theorem d_Se_fitsHole_61 : decode c_Se_fitsHole 61 = .ok (.getfield 25, 3) := by decide +kernel
theorem d_Se_fitsHole_64 : decode c_Se_fitsHole 64 = .ok (.iload_n 3, 1) := by decide +kernel
theorem d_Se_fitsHole_65 : decode c_Se_fitsHole 65 = .ok (.invokevirtual 177, 3) := by decide +kernel
theorem d_Se_fitsHole_68 : decode c_Se_fitsHole 68 = .ok (.ifCond .eq 22, 3) := by decide +kernel
theorem d_Se_fitsHole_71 : decode c_Se_fitsHole 71 = .ok (.aload_n 0, 1) := by decide +kernel
theorem d_Se_fitsHole_72 : decode c_Se_fitsHole 72 = .ok (.getfield 25, 3) := by decide +kernel
theorem d_Se_fitsHole_75 : decode c_Se_fitsHole 75 = .ok (.iload_n 3, 1) := by decide +kernel
theorem d_Se_fitsHole_76 : decode c_Se_fitsHole 76 = .ok (.aload_n 0, 1) := by decide +kernel
theorem d_Se_fitsHole_77 : decode c_Se_fitsHole 77 = .ok (.getfield 46, 3) := by decide +kernel
theorem d_Se_fitsHole_80 : decode c_Se_fitsHole 80 = .ok (.aload_n 0, 1) := by decide +kernel
theorem d_Se_fitsHole_81 : decode c_Se_fitsHole 81 = .ok (.getfield 49, 3) := by decide +kernel
theorem d_Se_fitsHole_84 : decode c_Se_fitsHole 84 = .ok (.iload_n 1, 1) := by decide +kernel
theorem d_Se_fitsHole_85 : decode c_Se_fitsHole 85 = .ok (.invokevirtual 180, 3) := by decide +kernel
theorem d_Se_fitsHole_88 : decode c_Se_fitsHole 88 = .ok (.iconst 1, 1) := by decide +kernel
theorem d_Se_fitsHole_89 : decode c_Se_fitsHole 89 = .ok (.ireturn, 1) := by decide +kernel
theorem d_Se_fitsHole_90 : decode c_Se_fitsHole 90 = .ok (.aload_n 0, 1) := by decide +kernel
theorem d_Se_fitsHole_91 : decode c_Se_fitsHole 91 = .ok (.getfield 25, 3) := by decide +kernel
theorem d_Se_fitsHole_94 : decode c_Se_fitsHole 94 = .ok (.aload_n 0, 1) := by decide +kernel
theorem d_Se_fitsHole_95 : decode c_Se_fitsHole 95 = .ok (.getfield 9, 3) := by decide +kernel
theorem d_Se_fitsHole_98 : decode c_Se_fitsHole 98 = .ok (.iload_n 3, 1) := by decide +kernel
theorem d_Se_fitsHole_99 : decode c_Se_fitsHole 99 = .ok (.aload_n 0, 1) := by decide +kernel
theorem d_Se_fitsHole_100 : decode c_Se_fitsHole 100 = .ok (.getfield 46, 3) := by decide +kernel
theorem d_Se_fitsHole_103 : decode c_Se_fitsHole 103 = .ok (.aload_n 0, 1) := by decide +kernel
theorem d_Se_fitsHole_104 : decode c_Se_fitsHole 104 = .ok (.getfield 49, 3) := by decide +kernel
theorem d_Se_fitsHole_107 : decode c_Se_fitsHole 107 = .ok (.invokevirtual 184, 3) := by decide +kernel
theorem d_Se_fitsHole_110 : decode c_Se_fitsHole 110 = .ok (.ireturn, 1) := by decide +kernel
theorem d_Se_rowsEndHere_0 : decode c_Se_rowsEndHere 0 = .ok (.aload_n 0, 1) := by decide +kernel
theorem d_Se_rowsEndHere_1 : decode c_Se_rowsEndHere 1 = .ok (.getfield 18, 3) := by decide +kernel
theorem d_Se_rowsEndHere_4 : decode c_Se_rowsEndHere 4 = .ok (.iload_n 1, 1) := by decide +kernel
theorem d_Se_rowsEndHere_5 : decode c_Se_rowsEndHere 5 = .ok (.invokevirtual 90, 3) := by decide +kernel
theorem d_Se_rowsEndHere_8 : decode c_Se_rowsEndHere 8 = .ok (.istore_n 2, 1) := by decide +kernel
theorem d_Se_rowsEndHere_9 : decode c_Se_rowsEndHere 9 = .ok (.aload_n 0, 1) := by decide +kernel
theorem d_Se_rowsEndHere_10 : decode c_Se_rowsEndHere 10 = .ok (.getfield 9, 3) := by decide +kernel
theorem d_Se_rowsEndHere_13 : decode c_Se_rowsEndHere 13 = .ok (.iload_n 2, 1) := by decide +kernel
theorem d_Se_rowsEndHere_14 : decode c_Se_rowsEndHere 14 = .ok (.invokevirtual 188, 3) := by decide +kernel
theorem d_Se_rowsEndHere_17 : decode c_Se_rowsEndHere 17 = .ok (.ifCond .eq 27, 3) := by decide +kernel
theorem d_Se_rowsEndHere_20 : decode c_Se_rowsEndHere 20 = .ok (.aload_n 0, 1) := by decide +kernel
theorem d_Se_rowsEndHere_21 : decode c_Se_rowsEndHere 21 = .ok (.getfield 9, 3) := by decide +kernel
theorem d_Se_rowsEndHere_24 : decode c_Se_rowsEndHere 24 = .ok (.iload_n 2, 1) := by decide +kernel
theorem d_Se_rowsEndHere_25 : decode c_Se_rowsEndHere 25 = .ok (.invokevirtual 158, 3) := by decide +kernel
theorem d_Se_rowsEndHere_28 : decode c_Se_rowsEndHere 28 = .ok (.ifCond .le 5, 3) := by decide +kernel
theorem d_Se_rowsEndHere_31 : decode c_Se_rowsEndHere 31 = .ok (.iconst 1, 1) := by decide +kernel
theorem d_Se_rowsEndHere_32 : decode c_Se_rowsEndHere 32 = .ok (.ireturn, 1) := by decide +kernel
theorem d_Se_rowsEndHere_33 : decode c_Se_rowsEndHere 33 = .ok (.aload_n 0, 1) := by decide +kernel
theorem d_Se_rowsEndHere_34 : decode c_Se_rowsEndHere 34 = .ok (.getfield 43, 3) := by decide +kernel
theorem d_Se_rowsEndHere_37 : decode c_Se_rowsEndHere 37 = .ok (.iload_n 1, 1) := by decide +kernel
theorem d_Se_rowsEndHere_38 : decode c_Se_rowsEndHere 38 = .ok (.iaload, 1) := by decide +kernel
theorem d_Se_rowsEndHere_39 : decode c_Se_rowsEndHere 39 = .ok (.ifCond .eq 5, 3) := by decide +kernel
theorem d_Se_rowsEndHere_42 : decode c_Se_rowsEndHere 42 = .ok (.iconst 0, 1) := by decide +kernel
theorem d_Se_rowsEndHere_43 : decode c_Se_rowsEndHere 43 = .ok (.ireturn, 1) := by decide +kernel
theorem d_Se_rowsEndHere_44 : decode c_Se_rowsEndHere 44 = .ok (.iload_n 1, 1) := by decide +kernel
theorem d_Se_rowsEndHere_45 : decode c_Se_rowsEndHere 45 = .ok (.istore_n 3, 1) := by decide +kernel
theorem d_Se_rowsEndHere_46 : decode c_Se_rowsEndHere 46 = .ok (.iconst 0, 1) := by decide +kernel
theorem d_Se_rowsEndHere_47 : decode c_Se_rowsEndHere 47 = .ok (.istore 4, 2) := by decide +kernel
theorem d_Se_rowsEndHere_49 : decode c_Se_rowsEndHere 49 = .ok (.iload 4, 2) := by decide +kernel
theorem d_Se_rowsEndHere_51 : decode c_Se_rowsEndHere 51 = .ok (.bipush 20, 2) := by decide +kernel
theorem d_Se_rowsEndHere_53 : decode c_Se_rowsEndHere 53 = .ok (.if_icmp .gt 44, 3) := by decide +kernel
theorem d_Se_rowsEndHere_56 : decode c_Se_rowsEndHere 56 = .ok (.iload_n 3, 1) := by decide +kernel
theorem d_Se_rowsEndHere_57 : decode c_Se_rowsEndHere 57 = .ok (.ifCond .le 40, 3) := by decide +kernel
theorem d_Se_rowsEndHere_60 : decode c_Se_rowsEndHere 60 = .ok (.aload_n 0, 1) := by decide +kernel
theorem d_Se_rowsEndHere_61 : decode c_Se_rowsEndHere 61 = .ok (.getfield 18, 3) := by decide +kernel
theorem d_Se_rowsEndHere_64 : decode c_Se_rowsEndHere 64 = .ok (.iload_n 3, 1) := by decide +kernel
theorem d_Se_rowsEndHere_65 : decode c_Se_rowsEndHere 65 = .ok (.invokevirtual 191, 3) := by decide +kernel
theorem d_Se_rowsEndHere_68 : decode c_Se_rowsEndHere 68 = .ok (.ifCond .eq 29, 3) := by decide +kernel
theorem d_Se_rowsEndHere_71 : decode c_Se_rowsEndHere 71 = .ok (.aload_n 0, 1) := by decide +kernel
theorem d_Se_rowsEndHere_72 : decode c_Se_rowsEndHere 72 = .ok (.getfield 18, 3) := by decide +kernel
theorem d_Se_rowsEndHere_75 : decode c_Se_rowsEndHere 75 = .ok (.iload_n 3, 1) := by decide +kernel
theorem d_Se_rowsEndHere_76 : decode c_Se_rowsEndHere 76 = .ok (.invokevirtual 116, 3) := by decide +kernel
theorem d_Se_rowsEndHere_79 : decode c_Se_rowsEndHere 79 = .ok (.istore_n 3, 1) := by decide +kernel
theorem d_Se_rowsEndHere_80 : decode c_Se_rowsEndHere 80 = .ok (.aload_n 0, 1) := by decide +kernel
theorem d_Se_rowsEndHere_81 : decode c_Se_rowsEndHere 81 = .ok (.getfield 43, 3) := by decide +kernel
theorem d_Se_rowsEndHere_84 : decode c_Se_rowsEndHere 84 = .ok (.iload_n 3, 1) := by decide +kernel
theorem d_Se_rowsEndHere_85 : decode c_Se_rowsEndHere 85 = .ok (.iaload, 1) := by decide +kernel
theorem d_Se_rowsEndHere_86 : decode c_Se_rowsEndHere 86 = .ok (.ifCond .eq 5, 3) := by decide +kernel
theorem d_Se_rowsEndHere_89 : decode c_Se_rowsEndHere 89 = .ok (.iconst 0, 1) := by decide +kernel
theorem d_Se_rowsEndHere_90 : decode c_Se_rowsEndHere 90 = .ok (.ireturn, 1) := by decide +kernel
theorem d_Se_rowsEndHere_91 : decode c_Se_rowsEndHere 91 = .ok (.iinc 4 1, 3) := by decide +kernel
theorem d_Se_rowsEndHere_94 : decode c_Se_rowsEndHere 94 = .ok (.goto (-45), 3) := by decide +kernel
theorem d_Se_rowsEndHere_97 : decode c_Se_rowsEndHere 97 = .ok (.iconst 1, 1) := by decide +kernel
theorem d_Se_rowsEndHere_98 : decode c_Se_rowsEndHere 98 = .ok (.ireturn, 1) := by decide +kernel
end
section
/-! the state of all cells that the walk moves: numbers, rows of numbers, the law's row of one long -/
abbrev kS : Type := (Nat → Int32) × (Nat → Nat → Int32) × (Nat → Int64)
def k_sS (σ : kS) (k : Nat) (x : Int32) : kS := (upd σ.1 k x, σ.2)
def k_sA (σ : kS) (k : Nat) (f : Nat → Int32) : kS := (σ.1, va_up σ.2.1 k f, σ.2.2)
def k_sL (σ : kS) (f : Nat → Int64) : kS := (σ.1, σ.2.1, f)
/-! the words that the mirrors are made of, and what follows where one of them comes to an end -/
section KM
variable {α : Type} {r : α}
def k_ld (f : Nat → Int32) (n : Nat) (i : Int32) (k : Int32 → Option α) : Option α := if i < 0 ∨ n ≤ i.toNatClampNeg then none else k (f i.toNatClampNeg)
theorem k_ld_e {f : Nat → Int32} {n : Nat} {i : Int32} {k : Int32 → Option α} (h : k_ld f n i k = some r) : ∃ x, x = f i.toNatClampNeg ∧ vp_in i n ∧ k x = some r := by
  unfold k_ld at h
  by_cases c : i < 0 ∨ n ≤ i.toNatClampNeg
  · rw [if_pos c] at h; cases h
  · rw [if_neg c] at h; exact ⟨_, rfl, c, h⟩
def k_st (σ : kS) (j n : Nat) (i x : Int32) (k : kS → Option α) : Option α := if i < 0 ∨ n ≤ i.toNatClampNeg then none else k (k_sA σ j (upd (σ.2.1 j) i.toNatClampNeg x))
theorem k_st_e {σ : kS} {j n : Nat} {i x : Int32} {k : kS → Option α} (h : k_st σ j n i x k = some r) : ∃ σ', σ' = k_sA σ j (upd (σ.2.1 j) i.toNatClampNeg x) ∧ vp_in i n ∧ k σ' = some r := by
  unfold k_st at h
  by_cases c : i < 0 ∨ n ≤ i.toNatClampNeg
  · rw [if_pos c] at h; cases h
  · rw [if_neg c] at h; exact ⟨_, rfl, c, h⟩
def k_set (σ : kS) (j : Nat) (x : Int32) (k : kS → Option α) : Option α := k (k_sS σ j x)
theorem k_set_e {σ : kS} {j : Nat} {x : Int32} {k : kS → Option α} (h : k_set σ j x k = some r) : ∃ σ', σ' = k_sS σ j x ∧ k σ' = some r := ⟨_, rfl, h⟩
def k_let (x : Int32) (k : Int32 → Option α) : Option α := k x
theorem k_let_e {x : Int32} {k : Int32 → Option α} (h : k_let x k = some r) : ∃ y, y = x ∧ k y = some r := ⟨_, rfl, h⟩
def k_z (v : Int32) (o : Option α) : Option α := if v = 0 ∨ v = 1 then o else none
theorem k_z_e {v : Int32} {o : Option α} (h : k_z v o = some r) : (v = 0 ∨ v = 1) ∧ o = some r := by
  unfold k_z at h
  by_cases c : v = 0 ∨ v = 1
  · rw [if_pos c] at h; exact ⟨c, h⟩
  · rw [if_neg c] at h; cases h
def k_call (o : Option (Int32 × kS)) (k : Int32 → kS → Option α) : Option α := match o with
  | none => none
  | some (x, σ) => k x σ
theorem k_call_e {o : Option (Int32 × kS)} {k : Int32 → kS → Option α} (h : k_call o k = some r) : ∃ x σ', o = some (x, σ') ∧ k x σ' = some r := by
  cases o with
  | none => cases h
  | some q => exact ⟨q.1, q.2, rfl, h⟩
def k_cp (σ : kS) (j0 n0 j1 n1 : Nat) (sp dp n : Int32) (k : kS → Option α) : Option α := if sp < 0 ∨ dp < 0 ∨ n < 0 ∨ n0 < sp.toNatClampNeg + n.toNatClampNeg ∨ n1 < dp.toNatClampNeg + n.toNatClampNeg then none else k (k_sA σ j1 (va_cpy (σ.2.1 j0) (σ.2.1 j1) sp.toNatClampNeg dp.toNatClampNeg n.toNatClampNeg))
theorem k_cp_e {σ : kS} {j0 n0 j1 n1 : Nat} {sp dp n : Int32} {k : kS → Option α} (h : k_cp σ j0 n0 j1 n1 sp dp n k = some r) : ∃ σ', σ' = k_sA σ j1 (va_cpy (σ.2.1 j0) (σ.2.1 j1) sp.toNatClampNeg dp.toNatClampNeg n.toNatClampNeg) ∧ ¬ sp < 0 ∧ ¬ dp < 0 ∧ ¬ n < 0 ∧ sp.toNatClampNeg + n.toNatClampNeg ≤ n0 ∧ dp.toNatClampNeg + n.toNatClampNeg ≤ n1 ∧ k σ' = some r := by
  unfold k_cp at h
  by_cases c : sp < 0 ∨ dp < 0 ∨ n < 0 ∨ n0 < sp.toNatClampNeg + n.toNatClampNeg ∨ n1 < dp.toNatClampNeg + n.toNatClampNeg
  · rw [if_pos c] at h; cases h
  · rw [if_neg c] at h
    exact ⟨_, rfl, fun q => c (Or.inl q), fun q => c (Or.inr (Or.inl q)), fun q => c (Or.inr (Or.inr (Or.inl q))), Nat.le_of_not_lt (fun q => c (Or.inr (Or.inr (Or.inr (Or.inl q))))), Nat.le_of_not_lt (fun q => c (Or.inr (Or.inr (Or.inr (Or.inr q))))), h⟩
end KM
/-- an answer of a method that may throw: 0 and what it answers, or the number of what it threw -/
abbrev kR : Type := (Nat × Int32) × kS
def k_callx (o : Option kR) (k : Int32 → kS → Option kR) : Option kR := match o with
  | none => none
  | some ((0, x), σ) => k x σ
  | some ((n + 1, _), σ) => some ((n + 1, 0), σ)
theorem k_callx_e {o : Option kR} {k : Int32 → kS → Option kR} {r : kR} (h : k_callx o k = some r) : ∃ n x σ', o = some ((n, x), σ') ∧ (n = 0 → k x σ' = some r) ∧ (n ≠ 0 → r = ((n, 0), σ')) := by
  cases o with
  | none => cases h
  | some q =>
    obtain ⟨⟨n, x⟩, σ'⟩ := q
    cases n with
    | zero => exact ⟨0, x, σ', rfl, fun _ => h, fun e => absurd rfl e⟩
    | succ n => exact ⟨n + 1, x, σ', rfl, fun e => by omega, fun _ => (Option.some.inj h).symm⟩
/-- how often a loop of a mirror may go round: far above what any run needs -/
def k_fu : Nat := 100000
/-- worlds at the same addresses are apart alike -/
theorem k_fstD {A : Nat → Prop} {w w' : va_W} (e : w.map Prod.fst = w'.map Prod.fst) (h : va_D A w) : va_D A w' := by
  have at' : ∀ (k : Nat) (q : Nat × va_E), w'[k]? = some q → ∃ p : Nat × va_E, w[k]? = some p ∧ p.1 = q.1 := by
    intro k q hq
    have h1 : (w.map Prod.fst)[k]? = some q.1 := by rw [e, List.getElem?_map, hq]; rfl
    rw [List.getElem?_map] at h1
    cases hp : w[k]? with
    | none => rw [hp] at h1; cases h1
    | some p => rw [hp] at h1; exact ⟨p, rfl, Option.some.inj h1⟩
  refine ⟨fun i j p q hp hq hpq => ?_, fun k q hq => ?_⟩
  · obtain ⟨p2, h1, e1⟩ := at' i p hp
    obtain ⟨q2, h2, e2⟩ := at' j q hq
    exact h.1 i j p2 q2 h1 h2 (e1.trans (hpq.trans e2.symm))
  · obtain ⟨p2, h1, e1⟩ := at' k q hq
    exact e1 ▸ h.2 k p2 h1
theorem k_free {A : Nat → Prop} {w : va_W} {H0 H : Heap} {locs : List Loc} (hD : va_D A w) (hS : va_S A H0 H locs) (hA : ∀ q, H0.size ≤ q → A q) : ∀ q, va_A w H.size q → A q := by
  intro q h
  rcases h with ⟨k, e, h⟩ | h
  · exact hD.2 k (q, e) h
  · exact hA q (Nat.le_trans hS.1 h)
theorem k_mvP {D : va_G} {cl : List vw_C} {H : Heap} {w w' : va_W} (e : w = w') (h : va_P D cl w H) : va_P D cl w' H := e ▸ h
theorem k_mvD {A : Nat → Prop} {w w' : va_W} (e : w = w') (h : va_D A w) : va_D A w' := e ▸ h
/-! the words of a call -/
theorem k_cons {c : Cond} (h : c ∈ kG) : ∀ w ∈ c :: kG, w ∈ kG := fun w hw => (List.mem_cons.mp hw).elim (fun e => e ▸ h) id
theorem k_goodI {ws : List Cond} (h : ∀ w ∈ ws, w ∈ kG) : GoodIn kG ws := fun w hw => ⟨h w hw, good_of_word (k_kG w (h w hw))⟩
theorem k_gV {own C : String} {idx maxL : Nat} {y : MethodName} {bytes : ByteArray} {ret : Option FieldType} (h1 : Cond.methodLink own idx y ∈ kG) (h2 : Cond.instanceMethod y ∈ kG) (h3 : Cond.selects C y y ∈ kG) (h4 : Cond.initialized C ∈ kG) (h5 : Cond.code y bytes maxL ret ∈ kG) :
    GoodIn kG (wsV own idx C y (Cond.code y bytes maxL ret :: kG)) := k_goodI (fun w hw => by
  rcases List.mem_append.mp hw with h | h
  · rcases List.mem_cons.mp h with rfl | h
    · exact h1
    · rcases List.mem_cons.mp h with rfl | h
      · exact h2
      · rcases List.mem_cons.mp h with rfl | h
        · exact h3
        · rcases List.mem_cons.mp h with rfl | h
          · exact h4
          · cases h
  · exact k_cons h5 w h)
theorem k_gS {own : String} {idx maxL : Nat} {y : MethodName} {bytes : ByteArray} {ret : Option FieldType} (h1 : Cond.methodLink own idx y ∈ kG) (h2 : Cond.static y ∈ kG) (h4 : Cond.initialized y.cls ∈ kG) (h5 : Cond.code y bytes maxL ret ∈ kG) :
    GoodIn kG (va_wsS own idx y (Cond.code y bytes maxL ret :: kG)) := k_goodI (fun w hw => by
  rcases List.mem_append.mp hw with h | h
  · rcases List.mem_cons.mp h with rfl | h
    · exact h1
    · rcases List.mem_cons.mp h with rfl | h
      · exact h2
      · rcases List.mem_cons.mp h with rfl | h
        · exact h4
        · cases h
  · exact k_cons h5 w h)
end
section
/-! the world, by program (wip/whole/world.py): all cells in one order; a: their addresses; c9: the classes of int[], boolean[], long[] -/
def kw (a : Nat → Nat) (c9 : Nat → ClassId) (σ : kS) : va_W := [
  (a 0, .inr (0, [.ref (a 1), .ref (a 2), .ref (a 7), .int (σ.1 0), .ref (a 8), .int (σ.1 1)])),
  (a 1, .inr (2, [.int (σ.1 2), .ref (a 9), .ref (a 10), .ref (a 11), .ref (a 12), .ref (a 13), .ref (a 14), .ref (a 15), .ref (a 16), .ref (a 17), .ref (a 18), .ref (a 19), .ref (a 20)])),
  (a 2, .inr (6, [.ref (a 1), .ref (a 3), .ref (a 4), .ref (a 5), .ref (a 21), .ref (a 22), .ref (a 23), .ref (a 24), .int (σ.1 3), .int (σ.1 4), .int (σ.1 5), .int (σ.1 6), .int (σ.1 7)])),
  (a 3, .inr (5, [.int (σ.1 8), .ref (a 25), .ref (a 26), .ref (a 27)])),
  (a 4, .inr (4, [.ref (a 28), .ref (a 29), .ref (a 30)])),
  (a 5, .inr (3, [.int (σ.1 9), .ref (a 31), .ref (a 32)])),
  (a 6, .inr (1, [.int (σ.1 10), .int (σ.1 11), .ref (a 33), .ref (a 34), .ref (a 35), .ref (a 36), .ref (a 37), .ref (a 38), .ref (a 39), .ref (a 40), .ref (a 41), .ref (a 42), .ref (a 43), .ref (a 44), .int (σ.1 12), .ref (a 45), .int (σ.1 13), .ref (a 46), .int (σ.1 14), .ref (a 47), .ref (a 48), .ref (a 49), .ref (a 50), .int (σ.1 15), .ref (a 51), .int (σ.1 16), .int (σ.1 17), .int (σ.1 18), .int (σ.1 19), .int (σ.1 20), .ref (a 52), .ref (a 53), .ref (a 54), .ref (a 55), .ref (a 56), .int (σ.1 21), .ref (a 57), .ref (a 58), .ref (a 59), .ref (a 60), .ref (a 61), .ref (a 62), .ref (a 63), .ref (a 64)])),
  (a 7, .inl (c9 0, 30, .inl (σ.2.1 0))),
  (a 8, .inl (c9 0, 30, .inl (σ.2.1 1))),
  (a 9, .inl (c9 0, 240, .inl (σ.2.1 2))),
  (a 10, .inl (c9 0, 240, .inl (σ.2.1 3))),
  (a 11, .inl (c9 0, 240, .inl (σ.2.1 4))),
  (a 12, .inl (c9 1, 240, .inl (σ.2.1 5))),
  (a 13, .inl (c9 1, 240, .inl (σ.2.1 6))),
  (a 14, .inl (c9 0, 240, .inl (σ.2.1 7))),
  (a 15, .inl (c9 0, 240, .inl (σ.2.1 8))),
  (a 16, .inl (c9 0, 240, .inl (σ.2.1 9))),
  (a 17, .inl (c9 0, 2880, .inl (σ.2.1 10))),
  (a 18, .inl (c9 0, 240, .inl (σ.2.1 11))),
  (a 19, .inl (c9 0, 720, .inl (σ.2.1 12))),
  (a 20, .inl (c9 0, 720, .inl (σ.2.1 13))),
  (a 21, .inl (c9 0, 70, .inl (σ.2.1 14))),
  (a 22, .inl (c9 0, 70, .inl (σ.2.1 15))),
  (a 23, .inl (c9 0, 70, .inl (σ.2.1 16))),
  (a 24, .inl (c9 0, 12, .inl (σ.2.1 17))),
  (a 25, .inl (c9 0, 70, .inl (σ.2.1 18))),
  (a 26, .inl (c9 0, 70, .inl (σ.2.1 19))),
  (a 27, .inl (c9 1, 70, .inl (σ.2.1 20))),
  (a 28, .inl (c9 0, 8, .inl (σ.2.1 21))),
  (a 29, .inl (c9 0, 96, .inl (σ.2.1 22))),
  (a 30, .inl (c9 0, 8, .inl (σ.2.1 23))),
  (a 31, .inl (c9 0, 160, .inl (σ.2.1 24))),
  (a 32, .inl (c9 0, 1920, .inl (σ.2.1 25))),
  (a 33, .inl (c9 0, 240, .inl (σ.2.1 26))),
  (a 34, .inl (c9 0, 240, .inl (σ.2.1 27))),
  (a 35, .inl (c9 0, 240, .inl (σ.2.1 28))),
  (a 36, .inl (c9 0, 240, .inl (σ.2.1 29))),
  (a 37, .inl (c9 0, 2880, .inl (σ.2.1 30))),
  (a 38, .inl (c9 1, 240, .inl (σ.2.1 31))),
  (a 39, .inl (c9 1, 240, .inl (σ.2.1 32))),
  (a 40, .inl (c9 0, 240, .inl (σ.2.1 33))),
  (a 41, .inl (c9 0, 240, .inl (σ.2.1 34))),
  (a 42, .inl (c9 0, 240, .inl (σ.2.1 35))),
  (a 43, .inl (c9 0, 720, .inl (σ.2.1 36))),
  (a 44, .inl (c9 0, 720, .inl (σ.2.1 37))),
  (a 45, .inl (c9 0, 30, .inl (σ.2.1 38))),
  (a 46, .inl (c9 0, 30, .inl (σ.2.1 39))),
  (a 47, .inl (c9 0, 160, .inl (σ.2.1 40))),
  (a 48, .inl (c9 0, 1920, .inl (σ.2.1 41))),
  (a 49, .inl (c9 0, 8, .inl (σ.2.1 42))),
  (a 50, .inl (c9 0, 96, .inl (σ.2.1 43))),
  (a 51, .inl (c9 0, 8, .inl (σ.2.1 44))),
  (a 52, .inl (c9 0, 1000, .inl (σ.2.1 45))),
  (a 53, .inl (c9 0, 1000, .inl (σ.2.1 46))),
  (a 54, .inl (c9 0, 1000, .inl (σ.2.1 47))),
  (a 55, .inl (c9 0, 1000, .inl (σ.2.1 48))),
  (a 56, .inl (c9 0, 1000, .inl (σ.2.1 49))),
  (a 57, .inl (c9 0, 500, .inl (σ.2.1 50))),
  (a 58, .inl (c9 0, 500, .inl (σ.2.1 51))),
  (a 59, .inl (c9 0, 500, .inl (σ.2.1 52))),
  (a 60, .inl (c9 0, 500, .inl (σ.2.1 53))),
  (a 61, .inl (c9 0, 64, .inl (σ.2.1 54))),
  (a 62, .inl (c9 0, 64, .inl (σ.2.1 55))),
  (a 63, .inl (c9 0, 64, .inl (σ.2.1 56))),
  (a 64, .inl (c9 0, 12, .inl (σ.2.1 57))),
  (a 65, .inl (c9 2, 1, .inr (.inl σ.2.2)))]
abbrev ktys (c9 : Nat → ClassId) : List (ClassId × FieldType) := [(c9 0, .int), (c9 1, .boolean), (c9 2, .long)]
section KW
variable {a : Nat → Nat} {c9 : Nat → ClassId} {σ σ' : kS}
theorem kw_0 : (kw a c9 σ)[0]? = some (a 0, .inr (0, [.ref (a 1), .ref (a 2), .ref (a 7), .int (σ.1 0), .ref (a 8), .int (σ.1 1)])) := rfl
theorem kw_f0_3 {x : Int32} : (kw a c9 σ).set 0 (a 0, .inr (0, ([.ref (a 1), .ref (a 2), .ref (a 7), .int (σ.1 0), .ref (a 8), .int (σ.1 1)] : List Value).set 3 (.int x))) = kw a c9 (k_sS σ 0 x) := rfl
theorem kw_f0_5 {x : Int32} : (kw a c9 σ).set 0 (a 0, .inr (0, ([.ref (a 1), .ref (a 2), .ref (a 7), .int (σ.1 0), .ref (a 8), .int (σ.1 1)] : List Value).set 5 (.int x))) = kw a c9 (k_sS σ 1 x) := rfl
theorem kw_1 : (kw a c9 σ)[1]? = some (a 1, .inr (2, [.int (σ.1 2), .ref (a 9), .ref (a 10), .ref (a 11), .ref (a 12), .ref (a 13), .ref (a 14), .ref (a 15), .ref (a 16), .ref (a 17), .ref (a 18), .ref (a 19), .ref (a 20)])) := rfl
theorem kw_f1_0 {x : Int32} : (kw a c9 σ).set 1 (a 1, .inr (2, ([.int (σ.1 2), .ref (a 9), .ref (a 10), .ref (a 11), .ref (a 12), .ref (a 13), .ref (a 14), .ref (a 15), .ref (a 16), .ref (a 17), .ref (a 18), .ref (a 19), .ref (a 20)] : List Value).set 0 (.int x))) = kw a c9 (k_sS σ 2 x) := rfl
theorem kw_2 : (kw a c9 σ)[2]? = some (a 2, .inr (6, [.ref (a 1), .ref (a 3), .ref (a 4), .ref (a 5), .ref (a 21), .ref (a 22), .ref (a 23), .ref (a 24), .int (σ.1 3), .int (σ.1 4), .int (σ.1 5), .int (σ.1 6), .int (σ.1 7)])) := rfl
theorem kw_f2_8 {x : Int32} : (kw a c9 σ).set 2 (a 2, .inr (6, ([.ref (a 1), .ref (a 3), .ref (a 4), .ref (a 5), .ref (a 21), .ref (a 22), .ref (a 23), .ref (a 24), .int (σ.1 3), .int (σ.1 4), .int (σ.1 5), .int (σ.1 6), .int (σ.1 7)] : List Value).set 8 (.int x))) = kw a c9 (k_sS σ 3 x) := rfl
theorem kw_f2_9 {x : Int32} : (kw a c9 σ).set 2 (a 2, .inr (6, ([.ref (a 1), .ref (a 3), .ref (a 4), .ref (a 5), .ref (a 21), .ref (a 22), .ref (a 23), .ref (a 24), .int (σ.1 3), .int (σ.1 4), .int (σ.1 5), .int (σ.1 6), .int (σ.1 7)] : List Value).set 9 (.int x))) = kw a c9 (k_sS σ 4 x) := rfl
theorem kw_f2_10 {x : Int32} : (kw a c9 σ).set 2 (a 2, .inr (6, ([.ref (a 1), .ref (a 3), .ref (a 4), .ref (a 5), .ref (a 21), .ref (a 22), .ref (a 23), .ref (a 24), .int (σ.1 3), .int (σ.1 4), .int (σ.1 5), .int (σ.1 6), .int (σ.1 7)] : List Value).set 10 (.int x))) = kw a c9 (k_sS σ 5 x) := rfl
theorem kw_f2_11 {x : Int32} : (kw a c9 σ).set 2 (a 2, .inr (6, ([.ref (a 1), .ref (a 3), .ref (a 4), .ref (a 5), .ref (a 21), .ref (a 22), .ref (a 23), .ref (a 24), .int (σ.1 3), .int (σ.1 4), .int (σ.1 5), .int (σ.1 6), .int (σ.1 7)] : List Value).set 11 (.int x))) = kw a c9 (k_sS σ 6 x) := rfl
theorem kw_f2_12 {x : Int32} : (kw a c9 σ).set 2 (a 2, .inr (6, ([.ref (a 1), .ref (a 3), .ref (a 4), .ref (a 5), .ref (a 21), .ref (a 22), .ref (a 23), .ref (a 24), .int (σ.1 3), .int (σ.1 4), .int (σ.1 5), .int (σ.1 6), .int (σ.1 7)] : List Value).set 12 (.int x))) = kw a c9 (k_sS σ 7 x) := rfl
theorem kw_3 : (kw a c9 σ)[3]? = some (a 3, .inr (5, [.int (σ.1 8), .ref (a 25), .ref (a 26), .ref (a 27)])) := rfl
theorem kw_f3_0 {x : Int32} : (kw a c9 σ).set 3 (a 3, .inr (5, ([.int (σ.1 8), .ref (a 25), .ref (a 26), .ref (a 27)] : List Value).set 0 (.int x))) = kw a c9 (k_sS σ 8 x) := rfl
theorem kw_4 : (kw a c9 σ)[4]? = some (a 4, .inr (4, [.ref (a 28), .ref (a 29), .ref (a 30)])) := rfl
theorem kw_5 : (kw a c9 σ)[5]? = some (a 5, .inr (3, [.int (σ.1 9), .ref (a 31), .ref (a 32)])) := rfl
theorem kw_f5_0 {x : Int32} : (kw a c9 σ).set 5 (a 5, .inr (3, ([.int (σ.1 9), .ref (a 31), .ref (a 32)] : List Value).set 0 (.int x))) = kw a c9 (k_sS σ 9 x) := rfl
theorem kw_6 : (kw a c9 σ)[6]? = some (a 6, .inr (1, [.int (σ.1 10), .int (σ.1 11), .ref (a 33), .ref (a 34), .ref (a 35), .ref (a 36), .ref (a 37), .ref (a 38), .ref (a 39), .ref (a 40), .ref (a 41), .ref (a 42), .ref (a 43), .ref (a 44), .int (σ.1 12), .ref (a 45), .int (σ.1 13), .ref (a 46), .int (σ.1 14), .ref (a 47), .ref (a 48), .ref (a 49), .ref (a 50), .int (σ.1 15), .ref (a 51), .int (σ.1 16), .int (σ.1 17), .int (σ.1 18), .int (σ.1 19), .int (σ.1 20), .ref (a 52), .ref (a 53), .ref (a 54), .ref (a 55), .ref (a 56), .int (σ.1 21), .ref (a 57), .ref (a 58), .ref (a 59), .ref (a 60), .ref (a 61), .ref (a 62), .ref (a 63), .ref (a 64)])) := rfl
theorem kw_f6_0 {x : Int32} : (kw a c9 σ).set 6 (a 6, .inr (1, ([.int (σ.1 10), .int (σ.1 11), .ref (a 33), .ref (a 34), .ref (a 35), .ref (a 36), .ref (a 37), .ref (a 38), .ref (a 39), .ref (a 40), .ref (a 41), .ref (a 42), .ref (a 43), .ref (a 44), .int (σ.1 12), .ref (a 45), .int (σ.1 13), .ref (a 46), .int (σ.1 14), .ref (a 47), .ref (a 48), .ref (a 49), .ref (a 50), .int (σ.1 15), .ref (a 51), .int (σ.1 16), .int (σ.1 17), .int (σ.1 18), .int (σ.1 19), .int (σ.1 20), .ref (a 52), .ref (a 53), .ref (a 54), .ref (a 55), .ref (a 56), .int (σ.1 21), .ref (a 57), .ref (a 58), .ref (a 59), .ref (a 60), .ref (a 61), .ref (a 62), .ref (a 63), .ref (a 64)] : List Value).set 0 (.int x))) = kw a c9 (k_sS σ 10 x) := rfl
theorem kw_f6_1 {x : Int32} : (kw a c9 σ).set 6 (a 6, .inr (1, ([.int (σ.1 10), .int (σ.1 11), .ref (a 33), .ref (a 34), .ref (a 35), .ref (a 36), .ref (a 37), .ref (a 38), .ref (a 39), .ref (a 40), .ref (a 41), .ref (a 42), .ref (a 43), .ref (a 44), .int (σ.1 12), .ref (a 45), .int (σ.1 13), .ref (a 46), .int (σ.1 14), .ref (a 47), .ref (a 48), .ref (a 49), .ref (a 50), .int (σ.1 15), .ref (a 51), .int (σ.1 16), .int (σ.1 17), .int (σ.1 18), .int (σ.1 19), .int (σ.1 20), .ref (a 52), .ref (a 53), .ref (a 54), .ref (a 55), .ref (a 56), .int (σ.1 21), .ref (a 57), .ref (a 58), .ref (a 59), .ref (a 60), .ref (a 61), .ref (a 62), .ref (a 63), .ref (a 64)] : List Value).set 1 (.int x))) = kw a c9 (k_sS σ 11 x) := rfl
theorem kw_f6_14 {x : Int32} : (kw a c9 σ).set 6 (a 6, .inr (1, ([.int (σ.1 10), .int (σ.1 11), .ref (a 33), .ref (a 34), .ref (a 35), .ref (a 36), .ref (a 37), .ref (a 38), .ref (a 39), .ref (a 40), .ref (a 41), .ref (a 42), .ref (a 43), .ref (a 44), .int (σ.1 12), .ref (a 45), .int (σ.1 13), .ref (a 46), .int (σ.1 14), .ref (a 47), .ref (a 48), .ref (a 49), .ref (a 50), .int (σ.1 15), .ref (a 51), .int (σ.1 16), .int (σ.1 17), .int (σ.1 18), .int (σ.1 19), .int (σ.1 20), .ref (a 52), .ref (a 53), .ref (a 54), .ref (a 55), .ref (a 56), .int (σ.1 21), .ref (a 57), .ref (a 58), .ref (a 59), .ref (a 60), .ref (a 61), .ref (a 62), .ref (a 63), .ref (a 64)] : List Value).set 14 (.int x))) = kw a c9 (k_sS σ 12 x) := rfl
theorem kw_f6_16 {x : Int32} : (kw a c9 σ).set 6 (a 6, .inr (1, ([.int (σ.1 10), .int (σ.1 11), .ref (a 33), .ref (a 34), .ref (a 35), .ref (a 36), .ref (a 37), .ref (a 38), .ref (a 39), .ref (a 40), .ref (a 41), .ref (a 42), .ref (a 43), .ref (a 44), .int (σ.1 12), .ref (a 45), .int (σ.1 13), .ref (a 46), .int (σ.1 14), .ref (a 47), .ref (a 48), .ref (a 49), .ref (a 50), .int (σ.1 15), .ref (a 51), .int (σ.1 16), .int (σ.1 17), .int (σ.1 18), .int (σ.1 19), .int (σ.1 20), .ref (a 52), .ref (a 53), .ref (a 54), .ref (a 55), .ref (a 56), .int (σ.1 21), .ref (a 57), .ref (a 58), .ref (a 59), .ref (a 60), .ref (a 61), .ref (a 62), .ref (a 63), .ref (a 64)] : List Value).set 16 (.int x))) = kw a c9 (k_sS σ 13 x) := rfl
theorem kw_f6_18 {x : Int32} : (kw a c9 σ).set 6 (a 6, .inr (1, ([.int (σ.1 10), .int (σ.1 11), .ref (a 33), .ref (a 34), .ref (a 35), .ref (a 36), .ref (a 37), .ref (a 38), .ref (a 39), .ref (a 40), .ref (a 41), .ref (a 42), .ref (a 43), .ref (a 44), .int (σ.1 12), .ref (a 45), .int (σ.1 13), .ref (a 46), .int (σ.1 14), .ref (a 47), .ref (a 48), .ref (a 49), .ref (a 50), .int (σ.1 15), .ref (a 51), .int (σ.1 16), .int (σ.1 17), .int (σ.1 18), .int (σ.1 19), .int (σ.1 20), .ref (a 52), .ref (a 53), .ref (a 54), .ref (a 55), .ref (a 56), .int (σ.1 21), .ref (a 57), .ref (a 58), .ref (a 59), .ref (a 60), .ref (a 61), .ref (a 62), .ref (a 63), .ref (a 64)] : List Value).set 18 (.int x))) = kw a c9 (k_sS σ 14 x) := rfl
theorem kw_f6_23 {x : Int32} : (kw a c9 σ).set 6 (a 6, .inr (1, ([.int (σ.1 10), .int (σ.1 11), .ref (a 33), .ref (a 34), .ref (a 35), .ref (a 36), .ref (a 37), .ref (a 38), .ref (a 39), .ref (a 40), .ref (a 41), .ref (a 42), .ref (a 43), .ref (a 44), .int (σ.1 12), .ref (a 45), .int (σ.1 13), .ref (a 46), .int (σ.1 14), .ref (a 47), .ref (a 48), .ref (a 49), .ref (a 50), .int (σ.1 15), .ref (a 51), .int (σ.1 16), .int (σ.1 17), .int (σ.1 18), .int (σ.1 19), .int (σ.1 20), .ref (a 52), .ref (a 53), .ref (a 54), .ref (a 55), .ref (a 56), .int (σ.1 21), .ref (a 57), .ref (a 58), .ref (a 59), .ref (a 60), .ref (a 61), .ref (a 62), .ref (a 63), .ref (a 64)] : List Value).set 23 (.int x))) = kw a c9 (k_sS σ 15 x) := rfl
theorem kw_f6_25 {x : Int32} : (kw a c9 σ).set 6 (a 6, .inr (1, ([.int (σ.1 10), .int (σ.1 11), .ref (a 33), .ref (a 34), .ref (a 35), .ref (a 36), .ref (a 37), .ref (a 38), .ref (a 39), .ref (a 40), .ref (a 41), .ref (a 42), .ref (a 43), .ref (a 44), .int (σ.1 12), .ref (a 45), .int (σ.1 13), .ref (a 46), .int (σ.1 14), .ref (a 47), .ref (a 48), .ref (a 49), .ref (a 50), .int (σ.1 15), .ref (a 51), .int (σ.1 16), .int (σ.1 17), .int (σ.1 18), .int (σ.1 19), .int (σ.1 20), .ref (a 52), .ref (a 53), .ref (a 54), .ref (a 55), .ref (a 56), .int (σ.1 21), .ref (a 57), .ref (a 58), .ref (a 59), .ref (a 60), .ref (a 61), .ref (a 62), .ref (a 63), .ref (a 64)] : List Value).set 25 (.int x))) = kw a c9 (k_sS σ 16 x) := rfl
theorem kw_f6_26 {x : Int32} : (kw a c9 σ).set 6 (a 6, .inr (1, ([.int (σ.1 10), .int (σ.1 11), .ref (a 33), .ref (a 34), .ref (a 35), .ref (a 36), .ref (a 37), .ref (a 38), .ref (a 39), .ref (a 40), .ref (a 41), .ref (a 42), .ref (a 43), .ref (a 44), .int (σ.1 12), .ref (a 45), .int (σ.1 13), .ref (a 46), .int (σ.1 14), .ref (a 47), .ref (a 48), .ref (a 49), .ref (a 50), .int (σ.1 15), .ref (a 51), .int (σ.1 16), .int (σ.1 17), .int (σ.1 18), .int (σ.1 19), .int (σ.1 20), .ref (a 52), .ref (a 53), .ref (a 54), .ref (a 55), .ref (a 56), .int (σ.1 21), .ref (a 57), .ref (a 58), .ref (a 59), .ref (a 60), .ref (a 61), .ref (a 62), .ref (a 63), .ref (a 64)] : List Value).set 26 (.int x))) = kw a c9 (k_sS σ 17 x) := rfl
theorem kw_f6_27 {x : Int32} : (kw a c9 σ).set 6 (a 6, .inr (1, ([.int (σ.1 10), .int (σ.1 11), .ref (a 33), .ref (a 34), .ref (a 35), .ref (a 36), .ref (a 37), .ref (a 38), .ref (a 39), .ref (a 40), .ref (a 41), .ref (a 42), .ref (a 43), .ref (a 44), .int (σ.1 12), .ref (a 45), .int (σ.1 13), .ref (a 46), .int (σ.1 14), .ref (a 47), .ref (a 48), .ref (a 49), .ref (a 50), .int (σ.1 15), .ref (a 51), .int (σ.1 16), .int (σ.1 17), .int (σ.1 18), .int (σ.1 19), .int (σ.1 20), .ref (a 52), .ref (a 53), .ref (a 54), .ref (a 55), .ref (a 56), .int (σ.1 21), .ref (a 57), .ref (a 58), .ref (a 59), .ref (a 60), .ref (a 61), .ref (a 62), .ref (a 63), .ref (a 64)] : List Value).set 27 (.int x))) = kw a c9 (k_sS σ 18 x) := rfl
theorem kw_f6_28 {x : Int32} : (kw a c9 σ).set 6 (a 6, .inr (1, ([.int (σ.1 10), .int (σ.1 11), .ref (a 33), .ref (a 34), .ref (a 35), .ref (a 36), .ref (a 37), .ref (a 38), .ref (a 39), .ref (a 40), .ref (a 41), .ref (a 42), .ref (a 43), .ref (a 44), .int (σ.1 12), .ref (a 45), .int (σ.1 13), .ref (a 46), .int (σ.1 14), .ref (a 47), .ref (a 48), .ref (a 49), .ref (a 50), .int (σ.1 15), .ref (a 51), .int (σ.1 16), .int (σ.1 17), .int (σ.1 18), .int (σ.1 19), .int (σ.1 20), .ref (a 52), .ref (a 53), .ref (a 54), .ref (a 55), .ref (a 56), .int (σ.1 21), .ref (a 57), .ref (a 58), .ref (a 59), .ref (a 60), .ref (a 61), .ref (a 62), .ref (a 63), .ref (a 64)] : List Value).set 28 (.int x))) = kw a c9 (k_sS σ 19 x) := rfl
theorem kw_f6_29 {x : Int32} : (kw a c9 σ).set 6 (a 6, .inr (1, ([.int (σ.1 10), .int (σ.1 11), .ref (a 33), .ref (a 34), .ref (a 35), .ref (a 36), .ref (a 37), .ref (a 38), .ref (a 39), .ref (a 40), .ref (a 41), .ref (a 42), .ref (a 43), .ref (a 44), .int (σ.1 12), .ref (a 45), .int (σ.1 13), .ref (a 46), .int (σ.1 14), .ref (a 47), .ref (a 48), .ref (a 49), .ref (a 50), .int (σ.1 15), .ref (a 51), .int (σ.1 16), .int (σ.1 17), .int (σ.1 18), .int (σ.1 19), .int (σ.1 20), .ref (a 52), .ref (a 53), .ref (a 54), .ref (a 55), .ref (a 56), .int (σ.1 21), .ref (a 57), .ref (a 58), .ref (a 59), .ref (a 60), .ref (a 61), .ref (a 62), .ref (a 63), .ref (a 64)] : List Value).set 29 (.int x))) = kw a c9 (k_sS σ 20 x) := rfl
theorem kw_f6_35 {x : Int32} : (kw a c9 σ).set 6 (a 6, .inr (1, ([.int (σ.1 10), .int (σ.1 11), .ref (a 33), .ref (a 34), .ref (a 35), .ref (a 36), .ref (a 37), .ref (a 38), .ref (a 39), .ref (a 40), .ref (a 41), .ref (a 42), .ref (a 43), .ref (a 44), .int (σ.1 12), .ref (a 45), .int (σ.1 13), .ref (a 46), .int (σ.1 14), .ref (a 47), .ref (a 48), .ref (a 49), .ref (a 50), .int (σ.1 15), .ref (a 51), .int (σ.1 16), .int (σ.1 17), .int (σ.1 18), .int (σ.1 19), .int (σ.1 20), .ref (a 52), .ref (a 53), .ref (a 54), .ref (a 55), .ref (a 56), .int (σ.1 21), .ref (a 57), .ref (a 58), .ref (a 59), .ref (a 60), .ref (a 61), .ref (a 62), .ref (a 63), .ref (a 64)] : List Value).set 35 (.int x))) = kw a c9 (k_sS σ 21 x) := rfl
theorem kw_7 : (kw a c9 σ)[7]? = some (a 7, .inl (c9 0, 30, .inl (σ.2.1 0))) := rfl
theorem kw_s7 {f : Nat → Int32} : (kw a c9 σ).set 7 (a 7, .inl (c9 0, 30, .inl f)) = kw a c9 (k_sA σ 0 f) := rfl
theorem kw_8 : (kw a c9 σ)[8]? = some (a 8, .inl (c9 0, 30, .inl (σ.2.1 1))) := rfl
theorem kw_s8 {f : Nat → Int32} : (kw a c9 σ).set 8 (a 8, .inl (c9 0, 30, .inl f)) = kw a c9 (k_sA σ 1 f) := rfl
theorem kw_9 : (kw a c9 σ)[9]? = some (a 9, .inl (c9 0, 240, .inl (σ.2.1 2))) := rfl
theorem kw_s9 {f : Nat → Int32} : (kw a c9 σ).set 9 (a 9, .inl (c9 0, 240, .inl f)) = kw a c9 (k_sA σ 2 f) := rfl
theorem kw_10 : (kw a c9 σ)[10]? = some (a 10, .inl (c9 0, 240, .inl (σ.2.1 3))) := rfl
theorem kw_s10 {f : Nat → Int32} : (kw a c9 σ).set 10 (a 10, .inl (c9 0, 240, .inl f)) = kw a c9 (k_sA σ 3 f) := rfl
theorem kw_11 : (kw a c9 σ)[11]? = some (a 11, .inl (c9 0, 240, .inl (σ.2.1 4))) := rfl
theorem kw_s11 {f : Nat → Int32} : (kw a c9 σ).set 11 (a 11, .inl (c9 0, 240, .inl f)) = kw a c9 (k_sA σ 4 f) := rfl
theorem kw_12 : (kw a c9 σ)[12]? = some (a 12, .inl (c9 1, 240, .inl (σ.2.1 5))) := rfl
theorem kw_s12 {f : Nat → Int32} : (kw a c9 σ).set 12 (a 12, .inl (c9 1, 240, .inl f)) = kw a c9 (k_sA σ 5 f) := rfl
theorem kw_13 : (kw a c9 σ)[13]? = some (a 13, .inl (c9 1, 240, .inl (σ.2.1 6))) := rfl
theorem kw_s13 {f : Nat → Int32} : (kw a c9 σ).set 13 (a 13, .inl (c9 1, 240, .inl f)) = kw a c9 (k_sA σ 6 f) := rfl
theorem kw_14 : (kw a c9 σ)[14]? = some (a 14, .inl (c9 0, 240, .inl (σ.2.1 7))) := rfl
theorem kw_s14 {f : Nat → Int32} : (kw a c9 σ).set 14 (a 14, .inl (c9 0, 240, .inl f)) = kw a c9 (k_sA σ 7 f) := rfl
theorem kw_15 : (kw a c9 σ)[15]? = some (a 15, .inl (c9 0, 240, .inl (σ.2.1 8))) := rfl
theorem kw_s15 {f : Nat → Int32} : (kw a c9 σ).set 15 (a 15, .inl (c9 0, 240, .inl f)) = kw a c9 (k_sA σ 8 f) := rfl
theorem kw_16 : (kw a c9 σ)[16]? = some (a 16, .inl (c9 0, 240, .inl (σ.2.1 9))) := rfl
theorem kw_s16 {f : Nat → Int32} : (kw a c9 σ).set 16 (a 16, .inl (c9 0, 240, .inl f)) = kw a c9 (k_sA σ 9 f) := rfl
theorem kw_17 : (kw a c9 σ)[17]? = some (a 17, .inl (c9 0, 2880, .inl (σ.2.1 10))) := rfl
theorem kw_s17 {f : Nat → Int32} : (kw a c9 σ).set 17 (a 17, .inl (c9 0, 2880, .inl f)) = kw a c9 (k_sA σ 10 f) := rfl
theorem kw_18 : (kw a c9 σ)[18]? = some (a 18, .inl (c9 0, 240, .inl (σ.2.1 11))) := rfl
theorem kw_s18 {f : Nat → Int32} : (kw a c9 σ).set 18 (a 18, .inl (c9 0, 240, .inl f)) = kw a c9 (k_sA σ 11 f) := rfl
theorem kw_19 : (kw a c9 σ)[19]? = some (a 19, .inl (c9 0, 720, .inl (σ.2.1 12))) := rfl
theorem kw_s19 {f : Nat → Int32} : (kw a c9 σ).set 19 (a 19, .inl (c9 0, 720, .inl f)) = kw a c9 (k_sA σ 12 f) := rfl
theorem kw_20 : (kw a c9 σ)[20]? = some (a 20, .inl (c9 0, 720, .inl (σ.2.1 13))) := rfl
theorem kw_s20 {f : Nat → Int32} : (kw a c9 σ).set 20 (a 20, .inl (c9 0, 720, .inl f)) = kw a c9 (k_sA σ 13 f) := rfl
theorem kw_21 : (kw a c9 σ)[21]? = some (a 21, .inl (c9 0, 70, .inl (σ.2.1 14))) := rfl
theorem kw_s21 {f : Nat → Int32} : (kw a c9 σ).set 21 (a 21, .inl (c9 0, 70, .inl f)) = kw a c9 (k_sA σ 14 f) := rfl
theorem kw_22 : (kw a c9 σ)[22]? = some (a 22, .inl (c9 0, 70, .inl (σ.2.1 15))) := rfl
theorem kw_s22 {f : Nat → Int32} : (kw a c9 σ).set 22 (a 22, .inl (c9 0, 70, .inl f)) = kw a c9 (k_sA σ 15 f) := rfl
theorem kw_23 : (kw a c9 σ)[23]? = some (a 23, .inl (c9 0, 70, .inl (σ.2.1 16))) := rfl
theorem kw_s23 {f : Nat → Int32} : (kw a c9 σ).set 23 (a 23, .inl (c9 0, 70, .inl f)) = kw a c9 (k_sA σ 16 f) := rfl
theorem kw_24 : (kw a c9 σ)[24]? = some (a 24, .inl (c9 0, 12, .inl (σ.2.1 17))) := rfl
theorem kw_s24 {f : Nat → Int32} : (kw a c9 σ).set 24 (a 24, .inl (c9 0, 12, .inl f)) = kw a c9 (k_sA σ 17 f) := rfl
theorem kw_25 : (kw a c9 σ)[25]? = some (a 25, .inl (c9 0, 70, .inl (σ.2.1 18))) := rfl
theorem kw_s25 {f : Nat → Int32} : (kw a c9 σ).set 25 (a 25, .inl (c9 0, 70, .inl f)) = kw a c9 (k_sA σ 18 f) := rfl
theorem kw_26 : (kw a c9 σ)[26]? = some (a 26, .inl (c9 0, 70, .inl (σ.2.1 19))) := rfl
theorem kw_s26 {f : Nat → Int32} : (kw a c9 σ).set 26 (a 26, .inl (c9 0, 70, .inl f)) = kw a c9 (k_sA σ 19 f) := rfl
theorem kw_27 : (kw a c9 σ)[27]? = some (a 27, .inl (c9 1, 70, .inl (σ.2.1 20))) := rfl
theorem kw_s27 {f : Nat → Int32} : (kw a c9 σ).set 27 (a 27, .inl (c9 1, 70, .inl f)) = kw a c9 (k_sA σ 20 f) := rfl
theorem kw_28 : (kw a c9 σ)[28]? = some (a 28, .inl (c9 0, 8, .inl (σ.2.1 21))) := rfl
theorem kw_s28 {f : Nat → Int32} : (kw a c9 σ).set 28 (a 28, .inl (c9 0, 8, .inl f)) = kw a c9 (k_sA σ 21 f) := rfl
theorem kw_29 : (kw a c9 σ)[29]? = some (a 29, .inl (c9 0, 96, .inl (σ.2.1 22))) := rfl
theorem kw_s29 {f : Nat → Int32} : (kw a c9 σ).set 29 (a 29, .inl (c9 0, 96, .inl f)) = kw a c9 (k_sA σ 22 f) := rfl
theorem kw_30 : (kw a c9 σ)[30]? = some (a 30, .inl (c9 0, 8, .inl (σ.2.1 23))) := rfl
theorem kw_s30 {f : Nat → Int32} : (kw a c9 σ).set 30 (a 30, .inl (c9 0, 8, .inl f)) = kw a c9 (k_sA σ 23 f) := rfl
theorem kw_31 : (kw a c9 σ)[31]? = some (a 31, .inl (c9 0, 160, .inl (σ.2.1 24))) := rfl
theorem kw_s31 {f : Nat → Int32} : (kw a c9 σ).set 31 (a 31, .inl (c9 0, 160, .inl f)) = kw a c9 (k_sA σ 24 f) := rfl
theorem kw_32 : (kw a c9 σ)[32]? = some (a 32, .inl (c9 0, 1920, .inl (σ.2.1 25))) := rfl
theorem kw_s32 {f : Nat → Int32} : (kw a c9 σ).set 32 (a 32, .inl (c9 0, 1920, .inl f)) = kw a c9 (k_sA σ 25 f) := rfl
theorem kw_33 : (kw a c9 σ)[33]? = some (a 33, .inl (c9 0, 240, .inl (σ.2.1 26))) := rfl
theorem kw_s33 {f : Nat → Int32} : (kw a c9 σ).set 33 (a 33, .inl (c9 0, 240, .inl f)) = kw a c9 (k_sA σ 26 f) := rfl
theorem kw_34 : (kw a c9 σ)[34]? = some (a 34, .inl (c9 0, 240, .inl (σ.2.1 27))) := rfl
theorem kw_s34 {f : Nat → Int32} : (kw a c9 σ).set 34 (a 34, .inl (c9 0, 240, .inl f)) = kw a c9 (k_sA σ 27 f) := rfl
theorem kw_35 : (kw a c9 σ)[35]? = some (a 35, .inl (c9 0, 240, .inl (σ.2.1 28))) := rfl
theorem kw_s35 {f : Nat → Int32} : (kw a c9 σ).set 35 (a 35, .inl (c9 0, 240, .inl f)) = kw a c9 (k_sA σ 28 f) := rfl
theorem kw_36 : (kw a c9 σ)[36]? = some (a 36, .inl (c9 0, 240, .inl (σ.2.1 29))) := rfl
theorem kw_s36 {f : Nat → Int32} : (kw a c9 σ).set 36 (a 36, .inl (c9 0, 240, .inl f)) = kw a c9 (k_sA σ 29 f) := rfl
theorem kw_37 : (kw a c9 σ)[37]? = some (a 37, .inl (c9 0, 2880, .inl (σ.2.1 30))) := rfl
theorem kw_s37 {f : Nat → Int32} : (kw a c9 σ).set 37 (a 37, .inl (c9 0, 2880, .inl f)) = kw a c9 (k_sA σ 30 f) := rfl
theorem kw_38 : (kw a c9 σ)[38]? = some (a 38, .inl (c9 1, 240, .inl (σ.2.1 31))) := rfl
theorem kw_s38 {f : Nat → Int32} : (kw a c9 σ).set 38 (a 38, .inl (c9 1, 240, .inl f)) = kw a c9 (k_sA σ 31 f) := rfl
theorem kw_39 : (kw a c9 σ)[39]? = some (a 39, .inl (c9 1, 240, .inl (σ.2.1 32))) := rfl
theorem kw_s39 {f : Nat → Int32} : (kw a c9 σ).set 39 (a 39, .inl (c9 1, 240, .inl f)) = kw a c9 (k_sA σ 32 f) := rfl
theorem kw_40 : (kw a c9 σ)[40]? = some (a 40, .inl (c9 0, 240, .inl (σ.2.1 33))) := rfl
theorem kw_s40 {f : Nat → Int32} : (kw a c9 σ).set 40 (a 40, .inl (c9 0, 240, .inl f)) = kw a c9 (k_sA σ 33 f) := rfl
theorem kw_41 : (kw a c9 σ)[41]? = some (a 41, .inl (c9 0, 240, .inl (σ.2.1 34))) := rfl
theorem kw_s41 {f : Nat → Int32} : (kw a c9 σ).set 41 (a 41, .inl (c9 0, 240, .inl f)) = kw a c9 (k_sA σ 34 f) := rfl
theorem kw_42 : (kw a c9 σ)[42]? = some (a 42, .inl (c9 0, 240, .inl (σ.2.1 35))) := rfl
theorem kw_s42 {f : Nat → Int32} : (kw a c9 σ).set 42 (a 42, .inl (c9 0, 240, .inl f)) = kw a c9 (k_sA σ 35 f) := rfl
theorem kw_43 : (kw a c9 σ)[43]? = some (a 43, .inl (c9 0, 720, .inl (σ.2.1 36))) := rfl
theorem kw_s43 {f : Nat → Int32} : (kw a c9 σ).set 43 (a 43, .inl (c9 0, 720, .inl f)) = kw a c9 (k_sA σ 36 f) := rfl
theorem kw_44 : (kw a c9 σ)[44]? = some (a 44, .inl (c9 0, 720, .inl (σ.2.1 37))) := rfl
theorem kw_s44 {f : Nat → Int32} : (kw a c9 σ).set 44 (a 44, .inl (c9 0, 720, .inl f)) = kw a c9 (k_sA σ 37 f) := rfl
theorem kw_45 : (kw a c9 σ)[45]? = some (a 45, .inl (c9 0, 30, .inl (σ.2.1 38))) := rfl
theorem kw_s45 {f : Nat → Int32} : (kw a c9 σ).set 45 (a 45, .inl (c9 0, 30, .inl f)) = kw a c9 (k_sA σ 38 f) := rfl
theorem kw_46 : (kw a c9 σ)[46]? = some (a 46, .inl (c9 0, 30, .inl (σ.2.1 39))) := rfl
theorem kw_s46 {f : Nat → Int32} : (kw a c9 σ).set 46 (a 46, .inl (c9 0, 30, .inl f)) = kw a c9 (k_sA σ 39 f) := rfl
theorem kw_47 : (kw a c9 σ)[47]? = some (a 47, .inl (c9 0, 160, .inl (σ.2.1 40))) := rfl
theorem kw_s47 {f : Nat → Int32} : (kw a c9 σ).set 47 (a 47, .inl (c9 0, 160, .inl f)) = kw a c9 (k_sA σ 40 f) := rfl
theorem kw_48 : (kw a c9 σ)[48]? = some (a 48, .inl (c9 0, 1920, .inl (σ.2.1 41))) := rfl
theorem kw_s48 {f : Nat → Int32} : (kw a c9 σ).set 48 (a 48, .inl (c9 0, 1920, .inl f)) = kw a c9 (k_sA σ 41 f) := rfl
theorem kw_49 : (kw a c9 σ)[49]? = some (a 49, .inl (c9 0, 8, .inl (σ.2.1 42))) := rfl
theorem kw_s49 {f : Nat → Int32} : (kw a c9 σ).set 49 (a 49, .inl (c9 0, 8, .inl f)) = kw a c9 (k_sA σ 42 f) := rfl
theorem kw_50 : (kw a c9 σ)[50]? = some (a 50, .inl (c9 0, 96, .inl (σ.2.1 43))) := rfl
theorem kw_s50 {f : Nat → Int32} : (kw a c9 σ).set 50 (a 50, .inl (c9 0, 96, .inl f)) = kw a c9 (k_sA σ 43 f) := rfl
theorem kw_51 : (kw a c9 σ)[51]? = some (a 51, .inl (c9 0, 8, .inl (σ.2.1 44))) := rfl
theorem kw_s51 {f : Nat → Int32} : (kw a c9 σ).set 51 (a 51, .inl (c9 0, 8, .inl f)) = kw a c9 (k_sA σ 44 f) := rfl
theorem kw_52 : (kw a c9 σ)[52]? = some (a 52, .inl (c9 0, 1000, .inl (σ.2.1 45))) := rfl
theorem kw_s52 {f : Nat → Int32} : (kw a c9 σ).set 52 (a 52, .inl (c9 0, 1000, .inl f)) = kw a c9 (k_sA σ 45 f) := rfl
theorem kw_53 : (kw a c9 σ)[53]? = some (a 53, .inl (c9 0, 1000, .inl (σ.2.1 46))) := rfl
theorem kw_s53 {f : Nat → Int32} : (kw a c9 σ).set 53 (a 53, .inl (c9 0, 1000, .inl f)) = kw a c9 (k_sA σ 46 f) := rfl
theorem kw_54 : (kw a c9 σ)[54]? = some (a 54, .inl (c9 0, 1000, .inl (σ.2.1 47))) := rfl
theorem kw_s54 {f : Nat → Int32} : (kw a c9 σ).set 54 (a 54, .inl (c9 0, 1000, .inl f)) = kw a c9 (k_sA σ 47 f) := rfl
theorem kw_55 : (kw a c9 σ)[55]? = some (a 55, .inl (c9 0, 1000, .inl (σ.2.1 48))) := rfl
theorem kw_s55 {f : Nat → Int32} : (kw a c9 σ).set 55 (a 55, .inl (c9 0, 1000, .inl f)) = kw a c9 (k_sA σ 48 f) := rfl
theorem kw_56 : (kw a c9 σ)[56]? = some (a 56, .inl (c9 0, 1000, .inl (σ.2.1 49))) := rfl
theorem kw_s56 {f : Nat → Int32} : (kw a c9 σ).set 56 (a 56, .inl (c9 0, 1000, .inl f)) = kw a c9 (k_sA σ 49 f) := rfl
theorem kw_57 : (kw a c9 σ)[57]? = some (a 57, .inl (c9 0, 500, .inl (σ.2.1 50))) := rfl
theorem kw_s57 {f : Nat → Int32} : (kw a c9 σ).set 57 (a 57, .inl (c9 0, 500, .inl f)) = kw a c9 (k_sA σ 50 f) := rfl
theorem kw_58 : (kw a c9 σ)[58]? = some (a 58, .inl (c9 0, 500, .inl (σ.2.1 51))) := rfl
theorem kw_s58 {f : Nat → Int32} : (kw a c9 σ).set 58 (a 58, .inl (c9 0, 500, .inl f)) = kw a c9 (k_sA σ 51 f) := rfl
theorem kw_59 : (kw a c9 σ)[59]? = some (a 59, .inl (c9 0, 500, .inl (σ.2.1 52))) := rfl
theorem kw_s59 {f : Nat → Int32} : (kw a c9 σ).set 59 (a 59, .inl (c9 0, 500, .inl f)) = kw a c9 (k_sA σ 52 f) := rfl
theorem kw_60 : (kw a c9 σ)[60]? = some (a 60, .inl (c9 0, 500, .inl (σ.2.1 53))) := rfl
theorem kw_s60 {f : Nat → Int32} : (kw a c9 σ).set 60 (a 60, .inl (c9 0, 500, .inl f)) = kw a c9 (k_sA σ 53 f) := rfl
theorem kw_61 : (kw a c9 σ)[61]? = some (a 61, .inl (c9 0, 64, .inl (σ.2.1 54))) := rfl
theorem kw_s61 {f : Nat → Int32} : (kw a c9 σ).set 61 (a 61, .inl (c9 0, 64, .inl f)) = kw a c9 (k_sA σ 54 f) := rfl
theorem kw_62 : (kw a c9 σ)[62]? = some (a 62, .inl (c9 0, 64, .inl (σ.2.1 55))) := rfl
theorem kw_s62 {f : Nat → Int32} : (kw a c9 σ).set 62 (a 62, .inl (c9 0, 64, .inl f)) = kw a c9 (k_sA σ 55 f) := rfl
theorem kw_63 : (kw a c9 σ)[63]? = some (a 63, .inl (c9 0, 64, .inl (σ.2.1 56))) := rfl
theorem kw_s63 {f : Nat → Int32} : (kw a c9 σ).set 63 (a 63, .inl (c9 0, 64, .inl f)) = kw a c9 (k_sA σ 56 f) := rfl
theorem kw_64 : (kw a c9 σ)[64]? = some (a 64, .inl (c9 0, 12, .inl (σ.2.1 57))) := rfl
theorem kw_s64 {f : Nat → Int32} : (kw a c9 σ).set 64 (a 64, .inl (c9 0, 12, .inl f)) = kw a c9 (k_sA σ 57 f) := rfl
theorem kw_65 : (kw a c9 σ)[65]? = some (a 65, .inl (c9 2, 1, .inr (.inl σ.2.2))) := rfl
theorem kw_s65 {f : Nat → Int64} : (kw a c9 σ).set 65 (a 65, .inl (c9 2, 1, .inr (.inl f))) = kw a c9 (k_sL σ f) := rfl
theorem kw_fst : (kw a c9 σ).map Prod.fst = (List.range 66).map a := rfl
theorem kw_D {A : Nat → Prop} (h : va_D A (kw a c9 σ)) : va_D A (kw a c9 σ') := k_fstD (kw_fst.trans kw_fst.symm) h
end KW
end
section
/-! what a method takes as given, what it gives back, over the one world -/
/-- the private fields of a nest mate that Matches.keep reads -/
def kN (U : State) : Prop := va_Nw (.fieldLinkNest R_Mt 22 "SequenceMatch$Names" "lengths" "[I" "SequenceMatch") U ∧ va_Nw (.fieldLinkNest R_Mt 31 "SequenceMatch$Names" "trees" "[I" "SequenceMatch") U
theorem kN.warm {s U : State} (hW : s.WarmedH U.vm) (h : kN s) : kN U := ⟨va_Nw.warmF hW h.1, va_Nw.warmF hW h.2⟩
theorem kN.same {s U : State} (e : s.vm = U.vm) (h : kN s) : kN U := ⟨va_Nw.same rfl e h.1, va_Nw.same rfl e h.2⟩
def k_Pc (D : va_G) (a : Nat → Nat) (c9 : Nat → ClassId) (sz : Nat) (σ : kS) (av : List Value) : Array Value → State → Prop := va_Pc av (fun U => U.heap.size = sz ∧ va_P D kcl (kw a c9 σ) U.heap ∧ va_K D kcl (ktys c9) U ∧ kN U ∧ va_D (fun _ => True) (kw a c9 σ))
def k_A (a : Nat → Nat) (c9 : Nat → ClassId) (σ : kS) (sz : Nat) : Nat → Prop := va_A (kw a c9 σ) sz
def k_Qi (D : va_G) (a : Nat → Nat) (c9 : Nat → ClassId) (r : Int32) (σ' : kS) (A : Nat → Prop) : Array Value → State → Outcome → State → Prop := va_Qi (fun r2 (u : kS) => r2 = r ∧ u = σ') (fun u t => va_P D kcl (kw a c9 u) t.heap) A
def k_Qv (D : va_G) (a : Nat → Nat) (c9 : Nat → ClassId) (σ' : kS) (A : Nat → Prop) : Array Value → State → Outcome → State → Prop := va_Qv (fun (u : kS) => u = σ') (fun u t => va_P D kcl (kw a c9 u) t.heap) A
def k_Qr (D : va_G) (a : Nat → Nat) (c9 : Nat → ClassId) (b : Nat) (σ' : kS) (A : Nat → Prop) : Array Value → State → Outcome → State → Prop := va_Qr (fun (u : kS) => u = σ') (fun u ra t => ra = b ∧ va_P D kcl (kw a c9 u) t.heap) A
/-- what holds all through a method's walk -/
def k_Cx (D : va_G) (c9 : Nat → ClassId) (p : Program) (s : State) (m : MethodId) (args : Array Value) (meth : Method) (c : Code) (own : String) (cc : ByteArray) (nL : Nat) (ret : Option FieldType) (A : Nat → Prop) : Prop :=
  p.tables.exec = Jvm.exec ∧ c.code = cc ∧ c.maxLocals = nL ∧ s.vm.findClass own = some m.cls ∧ (∀ w ∈ kG, w.before args s = true) ∧ meth.sig.returnType = ret ∧ meth.locks = false ∧ va_K D kcl (ktys c9) s ∧ kN s ∧ ∀ q, s.heap.size ≤ q → A q
section KR
variable {p : Program} {l : Launch} {e : Env} {R : Room} {s : State} {m : MethodId} {args : Array Value} {below : List Frame} {meth : Method} {c : Code} {H : Heap} {locs : List Loc} {cells slots : Nat} {Q : State → Prop}
variable {cc : ByteArray} {pc : Nat} {ls : Array Slot} {rest st0 : List Value} {D : va_G} {a : Nat → Nat} {c9 : Nat → ClassId} {A : Nat → Prop} {σ σ' : kS}
theorem k_atH {t : State} {w : va_W} (ht : t.heap = H) (hP : va_P D kcl w H) : va_P D kcl w t.heap := ht ▸ hP
theorem k_top {x y : Int32} (h : y = x) (k : W p l e R s m args below meth c H locs cells slots Q (F0 m pc ls (.int y :: rest))) : W p l e R s m args below meth c H locs cells slots Q (F0 m pc ls (.int x :: rest)) := h ▸ k
theorem k_iret {v : Int32} (hx : p.tables.exec = Jvm.exec) (hb : c.code = cc) (hr : meth.sig.returnType = some .int) (hlk : meth.locks = false) (hP : va_P D kcl (kw a c9 σ) H) (hS : va_S A s.heap H locs) (hdg : decode cc pc = .ok (.ireturn, 1)) :
    W p l e R s m args below meth c H locs cells slots (MQ below (k_Qi D a c9 v σ A) args s cells slots A) (F0 m pc ls [.int v]) :=
  W.iret (v := v) hx hb hr (fun t ht hW => ⟨⟨v, σ, rfl, ⟨rfl, rfl⟩, k_atH ht hP⟩, hS.F ht⟩) hS.2.2 hdg hlk
theorem k_zret {v : Int32} (hv : v = 0 ∨ v = 1) (hx : p.tables.exec = Jvm.exec) (hb : c.code = cc) (hr : meth.sig.returnType = some .boolean) (hlk : meth.locks = false) (hP : va_P D kcl (kw a c9 σ) H) (hS : va_S A s.heap H locs) (hdg : decode cc pc = .ok (.ireturn, 1)) :
    W p l e R s m args below meth c H locs cells slots (MQ below (k_Qi D a c9 v σ A) args s cells slots A) (F0 m pc ls [.int v]) :=
  W.zret (v := v) (ty := .boolean) hx hb hr (by rcases hv with rfl | rfl <;> rfl) (fun t ht hW => ⟨⟨v, σ, rfl, ⟨rfl, rfl⟩, k_atH ht hP⟩, hS.F ht⟩) hS.2.2 hdg hlk
theorem k_vret (hx : p.tables.exec = Jvm.exec) (hb : c.code = cc) (hr : meth.sig.returnType = none) (hlk : meth.locks = false) (hP : va_P D kcl (kw a c9 σ) H) (hS : va_S A s.heap H locs) (hdg : decode cc pc = .ok (.return_, 1)) :
    W p l e R s m args below meth c H locs cells slots (MQ below (k_Qv D a c9 σ A) args s cells slots A) (F0 m pc ls []) :=
  W.vret hx hb hr (fun t ht hW => ⟨⟨σ, rfl, rfl, k_atH ht hP⟩, hS.F ht⟩) hS.2.2 hdg hlk
theorem k_aret {b : Nat} {n : String} (hx : p.tables.exec = Jvm.exec) (hb : c.code = cc) (hr : meth.sig.returnType = some (.object n)) (hlk : meth.locks = false) (hP : va_P D kcl (kw a c9 σ) H) (hS : va_S A s.heap H locs) (hdg : decode cc pc = .ok (.areturn, 1)) :
    W p l e R s m args below meth c H locs cells slots (MQ below (k_Qr D a c9 b σ A) args s cells slots A) (F0 m pc ls [.ref b]) :=
  W.aret (v := .ref b) hx hb hr (Or.inl ⟨n, rfl⟩) (Or.inr ⟨b, rfl⟩) (fun t ht hW => ⟨⟨σ, b, rfl, rfl, rfl, k_atH ht hP⟩, hS.F ht⟩) hS.2.2 hdg hlk
theorem k_blind {sz : Nat} {av : List Value} : FrameBlind (k_Pc D a c9 sz σ av) := fun av U g mk q => by
  obtain ⟨q0, q1, qP, qK, qN, qD⟩ := q
  exact ⟨q0, q1, qP, va_K.moved (u := U) (U := U.calling g mk av) (Vm.Alike.refl U.vm) qK, kN.same (s := U) (U := U.calling g mk av) rfl qN, qD⟩
theorem k_preS {As : List Value} (hP : va_P D kcl (kw a c9 σ) H) (hK : va_K D kcl (ktys c9) s) (hN : kN s) (hD : va_D A (kw a c9 σ)) : PreS s H (k_Pc D a c9 H.size σ As) As :=
  ⟨k_blind, fun U hU hW => ⟨rfl, by rw [hU], by rw [hU]; exact hP, va_K.moved hW.alike hK, hN.warm hW, hD.weaken (fun _ _ _ _ => trivial)⟩⟩
theorem k_preV {As : List Value} {ci q0 b : Nat} {fs : List Value} {qc : vw_C} (hc : kcl[ci]? = some qc) (he : (kw a c9 σ)[q0]? = some (b, .inr (ci, fs))) (hP : va_P D kcl (kw a c9 σ) H) (hK : va_K D kcl (ktys c9) s) (hN : kN s) (hD : va_D A (kw a c9 σ)) : PreV s H qc.1 b (k_Pc D a c9 H.size σ (.ref b :: As)) As :=
  ⟨k_blind, va_recv hK hP hc he, fun U hU hW => ⟨rfl, by rw [hU], by rw [hU]; exact hP, va_K.moved hW.alike hK, hN.warm hW, hD.weaken (fun _ _ _ _ => trivial)⟩⟩
theorem k_calli {r : Int32} {mc ms : Nat} {av : Array Value} (hr : va_Run p l e R s m args below meth c H locs cells slots mc ms (F0 m pc ls st0) rest (k_Qi D a c9 r σ' (k_A a c9 σ H.size) av) (k_A a c9 σ H.size)) (hD : va_D A (kw a c9 σ)) (hS : va_S A s.heap H locs) (hA : ∀ q, s.heap.size ≤ q → A q)
    (kk : ∀ (H1 : Heap) (locs1 : List Loc), va_P D kcl (kw a c9 σ') H1 → va_D A (kw a c9 σ') → va_S A s.heap H1 locs1 → W p l e R s m args below meth c H1 locs1 (cells + mc) (slots + ms) Q (F0 m (pc + 3) ls (.int r :: rest))) : W p l e R s m args below meth c H locs cells slots Q (F0 m pc ls st0) := by
  have hF := k_free hD hS hA
  refine va_calli hr hS (fun q _ h => hF q h) hF (fun r2 u t H1 locs1 ht hvm hw hB hz hk hS1 => ?_)
  obtain ⟨rfl, rfl⟩ := hw
  exact kk H1 locs1 (by rw [← ht]; exact hB) (kw_D hD) hS1
theorem k_callv {mc ms : Nat} {av : Array Value} (hr : va_Run p l e R s m args below meth c H locs cells slots mc ms (F0 m pc ls st0) rest (k_Qv D a c9 σ' (k_A a c9 σ H.size) av) (k_A a c9 σ H.size)) (hD : va_D A (kw a c9 σ)) (hS : va_S A s.heap H locs) (hA : ∀ q, s.heap.size ≤ q → A q)
    (kk : ∀ (H1 : Heap) (locs1 : List Loc), va_P D kcl (kw a c9 σ') H1 → va_D A (kw a c9 σ') → va_S A s.heap H1 locs1 → W p l e R s m args below meth c H1 locs1 (cells + mc) (slots + ms) Q (F0 m (pc + 3) ls rest)) : W p l e R s m args below meth c H locs cells slots Q (F0 m pc ls st0) := by
  have hF := k_free hD hS hA
  refine va_callv hr hS (fun q _ h => hF q h) hF (fun u t H1 locs1 ht hvm hw hB hz hk hS1 => ?_)
  cases hw
  exact kk H1 locs1 (by rw [← ht]; exact hB) (kw_D hD) hS1
theorem k_callr {b mc ms : Nat} {av : Array Value} (hr : va_Run p l e R s m args below meth c H locs cells slots mc ms (F0 m pc ls st0) rest (k_Qr D a c9 b σ' (k_A a c9 σ H.size) av) (k_A a c9 σ H.size)) (hD : va_D A (kw a c9 σ)) (hS : va_S A s.heap H locs) (hA : ∀ q, s.heap.size ≤ q → A q)
    (kk : ∀ (H1 : Heap) (locs1 : List Loc), va_P D kcl (kw a c9 σ') H1 → va_D A (kw a c9 σ') → va_S A s.heap H1 locs1 → W p l e R s m args below meth c H1 locs1 (cells + mc) (slots + ms) Q (F0 m (pc + 3) ls (.ref b :: rest))) : W p l e R s m args below meth c H locs cells slots Q (F0 m pc ls st0) := by
  have hF := k_free hD hS hA
  refine va_callr hr hS (fun q _ h => hF q h) hF (fun u ra t H1 locs1 ht hvm hw hB hz hk hS1 => ?_)
  cases hw
  obtain ⟨rfl, hB⟩ := hB
  exact kk H1 locs1 (by rw [← ht]; exact hB) (kw_D hD) hS1
/-- a contract out of the walk of a body -/
theorem k_met {y : MethodName} {nL mc ms sz : Nat} {ret : Option FieldType} {rm : Room} {av : List Value} {Qf : (Nat → Prop) → Array Value → State → Outcome → State → Prop} (hy : plainName y.cls = true) (hav : (lg_sl av).length ≤ nL)
    (body : ∀ (p : Program) (e : Env) (s : State) (m : MethodId) (args : Array Value) (below : List Frame) (meth : Method) (c : Code) (A : Nat → Prop) (ls : Array Slot), k_Cx D c9 p s m args meth c y.cls cc nL ret A → va_P D kcl (kw a c9 σ) s.heap → va_D A (kw a c9 σ) → va_S A s.heap s.heap [] → lv_has ls nL (lv_args 0 av) →
      W p l e rm s m args below meth c s.heap [] 0 0 (MQ below (Qf A) args s mc ms A) (F0 m 0 ls [])) :
    Met l y (Cond.code y cc nL ret :: kG) rm (k_Pc D a c9 sz σ av) (Qf (k_A a c9 σ sz)) mc ms (k_A a c9 σ sz) := by
  refine Met.ofW (cc := cc) (maxL := nL) (ret := ret) hy rfl ?_
  intro p e s m args below meth c s₁ B hml hv
  obtain ⟨rfl, hsz, hP, hK, hN, hD0⟩ := hv
  have hl := lv_entry av (n := nL) hav
  rw [lg_entry_eq]
  generalize (lg_sl av ++ List.replicate (nL - (lg_sl av).length) Slot.unset).toArray = ls at hl ⊢
  subst hsz
  exact body p e s m _ below meth c _ ls ⟨B.exec, B.bytes, hml, findClass_of_methodNamed B.named, fun w h => atoms_spec (ws := Cond.code y cc nL ret :: kG) B.pre w (List.mem_cons_of_mem _ h), B.returns, B.notSynchronized, hK, hN, fun q h => Or.inr h⟩ hP (hD0.self (sz := s.heap.size)) va_S.rf hl
end KR
end
section
/-! mirrors and contracts, by program (wip/whole/run.py) -/
def rm_F_treeCount : Room := { frames := 0, cells := 0, slots := 0, locals := 0 }
def M_F_treeCount (σ : kS) : Option (Int32 × kS) := some (σ.1 2, σ)
set_option maxHeartbeats 4000000 in
set_option maxRecDepth 100000 in
theorem B_F_treeCount_0 {p : Program} {l : Launch} {e : Env} {s : State} {m : MethodId} {args : Array Value} {below : List Frame} {meth : Method} {c : Code} {D : va_G} {a : Nat → Nat} {c9 : Nat → ClassId} {A : Nat → Prop} {r9 : Int32} {σo : kS} (C0 : k_Cx D c9 p s m args meth c R_F c_F_treeCount 1 (some .int) A) (σ : kS) (H : Heap) (locs : List Loc) (ls : Array Slot) (hP : va_P D kcl (kw a c9 σ) H) (hD : va_D A (kw a c9 σ)) (hS : va_S A s.heap H locs) (hl : lv_has ls 1 [(0, .ref (a 1))]) (h : M_F_treeCount σ  = some (r9, σo)) : W p l e rm_F_treeCount s m args below meth c H locs 0 0 (MQ below (k_Qi D a c9 r9 σo A) args s 0 0 A) (F0 m 0 ls []) := by
  obtain ⟨hx, hb, hml, hown, hts, hr, hlk, hK, hN, hA⟩ := id C0
  unfold M_F_treeCount at h
  refine lv_aload_n hx hb d_F_treeCount_0 rfl (lv_at hl 0 rfl) ?_
  refine va_get (ci := 2) (C := R_F) (T := T_F) (N := 13) hx hb hts in_F hown hK hP 1 kw_1 rfl 0 (by decide) (hts _ q_33) (fun _ h9 => h9) rfl d_F_treeCount_1 ?_
  cases h
  exact k_iret hx hb hr hlk hP hS d_F_treeCount_4
theorem K_F_treeCount (l : Launch) (D : va_G) (a : Nat → Nat) (c9 : Nat → ClassId) (sz : Nat) {σ : kS} {r9 : Int32} {σo : kS} (h : M_F_treeCount σ  = some (r9, σo)) : Met l y_F_treeCount (Cond.code y_F_treeCount c_F_treeCount 1 (some .int) :: kG) rm_F_treeCount (k_Pc D a c9 sz σ [.ref (a 1)]) (k_Qi D a c9 r9 σo (k_A a c9 σ sz)) 0 0 (k_A a c9 σ sz) :=
  k_met (Qf := k_Qi D a c9 r9 σo) (by decide) (Nat.le_of_ble_eq_true rfl) (fun p e s m args below meth c A ls C0 hP hD hS hl => B_F_treeCount_0 C0 σ  s.heap [] ls hP hD hS hl h)
def rm_F_isFull : Room := { frames := 0, cells := 0, slots := 0, locals := 0 }
def M_F_isFull (σ : kS) : Option (Int32 × kS) := if σ.1 2 < 240 then (some (0, σ)) else (some (1, σ))
set_option maxHeartbeats 4000000 in
set_option maxRecDepth 100000 in
theorem B_F_isFull_0 {p : Program} {l : Launch} {e : Env} {s : State} {m : MethodId} {args : Array Value} {below : List Frame} {meth : Method} {c : Code} {D : va_G} {a : Nat → Nat} {c9 : Nat → ClassId} {A : Nat → Prop} {r9 : Int32} {σo : kS} (C0 : k_Cx D c9 p s m args meth c R_F c_F_isFull 1 (some .boolean) A) (σ : kS) (H : Heap) (locs : List Loc) (ls : Array Slot) (hP : va_P D kcl (kw a c9 σ) H) (hD : va_D A (kw a c9 σ)) (hS : va_S A s.heap H locs) (hl : lv_has ls 1 [(0, .ref (a 1))]) (h : M_F_isFull σ  = some (r9, σo)) : W p l e rm_F_isFull s m args below meth c H locs 0 0 (MQ below (k_Qi D a c9 r9 σo A) args s 0 0 A) (F0 m 0 ls []) := by
  obtain ⟨hx, hb, hml, hown, hts, hr, hlk, hK, hN, hA⟩ := id C0
  unfold M_F_isFull at h
  refine lv_aload_n hx hb d_F_isFull_0 rfl (lv_at hl 0 rfl) ?_
  refine va_get (ci := 2) (C := R_F) (T := T_F) (N := 13) hx hb hts in_F hown hK hP 1 kw_1 rfl 0 (by decide) (hts _ q_33) (fun _ h9 => h9) rfl d_F_isFull_1 ?_
  refine lv_sipush (v := 240) hx hb d_F_isFull_4 (by decide) ?_
  refine lv_icmp_lt (tgt := 14) hx hb d_F_isFull_7 (by decide) (fun c1 => ?_) (fun c1 => ?_)
  · replace h := (if_pos c1).symm.trans h
    refine lv_iconst (v := 0) hx hb d_F_isFull_14 (by decide) ?_
    cases h
    exact k_zret (Or.inl rfl) hx hb hr hlk hP hS d_F_isFull_15
  · replace h := (if_neg c1).symm.trans h
    refine lv_iconst (v := 1) hx hb d_F_isFull_10 (by decide) ?_
    refine lv_goto (tgt := 15) hx hb d_F_isFull_11 (by decide) ?_
    cases h
    exact k_zret (Or.inr rfl) hx hb hr hlk hP hS d_F_isFull_15
theorem K_F_isFull (l : Launch) (D : va_G) (a : Nat → Nat) (c9 : Nat → ClassId) (sz : Nat) {σ : kS} {r9 : Int32} {σo : kS} (h : M_F_isFull σ  = some (r9, σo)) : Met l y_F_isFull (Cond.code y_F_isFull c_F_isFull 1 (some .boolean) :: kG) rm_F_isFull (k_Pc D a c9 sz σ [.ref (a 1)]) (k_Qi D a c9 r9 σo (k_A a c9 σ sz)) 0 0 (k_A a c9 σ sz) :=
  k_met (Qf := k_Qi D a c9 r9 σo) (by decide) (Nat.le_of_ble_eq_true rfl) (fun p e s m args below meth c A ls C0 hP hD hS hl => B_F_isFull_0 C0 σ  s.heap [] ls hP hD hS hl h)
def rm_F_hasTree : Room := { frames := 0, cells := 0, slots := 0, locals := 0 }
def M_F_hasTree (σ : kS) (x1 : Int32) : Option (Int32 × kS) := if x1 < 0 then (some (0, σ)) else (if σ.1 2 ≤ x1 then (some (0, σ)) else (some (1, σ)))
set_option maxHeartbeats 4000000 in
set_option maxRecDepth 100000 in
theorem B_F_hasTree_0 {p : Program} {l : Launch} {e : Env} {s : State} {m : MethodId} {args : Array Value} {below : List Frame} {meth : Method} {c : Code} {D : va_G} {a : Nat → Nat} {c9 : Nat → ClassId} {A : Nat → Prop} {r9 : Int32} {σo : kS} (C0 : k_Cx D c9 p s m args meth c R_F c_F_hasTree 2 (some .boolean) A) (σ : kS) (x1 : Int32) (H : Heap) (locs : List Loc) (ls : Array Slot) (hP : va_P D kcl (kw a c9 σ) H) (hD : va_D A (kw a c9 σ)) (hS : va_S A s.heap H locs) (hl : lv_has ls 2 [(0, .ref (a 1)), (1, .int x1)]) (h : M_F_hasTree σ x1 = some (r9, σo)) : W p l e rm_F_hasTree s m args below meth c H locs 0 0 (MQ below (k_Qi D a c9 r9 σo A) args s 0 0 A) (F0 m 0 ls []) := by
  obtain ⟨hx, hb, hml, hown, hts, hr, hlk, hK, hN, hA⟩ := id C0
  unfold M_F_hasTree at h
  refine lv_iload_n hx hb d_F_hasTree_0 rfl (lv_at hl 1 rfl) ?_
  refine lv_if_lt (tgt := 16) hx hb d_F_hasTree_1 (by decide) (fun c1 => ?_) (fun c1 => ?_)
  · replace h := (if_pos c1).symm.trans h
    refine lv_iconst (v := 0) hx hb d_F_hasTree_16 (by decide) ?_
    cases h
    exact k_zret (Or.inl rfl) hx hb hr hlk hP hS d_F_hasTree_17
  · replace h := (if_neg c1).symm.trans h
    refine lv_iload_n hx hb d_F_hasTree_4 rfl (lv_at hl 1 rfl) ?_
    refine lv_aload_n hx hb d_F_hasTree_5 rfl (lv_at hl 0 rfl) ?_
    refine va_get (ci := 2) (C := R_F) (T := T_F) (N := 13) hx hb hts in_F hown hK hP 1 kw_1 rfl 0 (by decide) (hts _ q_33) (fun _ h9 => h9) rfl d_F_hasTree_6 ?_
    refine lv_icmp_ge (tgt := 16) hx hb d_F_hasTree_9 (by decide) (fun c2 => ?_) (fun c2 => ?_)
    · replace h := (if_pos c2).symm.trans h
      refine lv_iconst (v := 0) hx hb d_F_hasTree_16 (by decide) ?_
      cases h
      exact k_zret (Or.inl rfl) hx hb hr hlk hP hS d_F_hasTree_17
    · replace h := (if_neg c2).symm.trans h
      refine lv_iconst (v := 1) hx hb d_F_hasTree_12 (by decide) ?_
      refine lv_goto (tgt := 17) hx hb d_F_hasTree_13 (by decide) ?_
      cases h
      exact k_zret (Or.inr rfl) hx hb hr hlk hP hS d_F_hasTree_17
theorem K_F_hasTree (l : Launch) (D : va_G) (a : Nat → Nat) (c9 : Nat → ClassId) (sz : Nat) {σ : kS} {x1 : Int32} {r9 : Int32} {σo : kS} (h : M_F_hasTree σ x1 = some (r9, σo)) : Met l y_F_hasTree (Cond.code y_F_hasTree c_F_hasTree 2 (some .boolean) :: kG) rm_F_hasTree (k_Pc D a c9 sz σ [.ref (a 1), .int x1]) (k_Qi D a c9 r9 σo (k_A a c9 σ sz)) 0 0 (k_A a c9 σ sz) :=
  k_met (Qf := k_Qi D a c9 r9 σo) (by decide) (Nat.le_of_ble_eq_true rfl) (fun p e s m args below meth c A ls C0 hP hD hS hl => B_F_hasTree_0 C0 σ x1 s.heap [] ls hP hD hS hl h)
def rm_F_add : Room := { frames := 0, cells := 0, slots := 0, locals := 0 }
def M_F_add_46 (σ : kS) (x1 x2 x3 x4 y0 y1 : Int32) : Option (Int32 × kS) := k_st σ 5 240 (y1) (vp_nar .boolean (y0)) fun σ1 => k_st σ1 8 240 (x4) (1) fun σ2 => k_set σ2 2 ((σ2.1 2 + 1)) fun σ3 => some (x4, σ3)
set_option maxHeartbeats 4000000 in
set_option maxRecDepth 100000 in
theorem B_F_add_46 {p : Program} {l : Launch} {e : Env} {s : State} {m : MethodId} {args : Array Value} {below : List Frame} {meth : Method} {c : Code} {D : va_G} {a : Nat → Nat} {c9 : Nat → ClassId} {A : Nat → Prop} {r9 : Int32} {σo : kS} (C0 : k_Cx D c9 p s m args meth c R_F c_F_add 5 (some .int) A) (σ : kS) (x1 x2 x3 x4 y0 y1 : Int32) (H : Heap) (locs : List Loc) (ls : Array Slot) (hP : va_P D kcl (kw a c9 σ) H) (hD : va_D A (kw a c9 σ)) (hS : va_S A s.heap H locs) (hl : lv_has ls 5 [(0, .ref (a 1)), (1, .int x1), (2, .int x2), (3, .int x3), (4, .int x4)]) (h : M_F_add_46 σ x1 x2 x3 x4 y0 y1 = some (r9, σo)) : W p l e rm_F_add s m args below meth c H locs 0 0 (MQ below (k_Qi D a c9 r9 σo A) args s 0 0 A) (F0 m 46 ls [.int y0, .int y1, .ref (a 12)]) := by
  obtain ⟨hx, hb, hml, hown, hts, hr, hlk, hK, hN, hA⟩ := id C0
  unfold M_F_add_46 at h
  obtain ⟨σ1, eσ1, hiσ1, h⟩ := k_st_e h
  refine va_zast hx hb hK hP hD hS 12 1 kw_12 rfl hiσ1 d_F_add_46 (fun H locs hP hD hS => ?_)
  replace hP := k_mvP (kw_s12.trans (congrArg _ eσ1.symm)) hP
  replace hD := k_mvD (kw_s12.trans (congrArg _ eσ1.symm)) hD
  refine lv_aload_n hx hb d_F_add_47 rfl (lv_at hl 0 rfl) ?_
  refine va_get (ci := 2) (C := R_F) (T := T_F) (N := 13) hx hb hts in_F hown hK hP 1 kw_1 rfl 7 (by decide) (hts _ q_40) (fun _ h9 => h9) rfl d_F_add_48 ?_
  refine lv_iload hx hb d_F_add_51 (lv_at hl 4 rfl) ?_
  refine lv_iconst (v := 1) hx hb d_F_add_53 (by decide) ?_
  obtain ⟨σ2, eσ2, hiσ2, h⟩ := k_st_e h
  refine va_iast hx hb hK hP hD hS 15 0 kw_15 rfl hiσ2 d_F_add_54 (fun H locs hP hD hS => ?_)
  replace hP := k_mvP (kw_s15.trans (congrArg _ eσ2.symm)) hP
  replace hD := k_mvD (kw_s15.trans (congrArg _ eσ2.symm)) hD
  refine lv_aload_n hx hb d_F_add_55 rfl (lv_at hl 0 rfl) ?_
  refine lv_dup hx hb d_F_add_56 rfl ?_
  refine va_get (ci := 2) (C := R_F) (T := T_F) (N := 13) hx hb hts in_F hown hK hP 1 kw_1 rfl 0 (by decide) (hts _ q_33) (fun _ h9 => h9) rfl d_F_add_57 ?_
  refine lv_iconst (v := 1) hx hb d_F_add_60 (by decide) ?_
  refine lv_iadd hx hb d_F_add_61 ?_
  obtain ⟨σ3, eσ3, h⟩ := k_set_e h
  refine va_put (ci := 2) (v := .int ((σ2.1 2 + 1))) (ty := .int) (C := R_F) (T := T_F) (N := 13) hx hb hts in_F t_F t_F_ok n_F hown hK hP hD hS 1 kw_1 rfl 0 (by decide) (hts _ q_33) (fun _ h9 => h9) rfl (by decide +kernel) rfl rfl (Nat.le_of_ble_eq_true rfl) d_F_add_62 (fun H locs hP hD hS => ?_)
  replace hP := k_mvP (kw_f1_0.trans (congrArg _ eσ3.symm)) hP
  replace hD := k_mvD (kw_f1_0.trans (congrArg _ eσ3.symm)) hD
  refine lv_iload hx hb d_F_add_65 (lv_at hl 4 rfl) ?_
  cases h
  exact k_iret hx hb hr hlk hP hS d_F_add_67
def M_F_add (σ : kS) (x1 x2 x3 : Int32) : Option (Int32 × kS) := k_let (σ.1 2) fun v1 => k_st σ 2 240 (v1) (x1) fun σ2 => k_st σ2 3 240 (v1) (x2) fun σ3 => k_st σ3 4 240 (v1) (x3) fun σ4 => if x1 = 2 then (M_F_add_46 σ4 x1 x2 x3 v1 0 v1) else (M_F_add_46 σ4 x1 x2 x3 v1 1 v1)
set_option maxHeartbeats 4000000 in
set_option maxRecDepth 100000 in
theorem B_F_add_0 {p : Program} {l : Launch} {e : Env} {s : State} {m : MethodId} {args : Array Value} {below : List Frame} {meth : Method} {c : Code} {D : va_G} {a : Nat → Nat} {c9 : Nat → ClassId} {A : Nat → Prop} {r9 : Int32} {σo : kS} (C0 : k_Cx D c9 p s m args meth c R_F c_F_add 5 (some .int) A) (σ : kS) (x1 x2 x3 : Int32) (H : Heap) (locs : List Loc) (ls : Array Slot) (hP : va_P D kcl (kw a c9 σ) H) (hD : va_D A (kw a c9 σ)) (hS : va_S A s.heap H locs) (hl : lv_has ls 5 [(0, .ref (a 1)), (1, .int x1), (2, .int x2), (3, .int x3)]) (h : M_F_add σ x1 x2 x3 = some (r9, σo)) : W p l e rm_F_add s m args below meth c H locs 0 0 (MQ below (k_Qi D a c9 r9 σo A) args s 0 0 A) (F0 m 0 ls []) := by
  obtain ⟨hx, hb, hml, hown, hts, hr, hlk, hK, hN, hA⟩ := id C0
  unfold M_F_add at h
  refine lv_aload_n hx hb d_F_add_0 rfl (lv_at hl 0 rfl) ?_
  refine va_get (ci := 2) (C := R_F) (T := T_F) (N := 13) hx hb hts in_F hown hK hP 1 kw_1 rfl 0 (by decide) (hts _ q_33) (fun _ h9 => h9) rfl d_F_add_1 ?_
  obtain ⟨v1, ev1, h⟩ := k_let_e h
  refine k_top ev1 ?_
  refine lv_istore (lv' := [(4, .int v1), (0, .ref (a 1)), (1, .int x1), (2, .int x2), (3, .int x3)]) hx hb d_F_add_4 hl (by decide) rfl (fun ls hl => ?_)
  refine lv_aload_n hx hb d_F_add_6 rfl (lv_at hl 1 rfl) ?_
  refine va_get (ci := 2) (C := R_F) (T := T_F) (N := 13) hx hb hts in_F hown hK hP 1 kw_1 rfl 1 (by decide) (hts _ q_34) (fun _ h9 => h9) rfl d_F_add_7 ?_
  refine lv_iload hx hb d_F_add_10 (lv_at hl 0 rfl) ?_
  refine lv_iload_n hx hb d_F_add_12 rfl (lv_at hl 2 rfl) ?_
  obtain ⟨σ2, eσ2, hiσ2, h⟩ := k_st_e h
  refine va_iast hx hb hK hP hD hS 9 0 kw_9 rfl hiσ2 d_F_add_13 (fun H locs hP hD hS => ?_)
  replace hP := k_mvP (kw_s9.trans (congrArg _ eσ2.symm)) hP
  replace hD := k_mvD (kw_s9.trans (congrArg _ eσ2.symm)) hD
  refine lv_aload_n hx hb d_F_add_14 rfl (lv_at hl 1 rfl) ?_
  refine va_get (ci := 2) (C := R_F) (T := T_F) (N := 13) hx hb hts in_F hown hK hP 1 kw_1 rfl 2 (by decide) (hts _ q_35) (fun _ h9 => h9) rfl d_F_add_15 ?_
  refine lv_iload hx hb d_F_add_18 (lv_at hl 0 rfl) ?_
  refine lv_iload_n hx hb d_F_add_20 rfl (lv_at hl 3 rfl) ?_
  obtain ⟨σ3, eσ3, hiσ3, h⟩ := k_st_e h
  refine va_iast hx hb hK hP hD hS 10 0 kw_10 rfl hiσ3 d_F_add_21 (fun H locs hP hD hS => ?_)
  replace hP := k_mvP (kw_s10.trans (congrArg _ eσ3.symm)) hP
  replace hD := k_mvD (kw_s10.trans (congrArg _ eσ3.symm)) hD
  refine lv_aload_n hx hb d_F_add_22 rfl (lv_at hl 1 rfl) ?_
  refine va_get (ci := 2) (C := R_F) (T := T_F) (N := 13) hx hb hts in_F hown hK hP 1 kw_1 rfl 3 (by decide) (hts _ q_36) (fun _ h9 => h9) rfl d_F_add_23 ?_
  refine lv_iload hx hb d_F_add_26 (lv_at hl 0 rfl) ?_
  refine lv_iload_n hx hb d_F_add_28 rfl (lv_at hl 4 rfl) ?_
  obtain ⟨σ4, eσ4, hiσ4, h⟩ := k_st_e h
  refine va_iast hx hb hK hP hD hS 11 0 kw_11 rfl hiσ4 d_F_add_29 (fun H locs hP hD hS => ?_)
  replace hP := k_mvP (kw_s11.trans (congrArg _ eσ4.symm)) hP
  replace hD := k_mvD (kw_s11.trans (congrArg _ eσ4.symm)) hD
  refine lv_aload_n hx hb d_F_add_30 rfl (lv_at hl 1 rfl) ?_
  refine va_get (ci := 2) (C := R_F) (T := T_F) (N := 13) hx hb hts in_F hown hK hP 1 kw_1 rfl 4 (by decide) (hts _ q_37) (fun _ h9 => h9) rfl d_F_add_31 ?_
  refine lv_iload hx hb d_F_add_34 (lv_at hl 0 rfl) ?_
  refine lv_iload_n hx hb d_F_add_36 rfl (lv_at hl 2 rfl) ?_
  refine lv_iconst (v := 2) hx hb d_F_add_37 (by decide) ?_
  refine lv_icmp_eq (tgt := 45) hx hb d_F_add_38 (by decide) (fun c5 => ?_) (fun c5 => ?_)
  · replace h := (if_pos c5).symm.trans h
    refine lv_iconst (v := 0) hx hb d_F_add_45 (by decide) ?_
    exact B_F_add_46 C0 _ _ _ _ _ _ _ H locs ls hP hD hS (lv_sub hl [1, 2, 3, 4, 0] rfl) h
  · replace h := (if_neg c5).symm.trans h
    refine lv_iconst (v := 1) hx hb d_F_add_41 (by decide) ?_
    refine lv_goto (tgt := 46) hx hb d_F_add_42 (by decide) ?_
    exact B_F_add_46 C0 _ _ _ _ _ _ _ H locs ls hP hD hS (lv_sub hl [1, 2, 3, 4, 0] rfl) h
theorem K_F_add (l : Launch) (D : va_G) (a : Nat → Nat) (c9 : Nat → ClassId) (sz : Nat) {σ : kS} {x1 x2 x3 : Int32} {r9 : Int32} {σo : kS} (h : M_F_add σ x1 x2 x3 = some (r9, σo)) : Met l y_F_add (Cond.code y_F_add c_F_add 5 (some .int) :: kG) rm_F_add (k_Pc D a c9 sz σ [.ref (a 1), .int x1, .int x2, .int x3]) (k_Qi D a c9 r9 σo (k_A a c9 σ sz)) 0 0 (k_A a c9 σ sz) :=
  k_met (Qf := k_Qi D a c9 r9 σo) (by decide) (Nat.le_of_ble_eq_true rfl) (fun p e s m args below meth c A ls C0 hP hD hS hl => B_F_add_0 C0 σ x1 x2 x3 s.heap [] ls hP hD hS hl h)
def rm_F_close : Room := { frames := 0, cells := 0, slots := 0, locals := 0 }
def M_F_close (σ : kS) (x1 : Int32) : Option (Int32 × kS) := k_st σ 6 240 (x1) (vp_nar .boolean (1)) fun σ1 => some (0, σ1)
set_option maxHeartbeats 4000000 in
set_option maxRecDepth 100000 in
theorem B_F_close_0 {p : Program} {l : Launch} {e : Env} {s : State} {m : MethodId} {args : Array Value} {below : List Frame} {meth : Method} {c : Code} {D : va_G} {a : Nat → Nat} {c9 : Nat → ClassId} {A : Nat → Prop} {r9 : Int32} {σo : kS} (C0 : k_Cx D c9 p s m args meth c R_F c_F_close 2 none A) (σ : kS) (x1 : Int32) (H : Heap) (locs : List Loc) (ls : Array Slot) (hP : va_P D kcl (kw a c9 σ) H) (hD : va_D A (kw a c9 σ)) (hS : va_S A s.heap H locs) (hl : lv_has ls 2 [(0, .ref (a 1)), (1, .int x1)]) (h : M_F_close σ x1 = some (r9, σo)) : W p l e rm_F_close s m args below meth c H locs 0 0 (MQ below (k_Qv D a c9 σo A) args s 0 0 A) (F0 m 0 ls []) := by
  obtain ⟨hx, hb, hml, hown, hts, hr, hlk, hK, hN, hA⟩ := id C0
  unfold M_F_close at h
  refine lv_aload_n hx hb d_F_close_0 rfl (lv_at hl 0 rfl) ?_
  refine va_get (ci := 2) (C := R_F) (T := T_F) (N := 13) hx hb hts in_F hown hK hP 1 kw_1 rfl 5 (by decide) (hts _ q_38) (fun _ h9 => h9) rfl d_F_close_1 ?_
  refine lv_iload_n hx hb d_F_close_4 rfl (lv_at hl 1 rfl) ?_
  refine lv_iconst (v := 1) hx hb d_F_close_5 (by decide) ?_
  obtain ⟨σ1, eσ1, hiσ1, h⟩ := k_st_e h
  refine va_zast hx hb hK hP hD hS 13 1 kw_13 rfl hiσ1 d_F_close_6 (fun H locs hP hD hS => ?_)
  replace hP := k_mvP (kw_s13.trans (congrArg _ eσ1.symm)) hP
  replace hD := k_mvD (kw_s13.trans (congrArg _ eσ1.symm)) hD
  cases h
  exact k_vret hx hb hr hlk hP hS d_F_close_7
theorem K_F_close (l : Launch) (D : va_G) (a : Nat → Nat) (c9 : Nat → ClassId) (sz : Nat) {σ : kS} {x1 : Int32} {r9 : Int32} {σo : kS} (h : M_F_close σ x1 = some (r9, σo)) : Met l y_F_close (Cond.code y_F_close c_F_close 2 none :: kG) rm_F_close (k_Pc D a c9 sz σ [.ref (a 1), .int x1]) (k_Qv D a c9 σo (k_A a c9 σ sz)) 0 0 (k_A a c9 σ sz) :=
  k_met (Qf := k_Qv D a c9 σo) (by decide) (Nat.le_of_ble_eq_true rfl) (fun p e s m args below meth c A ls C0 hP hD hS hl => B_F_close_0 C0 σ x1 s.heap [] ls hP hD hS hl h)
def rm_F_isPlain : Room := { frames := 0, cells := 0, slots := 0, locals := 0 }
def M_F_isPlain (σ : kS) (x1 : Int32) : Option (Int32 × kS) := k_ld (σ.2.1 5) 240 (x1) fun v1 => k_z (v1) (some (v1, σ))
set_option maxHeartbeats 4000000 in
set_option maxRecDepth 100000 in
theorem B_F_isPlain_0 {p : Program} {l : Launch} {e : Env} {s : State} {m : MethodId} {args : Array Value} {below : List Frame} {meth : Method} {c : Code} {D : va_G} {a : Nat → Nat} {c9 : Nat → ClassId} {A : Nat → Prop} {r9 : Int32} {σo : kS} (C0 : k_Cx D c9 p s m args meth c R_F c_F_isPlain 2 (some .boolean) A) (σ : kS) (x1 : Int32) (H : Heap) (locs : List Loc) (ls : Array Slot) (hP : va_P D kcl (kw a c9 σ) H) (hD : va_D A (kw a c9 σ)) (hS : va_S A s.heap H locs) (hl : lv_has ls 2 [(0, .ref (a 1)), (1, .int x1)]) (h : M_F_isPlain σ x1 = some (r9, σo)) : W p l e rm_F_isPlain s m args below meth c H locs 0 0 (MQ below (k_Qi D a c9 r9 σo A) args s 0 0 A) (F0 m 0 ls []) := by
  obtain ⟨hx, hb, hml, hown, hts, hr, hlk, hK, hN, hA⟩ := id C0
  unfold M_F_isPlain at h
  refine lv_aload_n hx hb d_F_isPlain_0 rfl (lv_at hl 0 rfl) ?_
  refine va_get (ci := 2) (C := R_F) (T := T_F) (N := 13) hx hb hts in_F hown hK hP 1 kw_1 rfl 4 (by decide) (hts _ q_37) (fun _ h9 => h9) rfl d_F_isPlain_1 ?_
  refine lv_iload_n hx hb d_F_isPlain_4 rfl (lv_at hl 1 rfl) ?_
  obtain ⟨v1, ev1, hv1, h⟩ := k_ld_e h
  refine va_zald hx hb hK hP 12 1 kw_12 rfl hv1 d_F_isPlain_5 (k_top ev1 ?_)
  obtain ⟨hz, h⟩ := k_z_e h
  cases h
  exact k_zret hz hx hb hr hlk hP hS d_F_isPlain_6
theorem K_F_isPlain (l : Launch) (D : va_G) (a : Nat → Nat) (c9 : Nat → ClassId) (sz : Nat) {σ : kS} {x1 : Int32} {r9 : Int32} {σo : kS} (h : M_F_isPlain σ x1 = some (r9, σo)) : Met l y_F_isPlain (Cond.code y_F_isPlain c_F_isPlain 2 (some .boolean) :: kG) rm_F_isPlain (k_Pc D a c9 sz σ [.ref (a 1), .int x1]) (k_Qi D a c9 r9 σo (k_A a c9 σ sz)) 0 0 (k_A a c9 σ sz) :=
  k_met (Qf := k_Qi D a c9 r9 σo) (by decide) (Nat.le_of_ble_eq_true rfl) (fun p e s m args below meth c A ls C0 hP hD hS hl => B_F_isPlain_0 C0 σ x1 s.heap [] ls hP hD hS hl h)
def rm_F_isLeaf : Room := { frames := 0, cells := 0, slots := 0, locals := 0 }
def M_F_isLeaf (σ : kS) (x1 : Int32) : Option (Int32 × kS) := k_ld (σ.2.1 2) 240 (x1) fun v1 => if v1 = 0 then (some (1, σ)) else (some (0, σ))
set_option maxHeartbeats 4000000 in
set_option maxRecDepth 100000 in
theorem B_F_isLeaf_0 {p : Program} {l : Launch} {e : Env} {s : State} {m : MethodId} {args : Array Value} {below : List Frame} {meth : Method} {c : Code} {D : va_G} {a : Nat → Nat} {c9 : Nat → ClassId} {A : Nat → Prop} {r9 : Int32} {σo : kS} (C0 : k_Cx D c9 p s m args meth c R_F c_F_isLeaf 2 (some .boolean) A) (σ : kS) (x1 : Int32) (H : Heap) (locs : List Loc) (ls : Array Slot) (hP : va_P D kcl (kw a c9 σ) H) (hD : va_D A (kw a c9 σ)) (hS : va_S A s.heap H locs) (hl : lv_has ls 2 [(0, .ref (a 1)), (1, .int x1)]) (h : M_F_isLeaf σ x1 = some (r9, σo)) : W p l e rm_F_isLeaf s m args below meth c H locs 0 0 (MQ below (k_Qi D a c9 r9 σo A) args s 0 0 A) (F0 m 0 ls []) := by
  obtain ⟨hx, hb, hml, hown, hts, hr, hlk, hK, hN, hA⟩ := id C0
  unfold M_F_isLeaf at h
  refine lv_aload_n hx hb d_F_isLeaf_0 rfl (lv_at hl 0 rfl) ?_
  refine va_get (ci := 2) (C := R_F) (T := T_F) (N := 13) hx hb hts in_F hown hK hP 1 kw_1 rfl 1 (by decide) (hts _ q_34) (fun _ h9 => h9) rfl d_F_isLeaf_1 ?_
  refine lv_iload_n hx hb d_F_isLeaf_4 rfl (lv_at hl 1 rfl) ?_
  obtain ⟨v1, ev1, hv1, h⟩ := k_ld_e h
  refine va_iald hx hb hK hP 9 0 kw_9 rfl hv1 d_F_isLeaf_5 (k_top ev1 ?_)
  refine lv_if_ne (tgt := 13) hx hb d_F_isLeaf_6 (by decide) (fun c2 => ?_) (fun c2 => ?_)
  · replace h := (if_neg c2).symm.trans h
    refine lv_iconst (v := 0) hx hb d_F_isLeaf_13 (by decide) ?_
    cases h
    exact k_zret (Or.inl rfl) hx hb hr hlk hP hS d_F_isLeaf_14
  · replace h := (if_pos c2).symm.trans h
    refine lv_iconst (v := 1) hx hb d_F_isLeaf_9 (by decide) ?_
    refine lv_goto (tgt := 14) hx hb d_F_isLeaf_10 (by decide) ?_
    cases h
    exact k_zret (Or.inr rfl) hx hb hr hlk hP hS d_F_isLeaf_14
theorem K_F_isLeaf (l : Launch) (D : va_G) (a : Nat → Nat) (c9 : Nat → ClassId) (sz : Nat) {σ : kS} {x1 : Int32} {r9 : Int32} {σo : kS} (h : M_F_isLeaf σ x1 = some (r9, σo)) : Met l y_F_isLeaf (Cond.code y_F_isLeaf c_F_isLeaf 2 (some .boolean) :: kG) rm_F_isLeaf (k_Pc D a c9 sz σ [.ref (a 1), .int x1]) (k_Qi D a c9 r9 σo (k_A a c9 σ sz)) 0 0 (k_A a c9 σ sz) :=
  k_met (Qf := k_Qi D a c9 r9 σo) (by decide) (Nat.le_of_ble_eq_true rfl) (fun p e s m args below meth c A ls C0 hP hD hS hl => B_F_isLeaf_0 C0 σ x1 s.heap [] ls hP hD hS hl h)
def rm_F_isNode : Room := { frames := 0, cells := 0, slots := 0, locals := 0 }
def M_F_isNode (σ : kS) (x1 : Int32) : Option (Int32 × kS) := k_ld (σ.2.1 2) 240 (x1) fun v1 => if v1 = 1 then (some (1, σ)) else (some (0, σ))
set_option maxHeartbeats 4000000 in
set_option maxRecDepth 100000 in
theorem B_F_isNode_0 {p : Program} {l : Launch} {e : Env} {s : State} {m : MethodId} {args : Array Value} {below : List Frame} {meth : Method} {c : Code} {D : va_G} {a : Nat → Nat} {c9 : Nat → ClassId} {A : Nat → Prop} {r9 : Int32} {σo : kS} (C0 : k_Cx D c9 p s m args meth c R_F c_F_isNode 2 (some .boolean) A) (σ : kS) (x1 : Int32) (H : Heap) (locs : List Loc) (ls : Array Slot) (hP : va_P D kcl (kw a c9 σ) H) (hD : va_D A (kw a c9 σ)) (hS : va_S A s.heap H locs) (hl : lv_has ls 2 [(0, .ref (a 1)), (1, .int x1)]) (h : M_F_isNode σ x1 = some (r9, σo)) : W p l e rm_F_isNode s m args below meth c H locs 0 0 (MQ below (k_Qi D a c9 r9 σo A) args s 0 0 A) (F0 m 0 ls []) := by
  obtain ⟨hx, hb, hml, hown, hts, hr, hlk, hK, hN, hA⟩ := id C0
  unfold M_F_isNode at h
  refine lv_aload_n hx hb d_F_isNode_0 rfl (lv_at hl 0 rfl) ?_
  refine va_get (ci := 2) (C := R_F) (T := T_F) (N := 13) hx hb hts in_F hown hK hP 1 kw_1 rfl 1 (by decide) (hts _ q_34) (fun _ h9 => h9) rfl d_F_isNode_1 ?_
  refine lv_iload_n hx hb d_F_isNode_4 rfl (lv_at hl 1 rfl) ?_
  obtain ⟨v1, ev1, hv1, h⟩ := k_ld_e h
  refine va_iald hx hb hK hP 9 0 kw_9 rfl hv1 d_F_isNode_5 (k_top ev1 ?_)
  refine lv_iconst (v := 1) hx hb d_F_isNode_6 (by decide) ?_
  refine lv_icmp_ne (tgt := 14) hx hb d_F_isNode_7 (by decide) (fun c2 => ?_) (fun c2 => ?_)
  · replace h := (if_neg c2).symm.trans h
    refine lv_iconst (v := 0) hx hb d_F_isNode_14 (by decide) ?_
    cases h
    exact k_zret (Or.inl rfl) hx hb hr hlk hP hS d_F_isNode_15
  · replace h := (if_pos c2).symm.trans h
    refine lv_iconst (v := 1) hx hb d_F_isNode_10 (by decide) ?_
    refine lv_goto (tgt := 15) hx hb d_F_isNode_11 (by decide) ?_
    cases h
    exact k_zret (Or.inr rfl) hx hb hr hlk hP hS d_F_isNode_15
theorem K_F_isNode (l : Launch) (D : va_G) (a : Nat → Nat) (c9 : Nat → ClassId) (sz : Nat) {σ : kS} {x1 : Int32} {r9 : Int32} {σo : kS} (h : M_F_isNode σ x1 = some (r9, σo)) : Met l y_F_isNode (Cond.code y_F_isNode c_F_isNode 2 (some .boolean) :: kG) rm_F_isNode (k_Pc D a c9 sz σ [.ref (a 1), .int x1]) (k_Qi D a c9 r9 σo (k_A a c9 σ sz)) 0 0 (k_A a c9 σ sz) :=
  k_met (Qf := k_Qi D a c9 r9 σo) (by decide) (Nat.le_of_ble_eq_true rfl) (fun p e s m args below meth c A ls C0 hP hD hS hl => B_F_isNode_0 C0 σ x1 s.heap [] ls hP hD hS hl h)
def rm_F_isHole : Room := { frames := 0, cells := 0, slots := 0, locals := 0 }
def M_F_isHole (σ : kS) (x1 : Int32) : Option (Int32 × kS) := k_ld (σ.2.1 2) 240 (x1) fun v1 => if v1 = 2 then (some (1, σ)) else (some (0, σ))
set_option maxHeartbeats 4000000 in
set_option maxRecDepth 100000 in
theorem B_F_isHole_0 {p : Program} {l : Launch} {e : Env} {s : State} {m : MethodId} {args : Array Value} {below : List Frame} {meth : Method} {c : Code} {D : va_G} {a : Nat → Nat} {c9 : Nat → ClassId} {A : Nat → Prop} {r9 : Int32} {σo : kS} (C0 : k_Cx D c9 p s m args meth c R_F c_F_isHole 2 (some .boolean) A) (σ : kS) (x1 : Int32) (H : Heap) (locs : List Loc) (ls : Array Slot) (hP : va_P D kcl (kw a c9 σ) H) (hD : va_D A (kw a c9 σ)) (hS : va_S A s.heap H locs) (hl : lv_has ls 2 [(0, .ref (a 1)), (1, .int x1)]) (h : M_F_isHole σ x1 = some (r9, σo)) : W p l e rm_F_isHole s m args below meth c H locs 0 0 (MQ below (k_Qi D a c9 r9 σo A) args s 0 0 A) (F0 m 0 ls []) := by
  obtain ⟨hx, hb, hml, hown, hts, hr, hlk, hK, hN, hA⟩ := id C0
  unfold M_F_isHole at h
  refine lv_aload_n hx hb d_F_isHole_0 rfl (lv_at hl 0 rfl) ?_
  refine va_get (ci := 2) (C := R_F) (T := T_F) (N := 13) hx hb hts in_F hown hK hP 1 kw_1 rfl 1 (by decide) (hts _ q_34) (fun _ h9 => h9) rfl d_F_isHole_1 ?_
  refine lv_iload_n hx hb d_F_isHole_4 rfl (lv_at hl 1 rfl) ?_
  obtain ⟨v1, ev1, hv1, h⟩ := k_ld_e h
  refine va_iald hx hb hK hP 9 0 kw_9 rfl hv1 d_F_isHole_5 (k_top ev1 ?_)
  refine lv_iconst (v := 2) hx hb d_F_isHole_6 (by decide) ?_
  refine lv_icmp_ne (tgt := 14) hx hb d_F_isHole_7 (by decide) (fun c2 => ?_) (fun c2 => ?_)
  · replace h := (if_neg c2).symm.trans h
    refine lv_iconst (v := 0) hx hb d_F_isHole_14 (by decide) ?_
    cases h
    exact k_zret (Or.inl rfl) hx hb hr hlk hP hS d_F_isHole_15
  · replace h := (if_pos c2).symm.trans h
    refine lv_iconst (v := 1) hx hb d_F_isHole_10 (by decide) ?_
    refine lv_goto (tgt := 15) hx hb d_F_isHole_11 (by decide) ?_
    cases h
    exact k_zret (Or.inr rfl) hx hb hr hlk hP hS d_F_isHole_15
theorem K_F_isHole (l : Launch) (D : va_G) (a : Nat → Nat) (c9 : Nat → ClassId) (sz : Nat) {σ : kS} {x1 : Int32} {r9 : Int32} {σo : kS} (h : M_F_isHole σ x1 = some (r9, σo)) : Met l y_F_isHole (Cond.code y_F_isHole c_F_isHole 2 (some .boolean) :: kG) rm_F_isHole (k_Pc D a c9 sz σ [.ref (a 1), .int x1]) (k_Qi D a c9 r9 σo (k_A a c9 σ sz)) 0 0 (k_A a c9 σ sz) :=
  k_met (Qf := k_Qi D a c9 r9 σo) (by decide) (Nat.le_of_ble_eq_true rfl) (fun p e s m args below meth c A ls C0 hP hD hS hl => B_F_isHole_0 C0 σ x1 s.heap [] ls hP hD hS hl h)
def rm_F_isHoleOfKind : Room := { frames := 0, cells := 0, slots := 0, locals := 0 }
def M_F_isHoleOfKind (σ : kS) (x1 x2 : Int32) : Option (Int32 × kS) := k_ld (σ.2.1 2) 240 (x1) fun v1 => if v1 = 2 then (k_ld (σ.2.1 4) 240 (x1) fun v3 => if v3 = x2 then (some (1, σ)) else (some (0, σ))) else (some (0, σ))
set_option maxHeartbeats 4000000 in
set_option maxRecDepth 100000 in
theorem B_F_isHoleOfKind_0 {p : Program} {l : Launch} {e : Env} {s : State} {m : MethodId} {args : Array Value} {below : List Frame} {meth : Method} {c : Code} {D : va_G} {a : Nat → Nat} {c9 : Nat → ClassId} {A : Nat → Prop} {r9 : Int32} {σo : kS} (C0 : k_Cx D c9 p s m args meth c R_F c_F_isHoleOfKind 3 (some .boolean) A) (σ : kS) (x1 x2 : Int32) (H : Heap) (locs : List Loc) (ls : Array Slot) (hP : va_P D kcl (kw a c9 σ) H) (hD : va_D A (kw a c9 σ)) (hS : va_S A s.heap H locs) (hl : lv_has ls 3 [(0, .ref (a 1)), (1, .int x1), (2, .int x2)]) (h : M_F_isHoleOfKind σ x1 x2 = some (r9, σo)) : W p l e rm_F_isHoleOfKind s m args below meth c H locs 0 0 (MQ below (k_Qi D a c9 r9 σo A) args s 0 0 A) (F0 m 0 ls []) := by
  obtain ⟨hx, hb, hml, hown, hts, hr, hlk, hK, hN, hA⟩ := id C0
  unfold M_F_isHoleOfKind at h
  refine lv_aload_n hx hb d_F_isHoleOfKind_0 rfl (lv_at hl 0 rfl) ?_
  refine va_get (ci := 2) (C := R_F) (T := T_F) (N := 13) hx hb hts in_F hown hK hP 1 kw_1 rfl 1 (by decide) (hts _ q_34) (fun _ h9 => h9) rfl d_F_isHoleOfKind_1 ?_
  refine lv_iload_n hx hb d_F_isHoleOfKind_4 rfl (lv_at hl 1 rfl) ?_
  obtain ⟨v1, ev1, hv1, h⟩ := k_ld_e h
  refine va_iald hx hb hK hP 9 0 kw_9 rfl hv1 d_F_isHoleOfKind_5 (k_top ev1 ?_)
  refine lv_iconst (v := 2) hx hb d_F_isHoleOfKind_6 (by decide) ?_
  refine lv_icmp_ne (tgt := 24) hx hb d_F_isHoleOfKind_7 (by decide) (fun c2 => ?_) (fun c2 => ?_)
  · replace h := (if_neg c2).symm.trans h
    refine lv_iconst (v := 0) hx hb d_F_isHoleOfKind_24 (by decide) ?_
    cases h
    exact k_zret (Or.inl rfl) hx hb hr hlk hP hS d_F_isHoleOfKind_25
  · replace h := (if_pos c2).symm.trans h
    refine lv_aload_n hx hb d_F_isHoleOfKind_10 rfl (lv_at hl 0 rfl) ?_
    refine va_get (ci := 2) (C := R_F) (T := T_F) (N := 13) hx hb hts in_F hown hK hP 1 kw_1 rfl 3 (by decide) (hts _ q_36) (fun _ h9 => h9) rfl d_F_isHoleOfKind_11 ?_
    refine lv_iload_n hx hb d_F_isHoleOfKind_14 rfl (lv_at hl 1 rfl) ?_
    obtain ⟨v3, ev3, hv3, h⟩ := k_ld_e h
    refine va_iald hx hb hK hP 11 0 kw_11 rfl hv3 d_F_isHoleOfKind_15 (k_top ev3 ?_)
    refine lv_iload_n hx hb d_F_isHoleOfKind_16 rfl (lv_at hl 2 rfl) ?_
    refine lv_icmp_ne (tgt := 24) hx hb d_F_isHoleOfKind_17 (by decide) (fun c4 => ?_) (fun c4 => ?_)
    · replace h := (if_neg c4).symm.trans h
      refine lv_iconst (v := 0) hx hb d_F_isHoleOfKind_24 (by decide) ?_
      cases h
      exact k_zret (Or.inl rfl) hx hb hr hlk hP hS d_F_isHoleOfKind_25
    · replace h := (if_pos c4).symm.trans h
      refine lv_iconst (v := 1) hx hb d_F_isHoleOfKind_20 (by decide) ?_
      refine lv_goto (tgt := 25) hx hb d_F_isHoleOfKind_21 (by decide) ?_
      cases h
      exact k_zret (Or.inr rfl) hx hb hr hlk hP hS d_F_isHoleOfKind_25
theorem K_F_isHoleOfKind (l : Launch) (D : va_G) (a : Nat → Nat) (c9 : Nat → ClassId) (sz : Nat) {σ : kS} {x1 x2 : Int32} {r9 : Int32} {σo : kS} (h : M_F_isHoleOfKind σ x1 x2 = some (r9, σo)) : Met l y_F_isHoleOfKind (Cond.code y_F_isHoleOfKind c_F_isHoleOfKind 3 (some .boolean) :: kG) rm_F_isHoleOfKind (k_Pc D a c9 sz σ [.ref (a 1), .int x1, .int x2]) (k_Qi D a c9 r9 σo (k_A a c9 σ sz)) 0 0 (k_A a c9 σ sz) :=
  k_met (Qf := k_Qi D a c9 r9 σo) (by decide) (Nat.le_of_ble_eq_true rfl) (fun p e s m args below meth c A ls C0 hP hD hS hl => B_F_isHoleOfKind_0 C0 σ x1 x2 s.heap [] ls hP hD hS hl h)
def rm_F_takesSeveral : Room := { frames := 1, cells := 0, slots := 0, locals := 22 }
def M_F_takesSeveral (σ : kS) (x1 : Int32) : Option (Int32 × kS) := k_call (M_F_isHoleOfKind σ x1 2) fun v1 σ2 => if v1 = 0 then (k_call (M_F_isHoleOfKind σ2 x1 3) fun v5 σ6 => if v5 = 0 then (some (0, σ6)) else (some (1, σ6))) else (some (1, σ2))
set_option maxHeartbeats 4000000 in
set_option maxRecDepth 100000 in
theorem B_F_takesSeveral_0 {p : Program} {l : Launch} {e : Env} {s : State} {m : MethodId} {args : Array Value} {below : List Frame} {meth : Method} {c : Code} {D : va_G} {a : Nat → Nat} {c9 : Nat → ClassId} {A : Nat → Prop} {r9 : Int32} {σo : kS} (C0 : k_Cx D c9 p s m args meth c R_F c_F_takesSeveral 2 (some .boolean) A) (σ : kS) (x1 : Int32) (H : Heap) (locs : List Loc) (ls : Array Slot) (hP : va_P D kcl (kw a c9 σ) H) (hD : va_D A (kw a c9 σ)) (hS : va_S A s.heap H locs) (hl : lv_has ls 2 [(0, .ref (a 1)), (1, .int x1)]) (h : M_F_takesSeveral σ x1 = some (r9, σo)) : W p l e rm_F_takesSeveral s m args below meth c H locs 0 0 (MQ below (k_Qi D a c9 r9 σo A) args s 0 0 A) (F0 m 0 ls []) := by
  obtain ⟨hx, hb, hml, hown, hts, hr, hlk, hK, hN, hA⟩ := id C0
  unfold M_F_takesSeveral at h
  refine lv_aload_n hx hb d_F_takesSeveral_0 rfl (lv_at hl 0 rfl) ?_
  refine lv_iload_n hx hb d_F_takesSeveral_1 rfl (lv_at hl 1 rfl) ?_
  refine lv_iconst (v := 2) hx hb d_F_takesSeveral_2 (by decide) ?_
  obtain ⟨v1, σ2, hc3, h⟩ := k_call_e h
  refine k_calli (va_runV (As := [.int x1, .int 2]) (rest := []) ⟨hx, hb, hml, hown, hts⟩ (K_F_isHoleOfKind l D a c9 H.size hc3) (cwV 2 hts (k_gV q_514 q_499 q_500 q_2 q_501) rfl rfl rfl h_F_isHoleOfKind ⟨Nat.le_of_ble_eq_true rfl, Nat.le_of_ble_eq_true rfl⟩) (k_preV (ci := 2) (q0 := 1) rfl kw_1 hP hK hN hD) rfl rfl hl.1 rfl (lv_room (Nat.le_of_ble_eq_true rfl)) d_F_takesSeveral_3 ⟨Nat.zero_le _, Nat.zero_le _⟩) hD hS hA (fun H locs hP hD hS => ?_)
  refine lv_if_ne (tgt := 18) hx hb d_F_takesSeveral_6 (by decide) (fun c4 => ?_) (fun c4 => ?_)
  · replace h := (if_neg c4).symm.trans h
    refine lv_iconst (v := 1) hx hb d_F_takesSeveral_18 (by decide) ?_
    refine lv_goto (tgt := 23) hx hb d_F_takesSeveral_19 (by decide) ?_
    cases h
    exact k_zret (Or.inr rfl) hx hb hr hlk hP hS d_F_takesSeveral_23
  · replace h := (if_pos c4).symm.trans h
    refine lv_aload_n hx hb d_F_takesSeveral_9 rfl (lv_at hl 0 rfl) ?_
    refine lv_iload_n hx hb d_F_takesSeveral_10 rfl (lv_at hl 1 rfl) ?_
    refine lv_iconst (v := 3) hx hb d_F_takesSeveral_11 (by decide) ?_
    obtain ⟨v5, σ6, hc7, h⟩ := k_call_e h
    refine k_calli (va_runV (As := [.int x1, .int 3]) (rest := []) ⟨hx, hb, hml, hown, hts⟩ (K_F_isHoleOfKind l D a c9 H.size hc7) (cwV 2 hts (k_gV q_514 q_499 q_500 q_2 q_501) rfl rfl rfl h_F_isHoleOfKind ⟨Nat.le_of_ble_eq_true rfl, Nat.le_of_ble_eq_true rfl⟩) (k_preV (ci := 2) (q0 := 1) rfl kw_1 hP hK hN hD) rfl rfl hl.1 rfl (lv_room (Nat.le_of_ble_eq_true rfl)) d_F_takesSeveral_12 ⟨Nat.zero_le _, Nat.zero_le _⟩) hD hS hA (fun H locs hP hD hS => ?_)
    refine lv_if_eq (tgt := 22) hx hb d_F_takesSeveral_15 (by decide) (fun c8 => ?_) (fun c8 => ?_)
    · replace h := (if_pos c8).symm.trans h
      refine lv_iconst (v := 0) hx hb d_F_takesSeveral_22 (by decide) ?_
      cases h
      exact k_zret (Or.inl rfl) hx hb hr hlk hP hS d_F_takesSeveral_23
    · replace h := (if_neg c8).symm.trans h
      refine lv_iconst (v := 1) hx hb d_F_takesSeveral_18 (by decide) ?_
      refine lv_goto (tgt := 23) hx hb d_F_takesSeveral_19 (by decide) ?_
      cases h
      exact k_zret (Or.inr rfl) hx hb hr hlk hP hS d_F_takesSeveral_23
theorem K_F_takesSeveral (l : Launch) (D : va_G) (a : Nat → Nat) (c9 : Nat → ClassId) (sz : Nat) {σ : kS} {x1 : Int32} {r9 : Int32} {σo : kS} (h : M_F_takesSeveral σ x1 = some (r9, σo)) : Met l y_F_takesSeveral (Cond.code y_F_takesSeveral c_F_takesSeveral 2 (some .boolean) :: kG) rm_F_takesSeveral (k_Pc D a c9 sz σ [.ref (a 1), .int x1]) (k_Qi D a c9 r9 σo (k_A a c9 σ sz)) 0 0 (k_A a c9 σ sz) :=
  k_met (Qf := k_Qi D a c9 r9 σo) (by decide) (Nat.le_of_ble_eq_true rfl) (fun p e s m args below meth c A ls C0 hP hD hS hl => B_F_takesSeveral_0 C0 σ x1 s.heap [] ls hP hD hS hl h)
def rm_F_isAnyOrder : Room := { frames := 0, cells := 0, slots := 0, locals := 0 }
def M_F_isAnyOrder (σ : kS) (x1 : Int32) : Option (Int32 × kS) := k_ld (σ.2.1 2) 240 (x1) fun v1 => if v1 = 1 then (k_ld (σ.2.1 3) 240 (x1) fun v3 => if v3 < 5 then (some (0, σ)) else (some (1, σ))) else (some (0, σ))
set_option maxHeartbeats 4000000 in
set_option maxRecDepth 100000 in
theorem B_F_isAnyOrder_0 {p : Program} {l : Launch} {e : Env} {s : State} {m : MethodId} {args : Array Value} {below : List Frame} {meth : Method} {c : Code} {D : va_G} {a : Nat → Nat} {c9 : Nat → ClassId} {A : Nat → Prop} {r9 : Int32} {σo : kS} (C0 : k_Cx D c9 p s m args meth c R_F c_F_isAnyOrder 2 (some .boolean) A) (σ : kS) (x1 : Int32) (H : Heap) (locs : List Loc) (ls : Array Slot) (hP : va_P D kcl (kw a c9 σ) H) (hD : va_D A (kw a c9 σ)) (hS : va_S A s.heap H locs) (hl : lv_has ls 2 [(0, .ref (a 1)), (1, .int x1)]) (h : M_F_isAnyOrder σ x1 = some (r9, σo)) : W p l e rm_F_isAnyOrder s m args below meth c H locs 0 0 (MQ below (k_Qi D a c9 r9 σo A) args s 0 0 A) (F0 m 0 ls []) := by
  obtain ⟨hx, hb, hml, hown, hts, hr, hlk, hK, hN, hA⟩ := id C0
  unfold M_F_isAnyOrder at h
  refine lv_aload_n hx hb d_F_isAnyOrder_0 rfl (lv_at hl 0 rfl) ?_
  refine va_get (ci := 2) (C := R_F) (T := T_F) (N := 13) hx hb hts in_F hown hK hP 1 kw_1 rfl 1 (by decide) (hts _ q_34) (fun _ h9 => h9) rfl d_F_isAnyOrder_1 ?_
  refine lv_iload_n hx hb d_F_isAnyOrder_4 rfl (lv_at hl 1 rfl) ?_
  obtain ⟨v1, ev1, hv1, h⟩ := k_ld_e h
  refine va_iald hx hb hK hP 9 0 kw_9 rfl hv1 d_F_isAnyOrder_5 (k_top ev1 ?_)
  refine lv_iconst (v := 1) hx hb d_F_isAnyOrder_6 (by decide) ?_
  refine lv_icmp_ne (tgt := 24) hx hb d_F_isAnyOrder_7 (by decide) (fun c2 => ?_) (fun c2 => ?_)
  · replace h := (if_neg c2).symm.trans h
    refine lv_iconst (v := 0) hx hb d_F_isAnyOrder_24 (by decide) ?_
    cases h
    exact k_zret (Or.inl rfl) hx hb hr hlk hP hS d_F_isAnyOrder_25
  · replace h := (if_pos c2).symm.trans h
    refine lv_aload_n hx hb d_F_isAnyOrder_10 rfl (lv_at hl 0 rfl) ?_
    refine va_get (ci := 2) (C := R_F) (T := T_F) (N := 13) hx hb hts in_F hown hK hP 1 kw_1 rfl 2 (by decide) (hts _ q_35) (fun _ h9 => h9) rfl d_F_isAnyOrder_11 ?_
    refine lv_iload_n hx hb d_F_isAnyOrder_14 rfl (lv_at hl 1 rfl) ?_
    obtain ⟨v3, ev3, hv3, h⟩ := k_ld_e h
    refine va_iald hx hb hK hP 10 0 kw_10 rfl hv3 d_F_isAnyOrder_15 (k_top ev3 ?_)
    refine lv_iconst (v := 5) hx hb d_F_isAnyOrder_16 (by decide) ?_
    refine lv_icmp_lt (tgt := 24) hx hb d_F_isAnyOrder_17 (by decide) (fun c4 => ?_) (fun c4 => ?_)
    · replace h := (if_pos c4).symm.trans h
      refine lv_iconst (v := 0) hx hb d_F_isAnyOrder_24 (by decide) ?_
      cases h
      exact k_zret (Or.inl rfl) hx hb hr hlk hP hS d_F_isAnyOrder_25
    · replace h := (if_neg c4).symm.trans h
      refine lv_iconst (v := 1) hx hb d_F_isAnyOrder_20 (by decide) ?_
      refine lv_goto (tgt := 25) hx hb d_F_isAnyOrder_21 (by decide) ?_
      cases h
      exact k_zret (Or.inr rfl) hx hb hr hlk hP hS d_F_isAnyOrder_25
theorem K_F_isAnyOrder (l : Launch) (D : va_G) (a : Nat → Nat) (c9 : Nat → ClassId) (sz : Nat) {σ : kS} {x1 : Int32} {r9 : Int32} {σo : kS} (h : M_F_isAnyOrder σ x1 = some (r9, σo)) : Met l y_F_isAnyOrder (Cond.code y_F_isAnyOrder c_F_isAnyOrder 2 (some .boolean) :: kG) rm_F_isAnyOrder (k_Pc D a c9 sz σ [.ref (a 1), .int x1]) (k_Qi D a c9 r9 σo (k_A a c9 σ sz)) 0 0 (k_A a c9 σ sz) :=
  k_met (Qf := k_Qi D a c9 r9 σo) (by decide) (Nat.le_of_ble_eq_true rfl) (fun p e s m args below meth c A ls C0 hP hD hS hl => B_F_isAnyOrder_0 C0 σ x1 s.heap [] ls hP hD hS hl h)
def rm_F_nameOf : Room := { frames := 0, cells := 0, slots := 0, locals := 0 }
def M_F_nameOf (σ : kS) (x1 : Int32) : Option (Int32 × kS) := k_ld (σ.2.1 3) 240 (x1) fun v1 => some (v1, σ)
set_option maxHeartbeats 4000000 in
set_option maxRecDepth 100000 in
theorem B_F_nameOf_0 {p : Program} {l : Launch} {e : Env} {s : State} {m : MethodId} {args : Array Value} {below : List Frame} {meth : Method} {c : Code} {D : va_G} {a : Nat → Nat} {c9 : Nat → ClassId} {A : Nat → Prop} {r9 : Int32} {σo : kS} (C0 : k_Cx D c9 p s m args meth c R_F c_F_nameOf 2 (some .int) A) (σ : kS) (x1 : Int32) (H : Heap) (locs : List Loc) (ls : Array Slot) (hP : va_P D kcl (kw a c9 σ) H) (hD : va_D A (kw a c9 σ)) (hS : va_S A s.heap H locs) (hl : lv_has ls 2 [(0, .ref (a 1)), (1, .int x1)]) (h : M_F_nameOf σ x1 = some (r9, σo)) : W p l e rm_F_nameOf s m args below meth c H locs 0 0 (MQ below (k_Qi D a c9 r9 σo A) args s 0 0 A) (F0 m 0 ls []) := by
  obtain ⟨hx, hb, hml, hown, hts, hr, hlk, hK, hN, hA⟩ := id C0
  unfold M_F_nameOf at h
  refine lv_aload_n hx hb d_F_nameOf_0 rfl (lv_at hl 0 rfl) ?_
  refine va_get (ci := 2) (C := R_F) (T := T_F) (N := 13) hx hb hts in_F hown hK hP 1 kw_1 rfl 2 (by decide) (hts _ q_35) (fun _ h9 => h9) rfl d_F_nameOf_1 ?_
  refine lv_iload_n hx hb d_F_nameOf_4 rfl (lv_at hl 1 rfl) ?_
  obtain ⟨v1, ev1, hv1, h⟩ := k_ld_e h
  refine va_iald hx hb hK hP 10 0 kw_10 rfl hv1 d_F_nameOf_5 (k_top ev1 ?_)
  cases h
  exact k_iret hx hb hr hlk hP hS d_F_nameOf_6
theorem K_F_nameOf (l : Launch) (D : va_G) (a : Nat → Nat) (c9 : Nat → ClassId) (sz : Nat) {σ : kS} {x1 : Int32} {r9 : Int32} {σo : kS} (h : M_F_nameOf σ x1 = some (r9, σo)) : Met l y_F_nameOf (Cond.code y_F_nameOf c_F_nameOf 2 (some .int) :: kG) rm_F_nameOf (k_Pc D a c9 sz σ [.ref (a 1), .int x1]) (k_Qi D a c9 r9 σo (k_A a c9 σ sz)) 0 0 (k_A a c9 σ sz) :=
  k_met (Qf := k_Qi D a c9 r9 σo) (by decide) (Nat.le_of_ble_eq_true rfl) (fun p e s m args below meth c A ls C0 hP hD hS hl => B_F_nameOf_0 C0 σ x1 s.heap [] ls hP hD hS hl h)
def rm_F_partCount : Room := { frames := 0, cells := 0, slots := 0, locals := 0 }
def M_F_partCount (σ : kS) (x1 : Int32) : Option (Int32 × kS) := k_ld (σ.2.1 9) 240 (x1) fun v1 => some (v1, σ)
set_option maxHeartbeats 4000000 in
set_option maxRecDepth 100000 in
theorem B_F_partCount_0 {p : Program} {l : Launch} {e : Env} {s : State} {m : MethodId} {args : Array Value} {below : List Frame} {meth : Method} {c : Code} {D : va_G} {a : Nat → Nat} {c9 : Nat → ClassId} {A : Nat → Prop} {r9 : Int32} {σo : kS} (C0 : k_Cx D c9 p s m args meth c R_F c_F_partCount 2 (some .int) A) (σ : kS) (x1 : Int32) (H : Heap) (locs : List Loc) (ls : Array Slot) (hP : va_P D kcl (kw a c9 σ) H) (hD : va_D A (kw a c9 σ)) (hS : va_S A s.heap H locs) (hl : lv_has ls 2 [(0, .ref (a 1)), (1, .int x1)]) (h : M_F_partCount σ x1 = some (r9, σo)) : W p l e rm_F_partCount s m args below meth c H locs 0 0 (MQ below (k_Qi D a c9 r9 σo A) args s 0 0 A) (F0 m 0 ls []) := by
  obtain ⟨hx, hb, hml, hown, hts, hr, hlk, hK, hN, hA⟩ := id C0
  unfold M_F_partCount at h
  refine lv_aload_n hx hb d_F_partCount_0 rfl (lv_at hl 0 rfl) ?_
  refine va_get (ci := 2) (C := R_F) (T := T_F) (N := 13) hx hb hts in_F hown hK hP 1 kw_1 rfl 8 (by decide) (hts _ q_41) (fun _ h9 => h9) rfl d_F_partCount_1 ?_
  refine lv_iload_n hx hb d_F_partCount_4 rfl (lv_at hl 1 rfl) ?_
  obtain ⟨v1, ev1, hv1, h⟩ := k_ld_e h
  refine va_iald hx hb hK hP 16 0 kw_16 rfl hv1 d_F_partCount_5 (k_top ev1 ?_)
  cases h
  exact k_iret hx hb hr hlk hP hS d_F_partCount_6
theorem K_F_partCount (l : Launch) (D : va_G) (a : Nat → Nat) (c9 : Nat → ClassId) (sz : Nat) {σ : kS} {x1 : Int32} {r9 : Int32} {σo : kS} (h : M_F_partCount σ x1 = some (r9, σo)) : Met l y_F_partCount (Cond.code y_F_partCount c_F_partCount 2 (some .int) :: kG) rm_F_partCount (k_Pc D a c9 sz σ [.ref (a 1), .int x1]) (k_Qi D a c9 r9 σo (k_A a c9 σ sz)) 0 0 (k_A a c9 σ sz) :=
  k_met (Qf := k_Qi D a c9 r9 σo) (by decide) (Nat.le_of_ble_eq_true rfl) (fun p e s m args below meth c A ls C0 hP hD hS hl => B_F_partCount_0 C0 σ x1 s.heap [] ls hP hD hS hl h)
def rm_F_partAt : Room := { frames := 0, cells := 0, slots := 0, locals := 0 }
def M_F_partAt (σ : kS) (x1 x2 : Int32) : Option (Int32 × kS) := k_ld (σ.2.1 10) 2880 (((x1 * 12) + x2)) fun v1 => some (v1, σ)
set_option maxHeartbeats 4000000 in
set_option maxRecDepth 100000 in
theorem B_F_partAt_0 {p : Program} {l : Launch} {e : Env} {s : State} {m : MethodId} {args : Array Value} {below : List Frame} {meth : Method} {c : Code} {D : va_G} {a : Nat → Nat} {c9 : Nat → ClassId} {A : Nat → Prop} {r9 : Int32} {σo : kS} (C0 : k_Cx D c9 p s m args meth c R_F c_F_partAt 3 (some .int) A) (σ : kS) (x1 x2 : Int32) (H : Heap) (locs : List Loc) (ls : Array Slot) (hP : va_P D kcl (kw a c9 σ) H) (hD : va_D A (kw a c9 σ)) (hS : va_S A s.heap H locs) (hl : lv_has ls 3 [(0, .ref (a 1)), (1, .int x1), (2, .int x2)]) (h : M_F_partAt σ x1 x2 = some (r9, σo)) : W p l e rm_F_partAt s m args below meth c H locs 0 0 (MQ below (k_Qi D a c9 r9 σo A) args s 0 0 A) (F0 m 0 ls []) := by
  obtain ⟨hx, hb, hml, hown, hts, hr, hlk, hK, hN, hA⟩ := id C0
  unfold M_F_partAt at h
  refine lv_aload_n hx hb d_F_partAt_0 rfl (lv_at hl 0 rfl) ?_
  refine va_get (ci := 2) (C := R_F) (T := T_F) (N := 13) hx hb hts in_F hown hK hP 1 kw_1 rfl 9 (by decide) (hts _ q_42) (fun _ h9 => h9) rfl d_F_partAt_1 ?_
  refine lv_iload_n hx hb d_F_partAt_4 rfl (lv_at hl 1 rfl) ?_
  refine lv_bipush (v := 12) hx hb d_F_partAt_5 (by decide) ?_
  refine lv_imul hx hb d_F_partAt_7 ?_
  refine lv_iload_n hx hb d_F_partAt_8 rfl (lv_at hl 2 rfl) ?_
  refine lv_iadd hx hb d_F_partAt_9 ?_
  obtain ⟨v1, ev1, hv1, h⟩ := k_ld_e h
  refine va_iald hx hb hK hP 17 0 kw_17 rfl hv1 d_F_partAt_10 (k_top ev1 ?_)
  cases h
  exact k_iret hx hb hr hlk hP hS d_F_partAt_11
theorem K_F_partAt (l : Launch) (D : va_G) (a : Nat → Nat) (c9 : Nat → ClassId) (sz : Nat) {σ : kS} {x1 x2 : Int32} {r9 : Int32} {σo : kS} (h : M_F_partAt σ x1 x2 = some (r9, σo)) : Met l y_F_partAt (Cond.code y_F_partAt c_F_partAt 3 (some .int) :: kG) rm_F_partAt (k_Pc D a c9 sz σ [.ref (a 1), .int x1, .int x2]) (k_Qi D a c9 r9 σo (k_A a c9 σ sz)) 0 0 (k_A a c9 σ sz) :=
  k_met (Qf := k_Qi D a c9 r9 σo) (by decide) (Nat.le_of_ble_eq_true rfl) (fun p e s m args below meth c A ls C0 hP hD hS hl => B_F_partAt_0 C0 σ x1 x2 s.heap [] ls hP hD hS hl h)
def rm_F_looksLike : Room := { frames := 0, cells := 0, slots := 0, locals := 0 }
def M_F_looksLike (σ : kS) (x1 x2 : Int32) : Option (Int32 × kS) := k_ld (σ.2.1 2) 240 (x1) fun v1 => k_ld (σ.2.1 2) 240 (x2) fun v2 => if v1 = v2 then (k_ld (σ.2.1 3) 240 (x1) fun v4 => k_ld (σ.2.1 3) 240 (x2) fun v5 => if v4 = v5 then (some (1, σ)) else (some (0, σ))) else (some (0, σ))
set_option maxHeartbeats 4000000 in
set_option maxRecDepth 100000 in
theorem B_F_looksLike_0 {p : Program} {l : Launch} {e : Env} {s : State} {m : MethodId} {args : Array Value} {below : List Frame} {meth : Method} {c : Code} {D : va_G} {a : Nat → Nat} {c9 : Nat → ClassId} {A : Nat → Prop} {r9 : Int32} {σo : kS} (C0 : k_Cx D c9 p s m args meth c R_F c_F_looksLike 3 (some .boolean) A) (σ : kS) (x1 x2 : Int32) (H : Heap) (locs : List Loc) (ls : Array Slot) (hP : va_P D kcl (kw a c9 σ) H) (hD : va_D A (kw a c9 σ)) (hS : va_S A s.heap H locs) (hl : lv_has ls 3 [(0, .ref (a 1)), (1, .int x1), (2, .int x2)]) (h : M_F_looksLike σ x1 x2 = some (r9, σo)) : W p l e rm_F_looksLike s m args below meth c H locs 0 0 (MQ below (k_Qi D a c9 r9 σo A) args s 0 0 A) (F0 m 0 ls []) := by
  obtain ⟨hx, hb, hml, hown, hts, hr, hlk, hK, hN, hA⟩ := id C0
  unfold M_F_looksLike at h
  refine lv_aload_n hx hb d_F_looksLike_0 rfl (lv_at hl 0 rfl) ?_
  refine va_get (ci := 2) (C := R_F) (T := T_F) (N := 13) hx hb hts in_F hown hK hP 1 kw_1 rfl 1 (by decide) (hts _ q_34) (fun _ h9 => h9) rfl d_F_looksLike_1 ?_
  refine lv_iload_n hx hb d_F_looksLike_4 rfl (lv_at hl 1 rfl) ?_
  obtain ⟨v1, ev1, hv1, h⟩ := k_ld_e h
  refine va_iald hx hb hK hP 9 0 kw_9 rfl hv1 d_F_looksLike_5 (k_top ev1 ?_)
  refine lv_aload_n hx hb d_F_looksLike_6 rfl (lv_at hl 0 rfl) ?_
  refine va_get (ci := 2) (C := R_F) (T := T_F) (N := 13) hx hb hts in_F hown hK hP 1 kw_1 rfl 1 (by decide) (hts _ q_34) (fun _ h9 => h9) rfl d_F_looksLike_7 ?_
  refine lv_iload_n hx hb d_F_looksLike_10 rfl (lv_at hl 2 rfl) ?_
  obtain ⟨v2, ev2, hv2, h⟩ := k_ld_e h
  refine va_iald hx hb hK hP 9 0 kw_9 rfl hv2 d_F_looksLike_11 (k_top ev2 ?_)
  refine lv_icmp_ne (tgt := 34) hx hb d_F_looksLike_12 (by decide) (fun c3 => ?_) (fun c3 => ?_)
  · replace h := (if_neg c3).symm.trans h
    refine lv_iconst (v := 0) hx hb d_F_looksLike_34 (by decide) ?_
    cases h
    exact k_zret (Or.inl rfl) hx hb hr hlk hP hS d_F_looksLike_35
  · replace h := (if_pos c3).symm.trans h
    refine lv_aload_n hx hb d_F_looksLike_15 rfl (lv_at hl 0 rfl) ?_
    refine va_get (ci := 2) (C := R_F) (T := T_F) (N := 13) hx hb hts in_F hown hK hP 1 kw_1 rfl 2 (by decide) (hts _ q_35) (fun _ h9 => h9) rfl d_F_looksLike_16 ?_
    refine lv_iload_n hx hb d_F_looksLike_19 rfl (lv_at hl 1 rfl) ?_
    obtain ⟨v4, ev4, hv4, h⟩ := k_ld_e h
    refine va_iald hx hb hK hP 10 0 kw_10 rfl hv4 d_F_looksLike_20 (k_top ev4 ?_)
    refine lv_aload_n hx hb d_F_looksLike_21 rfl (lv_at hl 0 rfl) ?_
    refine va_get (ci := 2) (C := R_F) (T := T_F) (N := 13) hx hb hts in_F hown hK hP 1 kw_1 rfl 2 (by decide) (hts _ q_35) (fun _ h9 => h9) rfl d_F_looksLike_22 ?_
    refine lv_iload_n hx hb d_F_looksLike_25 rfl (lv_at hl 2 rfl) ?_
    obtain ⟨v5, ev5, hv5, h⟩ := k_ld_e h
    refine va_iald hx hb hK hP 10 0 kw_10 rfl hv5 d_F_looksLike_26 (k_top ev5 ?_)
    refine lv_icmp_ne (tgt := 34) hx hb d_F_looksLike_27 (by decide) (fun c6 => ?_) (fun c6 => ?_)
    · replace h := (if_neg c6).symm.trans h
      refine lv_iconst (v := 0) hx hb d_F_looksLike_34 (by decide) ?_
      cases h
      exact k_zret (Or.inl rfl) hx hb hr hlk hP hS d_F_looksLike_35
    · replace h := (if_pos c6).symm.trans h
      refine lv_iconst (v := 1) hx hb d_F_looksLike_30 (by decide) ?_
      refine lv_goto (tgt := 35) hx hb d_F_looksLike_31 (by decide) ?_
      cases h
      exact k_zret (Or.inr rfl) hx hb hr hlk hP hS d_F_looksLike_35
theorem K_F_looksLike (l : Launch) (D : va_G) (a : Nat → Nat) (c9 : Nat → ClassId) (sz : Nat) {σ : kS} {x1 x2 : Int32} {r9 : Int32} {σo : kS} (h : M_F_looksLike σ x1 x2 = some (r9, σo)) : Met l y_F_looksLike (Cond.code y_F_looksLike c_F_looksLike 3 (some .boolean) :: kG) rm_F_looksLike (k_Pc D a c9 sz σ [.ref (a 1), .int x1, .int x2]) (k_Qi D a c9 r9 σo (k_A a c9 σ sz)) 0 0 (k_A a c9 σ sz) :=
  k_met (Qf := k_Qi D a c9 r9 σo) (by decide) (Nat.le_of_ble_eq_true rfl) (fun p e s m args below meth c A ls C0 hP hD hS hl => B_F_looksLike_0 C0 σ x1 x2 s.heap [] ls hP hD hS hl h)
def rm_F_mayTake : Room := { frames := 0, cells := 0, slots := 0, locals := 0 }
def M_F_mayTake (σ : kS) (x1 x2 : Int32) : Option (Int32 × kS) := k_ld (σ.2.1 2) 240 (x1) fun v1 => if v1 = 1 then (k_ld (σ.2.1 6) 240 (x1) fun v3 => if v3 = 0 then (if x2 = x1 then (some (0, σ)) else (k_ld (σ.2.1 7) 240 (x2) fun v6 => if 20 ≤ v6 then (some (0, σ)) else (k_ld (σ.2.1 8) 240 (x1) fun v8 => k_ld (σ.2.1 8) 240 (x2) fun v9 => if 70 < (v8 + v9) then (some (0, σ)) else (some (1, σ))))) else (some (0, σ))) else (some (0, σ))
set_option maxHeartbeats 4000000 in
set_option maxRecDepth 100000 in
theorem B_F_mayTake_0 {p : Program} {l : Launch} {e : Env} {s : State} {m : MethodId} {args : Array Value} {below : List Frame} {meth : Method} {c : Code} {D : va_G} {a : Nat → Nat} {c9 : Nat → ClassId} {A : Nat → Prop} {r9 : Int32} {σo : kS} (C0 : k_Cx D c9 p s m args meth c R_F c_F_mayTake 3 (some .boolean) A) (σ : kS) (x1 x2 : Int32) (H : Heap) (locs : List Loc) (ls : Array Slot) (hP : va_P D kcl (kw a c9 σ) H) (hD : va_D A (kw a c9 σ)) (hS : va_S A s.heap H locs) (hl : lv_has ls 3 [(0, .ref (a 1)), (1, .int x1), (2, .int x2)]) (h : M_F_mayTake σ x1 x2 = some (r9, σo)) : W p l e rm_F_mayTake s m args below meth c H locs 0 0 (MQ below (k_Qi D a c9 r9 σo A) args s 0 0 A) (F0 m 0 ls []) := by
  obtain ⟨hx, hb, hml, hown, hts, hr, hlk, hK, hN, hA⟩ := id C0
  unfold M_F_mayTake at h
  refine lv_aload_n hx hb d_F_mayTake_0 rfl (lv_at hl 0 rfl) ?_
  refine va_get (ci := 2) (C := R_F) (T := T_F) (N := 13) hx hb hts in_F hown hK hP 1 kw_1 rfl 1 (by decide) (hts _ q_34) (fun _ h9 => h9) rfl d_F_mayTake_1 ?_
  refine lv_iload_n hx hb d_F_mayTake_4 rfl (lv_at hl 1 rfl) ?_
  obtain ⟨v1, ev1, hv1, h⟩ := k_ld_e h
  refine va_iald hx hb hK hP 9 0 kw_9 rfl hv1 d_F_mayTake_5 (k_top ev1 ?_)
  refine lv_iconst (v := 1) hx hb d_F_mayTake_6 (by decide) ?_
  refine lv_icmp_ne (tgt := 57) hx hb d_F_mayTake_7 (by decide) (fun c2 => ?_) (fun c2 => ?_)
  · replace h := (if_neg c2).symm.trans h
    refine lv_iconst (v := 0) hx hb d_F_mayTake_57 (by decide) ?_
    cases h
    exact k_zret (Or.inl rfl) hx hb hr hlk hP hS d_F_mayTake_58
  · replace h := (if_pos c2).symm.trans h
    refine lv_aload_n hx hb d_F_mayTake_10 rfl (lv_at hl 0 rfl) ?_
    refine va_get (ci := 2) (C := R_F) (T := T_F) (N := 13) hx hb hts in_F hown hK hP 1 kw_1 rfl 5 (by decide) (hts _ q_38) (fun _ h9 => h9) rfl d_F_mayTake_11 ?_
    refine lv_iload_n hx hb d_F_mayTake_14 rfl (lv_at hl 1 rfl) ?_
    obtain ⟨v3, ev3, hv3, h⟩ := k_ld_e h
    refine va_zald hx hb hK hP 13 1 kw_13 rfl hv3 d_F_mayTake_15 (k_top ev3 ?_)
    refine lv_if_ne (tgt := 57) hx hb d_F_mayTake_16 (by decide) (fun c4 => ?_) (fun c4 => ?_)
    · replace h := (if_neg c4).symm.trans h
      refine lv_iconst (v := 0) hx hb d_F_mayTake_57 (by decide) ?_
      cases h
      exact k_zret (Or.inl rfl) hx hb hr hlk hP hS d_F_mayTake_58
    · replace h := (if_pos c4).symm.trans h
      refine lv_iload_n hx hb d_F_mayTake_19 rfl (lv_at hl 2 rfl) ?_
      refine lv_iload_n hx hb d_F_mayTake_20 rfl (lv_at hl 1 rfl) ?_
      refine lv_icmp_eq (tgt := 57) hx hb d_F_mayTake_21 (by decide) (fun c5 => ?_) (fun c5 => ?_)
      · replace h := (if_pos c5).symm.trans h
        refine lv_iconst (v := 0) hx hb d_F_mayTake_57 (by decide) ?_
        cases h
        exact k_zret (Or.inl rfl) hx hb hr hlk hP hS d_F_mayTake_58
      · replace h := (if_neg c5).symm.trans h
        refine lv_aload_n hx hb d_F_mayTake_24 rfl (lv_at hl 0 rfl) ?_
        refine va_get (ci := 2) (C := R_F) (T := T_F) (N := 13) hx hb hts in_F hown hK hP 1 kw_1 rfl 6 (by decide) (hts _ q_39) (fun _ h9 => h9) rfl d_F_mayTake_25 ?_
        refine lv_iload_n hx hb d_F_mayTake_28 rfl (lv_at hl 2 rfl) ?_
        obtain ⟨v6, ev6, hv6, h⟩ := k_ld_e h
        refine va_iald hx hb hK hP 14 0 kw_14 rfl hv6 d_F_mayTake_29 (k_top ev6 ?_)
        refine lv_bipush (v := 20) hx hb d_F_mayTake_30 (by decide) ?_
        refine lv_icmp_ge (tgt := 57) hx hb d_F_mayTake_32 (by decide) (fun c7 => ?_) (fun c7 => ?_)
        · replace h := (if_pos c7).symm.trans h
          refine lv_iconst (v := 0) hx hb d_F_mayTake_57 (by decide) ?_
          cases h
          exact k_zret (Or.inl rfl) hx hb hr hlk hP hS d_F_mayTake_58
        · replace h := (if_neg c7).symm.trans h
          refine lv_aload_n hx hb d_F_mayTake_35 rfl (lv_at hl 0 rfl) ?_
          refine va_get (ci := 2) (C := R_F) (T := T_F) (N := 13) hx hb hts in_F hown hK hP 1 kw_1 rfl 7 (by decide) (hts _ q_40) (fun _ h9 => h9) rfl d_F_mayTake_36 ?_
          refine lv_iload_n hx hb d_F_mayTake_39 rfl (lv_at hl 1 rfl) ?_
          obtain ⟨v8, ev8, hv8, h⟩ := k_ld_e h
          refine va_iald hx hb hK hP 15 0 kw_15 rfl hv8 d_F_mayTake_40 (k_top ev8 ?_)
          refine lv_aload_n hx hb d_F_mayTake_41 rfl (lv_at hl 0 rfl) ?_
          refine va_get (ci := 2) (C := R_F) (T := T_F) (N := 13) hx hb hts in_F hown hK hP 1 kw_1 rfl 7 (by decide) (hts _ q_40) (fun _ h9 => h9) rfl d_F_mayTake_42 ?_
          refine lv_iload_n hx hb d_F_mayTake_45 rfl (lv_at hl 2 rfl) ?_
          obtain ⟨v9, ev9, hv9, h⟩ := k_ld_e h
          refine va_iald hx hb hK hP 15 0 kw_15 rfl hv9 d_F_mayTake_46 (k_top ev9 ?_)
          refine lv_iadd hx hb d_F_mayTake_47 ?_
          refine lv_bipush (v := 70) hx hb d_F_mayTake_48 (by decide) ?_
          refine lv_icmp_gt (tgt := 57) hx hb d_F_mayTake_50 (by decide) (fun c10 => ?_) (fun c10 => ?_)
          · replace h := (if_pos c10).symm.trans h
            refine lv_iconst (v := 0) hx hb d_F_mayTake_57 (by decide) ?_
            cases h
            exact k_zret (Or.inl rfl) hx hb hr hlk hP hS d_F_mayTake_58
          · replace h := (if_neg c10).symm.trans h
            refine lv_iconst (v := 1) hx hb d_F_mayTake_53 (by decide) ?_
            refine lv_goto (tgt := 58) hx hb d_F_mayTake_54 (by decide) ?_
            cases h
            exact k_zret (Or.inr rfl) hx hb hr hlk hP hS d_F_mayTake_58
theorem K_F_mayTake (l : Launch) (D : va_G) (a : Nat → Nat) (c9 : Nat → ClassId) (sz : Nat) {σ : kS} {x1 x2 : Int32} {r9 : Int32} {σo : kS} (h : M_F_mayTake σ x1 x2 = some (r9, σo)) : Met l y_F_mayTake (Cond.code y_F_mayTake c_F_mayTake 3 (some .boolean) :: kG) rm_F_mayTake (k_Pc D a c9 sz σ [.ref (a 1), .int x1, .int x2]) (k_Qi D a c9 r9 σo (k_A a c9 σ sz)) 0 0 (k_A a c9 σ sz) :=
  k_met (Qf := k_Qi D a c9 r9 σo) (by decide) (Nat.le_of_ble_eq_true rfl) (fun p e s m args below meth c A ls C0 hP hD hS hl => B_F_mayTake_0 C0 σ x1 x2 s.heap [] ls hP hD hS hl h)
def rm_F_compareFrom (d : Nat) : Room := { frames := d + 0, cells := 0, slots := 0, locals := d * 28 + 0 }
def M_F_compareFrom_124_b (selfR : kS → Int32 → Int32 → Int32 → Option (Int32 × kS)) (self9 : kS → Int32 → Int32 → Int32 → Int32 → Int32 → Option (Int32 × kS)) (σ : kS) (x1 x2 x3 x4 x5 : Int32) : Option (Int32 × kS) := if x4 ≤ x5 then (some (0, σ)) else (k_ld (σ.2.1 10) 2880 (((x1 * 12) + x5)) fun v2 => k_ld (σ.2.1 10) 2880 (((x2 * 12) + x5)) fun v3 => k_call (selfR σ v2 v3 ((x3 + 1))) fun v4 σ5 => if v4 = 0 then (k_let (x5 + 1) fun v8 => self9 σ5 x1 x2 x3 x4 v8) else (some (v4, σ5)))
def M_F_compareFrom_124 (selfR : kS → Int32 → Int32 → Int32 → Option (Int32 × kS)) : Nat → kS → Int32 → Int32 → Int32 → Int32 → Int32 → Option (Int32 × kS)
  | 0 => fun _ _ _ _ _ _ => none
  | n + 1 => M_F_compareFrom_124_b selfR (M_F_compareFrom_124 selfR n)
set_option maxHeartbeats 4000000 in
set_option maxRecDepth 100000 in
theorem B_F_compareFrom_124 {p : Program} {l : Launch} {e : Env} {s : State} {m : MethodId} {args : Array Value} {below : List Frame} {meth : Method} {c : Code} {D : va_G} {a : Nat → Nat} {c9 : Nat → ClassId} {A : Nat → Prop} {r9 : Int32} {σo : kS} (C0 : k_Cx D c9 p s m args meth c R_F c_F_compareFrom 9 (some .int) A) {d : Nat} {selfR : kS → Int32 → Int32 → Int32 → Option (Int32 × kS)} (hR : ∀ (sz : Nat) {σ : kS} {z0 z1 z2 : Int32} {r : Int32} {σ' : kS}, selfR σ z0 z1 z2 = some (r, σ') → Met l y_F_compareFrom (Cond.code y_F_compareFrom c_F_compareFrom 9 (some .int) :: kG) (rm_F_compareFrom d) (k_Pc D a c9 sz σ [.ref (a 1), .int z0, .int z1, .int z2]) (k_Qi D a c9 r σ' (k_A a c9 σ sz)) 0 0 (k_A a c9 σ sz)) : ∀ (n : Nat) (σ : kS) (x1 x2 x3 x4 x5 : Int32) (H : Heap) (locs : List Loc) (ls : Array Slot), va_P D kcl (kw a c9 σ) H → va_D A (kw a c9 σ) → va_S A s.heap H locs → lv_has ls 9 [(0, .ref (a 1)), (1, .int x1), (2, .int x2), (3, .int x3), (4, .int x4), (5, .int x5)] → M_F_compareFrom_124 selfR n σ x1 x2 x3 x4 x5 = some (r9, σo) → W p l e (rm_F_compareFrom (d + 1)) s m args below meth c H locs 0 0 (MQ below (k_Qi D a c9 r9 σo A) args s 0 0 A) (F0 m 124 ls []) := by
  obtain ⟨hx, hb, hml, hown, hts, hr, hlk, hK, hN, hA⟩ := id C0
  intro n
  induction n with
  | zero =>
    intro σ x1 x2 x3 x4 x5 H locs ls hP hD hS hl h
    replace h : (none : Option (Int32 × kS)) = some (r9, σo) := h
    cases h
  | succ n ih =>
    intro σ x1 x2 x3 x4 x5 H locs ls hP hD hS hl h
    replace h : M_F_compareFrom_124_b selfR (M_F_compareFrom_124 selfR n) σ x1 x2 x3 x4 x5 = some (r9, σo) := h
    unfold M_F_compareFrom_124_b at h
    refine lv_iload hx hb d_F_compareFrom_124 (lv_at hl 5 rfl) ?_
    refine lv_iload hx hb d_F_compareFrom_126 (lv_at hl 4 rfl) ?_
    refine lv_icmp_ge (tgt := 186) hx hb d_F_compareFrom_128 (by decide) (fun c1 => ?_) (fun c1 => ?_)
    · replace h := (if_pos c1).symm.trans h
      refine lv_iconst (v := 0) hx hb d_F_compareFrom_186 (by decide) ?_
      cases h
      exact k_iret hx hb hr hlk hP hS d_F_compareFrom_187
    · replace h := (if_neg c1).symm.trans h
      refine lv_aload_n hx hb d_F_compareFrom_131 rfl (lv_at hl 0 rfl) ?_
      refine va_get (ci := 2) (C := R_F) (T := T_F) (N := 13) hx hb hts in_F hown hK hP 1 kw_1 rfl 9 (by decide) (hts _ q_42) (fun _ h9 => h9) rfl d_F_compareFrom_132 ?_
      refine lv_iload_n hx hb d_F_compareFrom_135 rfl (lv_at hl 1 rfl) ?_
      refine lv_bipush (v := 12) hx hb d_F_compareFrom_136 (by decide) ?_
      refine lv_imul hx hb d_F_compareFrom_138 ?_
      refine lv_iload hx hb d_F_compareFrom_139 (lv_at hl 5 rfl) ?_
      refine lv_iadd hx hb d_F_compareFrom_141 ?_
      obtain ⟨v2, ev2, hv2, h⟩ := k_ld_e h
      refine va_iald hx hb hK hP 17 0 kw_17 rfl hv2 d_F_compareFrom_142 (k_top ev2 ?_)
      refine lv_istore (lv' := [(6, .int v2), (0, .ref (a 1)), (1, .int x1), (2, .int x2), (3, .int x3), (4, .int x4), (5, .int x5)]) hx hb d_F_compareFrom_143 hl (by decide) rfl (fun ls hl => ?_)
      refine lv_aload_n hx hb d_F_compareFrom_145 rfl (lv_at hl 1 rfl) ?_
      refine va_get (ci := 2) (C := R_F) (T := T_F) (N := 13) hx hb hts in_F hown hK hP 1 kw_1 rfl 9 (by decide) (hts _ q_42) (fun _ h9 => h9) rfl d_F_compareFrom_146 ?_
      refine lv_iload_n hx hb d_F_compareFrom_149 rfl (lv_at hl 3 rfl) ?_
      refine lv_bipush (v := 12) hx hb d_F_compareFrom_150 (by decide) ?_
      refine lv_imul hx hb d_F_compareFrom_152 ?_
      refine lv_iload hx hb d_F_compareFrom_153 (lv_at hl 6 rfl) ?_
      refine lv_iadd hx hb d_F_compareFrom_155 ?_
      obtain ⟨v3, ev3, hv3, h⟩ := k_ld_e h
      refine va_iald hx hb hK hP 17 0 kw_17 rfl hv3 d_F_compareFrom_156 (k_top ev3 ?_)
      refine lv_istore (lv' := [(7, .int v3), (6, .int v2), (0, .ref (a 1)), (1, .int x1), (2, .int x2), (3, .int x3), (4, .int x4), (5, .int x5)]) hx hb d_F_compareFrom_157 hl (by decide) rfl (fun ls hl => ?_)
      refine lv_aload_n hx hb d_F_compareFrom_159 rfl (lv_at hl 2 rfl) ?_
      refine lv_iload hx hb d_F_compareFrom_160 (lv_at hl 1 rfl) ?_
      refine lv_iload hx hb d_F_compareFrom_162 (lv_at hl 0 rfl) ?_
      refine lv_iload_n hx hb d_F_compareFrom_164 rfl (lv_at hl 5 rfl) ?_
      refine lv_iconst (v := 1) hx hb d_F_compareFrom_165 (by decide) ?_
      refine lv_iadd hx hb d_F_compareFrom_166 ?_
      obtain ⟨v4, σ5, hc6, h⟩ := k_call_e h
      refine k_calli (va_runS (As := [.ref (a 1), .int v2, .int v3, .int ((x3 + 1))]) (rest := []) ⟨hx, hb, hml, hown, hts⟩ (hR H.size hc6) (va_cwS 4 hts (k_gS q_393 q_394 q_2 q_395) rfl rfl rfl h_F_compareFrom.2 ⟨by simp only [rm_F_compareFrom, rm_F_compareFrom]; omega, by simp only [rm_F_compareFrom, rm_F_compareFrom]; omega⟩) (k_preS hP hK hN hD) rfl rfl hl.1 rfl (lv_room (Nat.le_of_ble_eq_true rfl)) d_F_compareFrom_167 ⟨Nat.zero_le _, Nat.zero_le _⟩) hD hS hA (fun H locs hP hD hS => ?_)
      refine lv_istore (lv' := [(8, .int v4), (7, .int v3), (6, .int v2), (0, .ref (a 1)), (1, .int x1), (2, .int x2), (3, .int x3), (4, .int x4), (5, .int x5)]) hx hb d_F_compareFrom_170 hl (by decide) rfl (fun ls hl => ?_)
      refine lv_iload hx hb d_F_compareFrom_172 (lv_at hl 0 rfl) ?_
      refine lv_if_eq (tgt := 180) hx hb d_F_compareFrom_174 (by decide) (fun c7 => ?_) (fun c7 => ?_)
      · replace h := (if_pos c7).symm.trans h
        obtain ⟨v8, ev8, h⟩ := k_let_e h
        refine lv_iinc (v := v8) (lv' := [(5, .int v8), (8, .int v4), (7, .int v3), (6, .int v2), (0, .ref (a 1)), (1, .int x1), (2, .int x2), (3, .int x3), (4, .int x4)]) hx hb d_F_compareFrom_180 hl (k := 8) rfl (by rw [ev8]; rfl) (by decide) rfl (fun ls hl => ?_)
        refine lv_goto (tgt := 124) hx hb d_F_compareFrom_183 (by decide) ?_
        exact ih _ _ _ _ _ _ H locs ls hP hD hS (lv_sub hl [4, 5, 6, 7, 8, 0] rfl) h
      · replace h := (if_neg c7).symm.trans h
        refine lv_iload hx hb d_F_compareFrom_177 (lv_at hl 0 rfl) ?_
        cases h
        exact k_iret hx hb hr hlk hP hS d_F_compareFrom_179
def M_F_compareFrom (selfR : kS → Int32 → Int32 → Int32 → Option (Int32 × kS)) (σ : kS) (x1 x2 x3 : Int32) : Option (Int32 × kS) := if x1 = x2 then (some (0, σ)) else (if x3 ≤ 20 then (k_ld (σ.2.1 2) 240 (x1) fun v3 => k_ld (σ.2.1 2) 240 (x2) fun v4 => if v3 = v4 then (k_ld (σ.2.1 3) 240 (x1) fun v6 => k_ld (σ.2.1 3) 240 (x2) fun v7 => if v6 = v7 then (k_ld (σ.2.1 9) 240 (x1) fun v9 => k_ld (σ.2.1 9) 240 (x2) fun v10 => if v9 = v10 then (M_F_compareFrom_124 selfR k_fu σ x1 x2 x3 v9 0) else (k_ld (σ.2.1 9) 240 (x2) fun v12 => if v12 ≤ v9 then (some (1, σ)) else (some ((-1), σ)))) else (k_ld (σ.2.1 3) 240 (x1) fun v14 => k_ld (σ.2.1 3) 240 (x2) fun v15 => if v15 ≤ v14 then (some (1, σ)) else (some ((-1), σ)))) else (k_ld (σ.2.1 2) 240 (x1) fun v17 => k_ld (σ.2.1 2) 240 (x2) fun v18 => if v18 ≤ v17 then (some (1, σ)) else (some ((-1), σ)))) else (some (0, σ)))
set_option maxHeartbeats 4000000 in
set_option maxRecDepth 100000 in
theorem B_F_compareFrom_0 {p : Program} {l : Launch} {e : Env} {s : State} {m : MethodId} {args : Array Value} {below : List Frame} {meth : Method} {c : Code} {D : va_G} {a : Nat → Nat} {c9 : Nat → ClassId} {A : Nat → Prop} {r9 : Int32} {σo : kS} (C0 : k_Cx D c9 p s m args meth c R_F c_F_compareFrom 9 (some .int) A) {d : Nat} {selfR : kS → Int32 → Int32 → Int32 → Option (Int32 × kS)} (hR : ∀ (sz : Nat) {σ : kS} {z0 z1 z2 : Int32} {r : Int32} {σ' : kS}, selfR σ z0 z1 z2 = some (r, σ') → Met l y_F_compareFrom (Cond.code y_F_compareFrom c_F_compareFrom 9 (some .int) :: kG) (rm_F_compareFrom d) (k_Pc D a c9 sz σ [.ref (a 1), .int z0, .int z1, .int z2]) (k_Qi D a c9 r σ' (k_A a c9 σ sz)) 0 0 (k_A a c9 σ sz)) (σ : kS) (x1 x2 x3 : Int32) (H : Heap) (locs : List Loc) (ls : Array Slot) (hP : va_P D kcl (kw a c9 σ) H) (hD : va_D A (kw a c9 σ)) (hS : va_S A s.heap H locs) (hl : lv_has ls 9 [(0, .ref (a 1)), (1, .int x1), (2, .int x2), (3, .int x3)]) (h : M_F_compareFrom selfR σ x1 x2 x3 = some (r9, σo)) : W p l e (rm_F_compareFrom (d + 1)) s m args below meth c H locs 0 0 (MQ below (k_Qi D a c9 r9 σo A) args s 0 0 A) (F0 m 0 ls []) := by
  obtain ⟨hx, hb, hml, hown, hts, hr, hlk, hK, hN, hA⟩ := id C0
  unfold M_F_compareFrom at h
  refine lv_iload_n hx hb d_F_compareFrom_0 rfl (lv_at hl 1 rfl) ?_
  refine lv_iload_n hx hb d_F_compareFrom_1 rfl (lv_at hl 2 rfl) ?_
  refine lv_icmp_eq (tgt := 11) hx hb d_F_compareFrom_2 (by decide) (fun c1 => ?_) (fun c1 => ?_)
  · replace h := (if_pos c1).symm.trans h
    refine lv_iconst (v := 0) hx hb d_F_compareFrom_11 (by decide) ?_
    cases h
    exact k_iret hx hb hr hlk hP hS d_F_compareFrom_12
  · replace h := (if_neg c1).symm.trans h
    refine lv_iload_n hx hb d_F_compareFrom_5 rfl (lv_at hl 3 rfl) ?_
    refine lv_bipush (v := 20) hx hb d_F_compareFrom_6 (by decide) ?_
    refine lv_icmp_le (tgt := 13) hx hb d_F_compareFrom_8 (by decide) (fun c2 => ?_) (fun c2 => ?_)
    · replace h := (if_pos c2).symm.trans h
      refine lv_aload_n hx hb d_F_compareFrom_13 rfl (lv_at hl 0 rfl) ?_
      refine va_get (ci := 2) (C := R_F) (T := T_F) (N := 13) hx hb hts in_F hown hK hP 1 kw_1 rfl 1 (by decide) (hts _ q_34) (fun _ h9 => h9) rfl d_F_compareFrom_14 ?_
      refine lv_iload_n hx hb d_F_compareFrom_17 rfl (lv_at hl 1 rfl) ?_
      obtain ⟨v3, ev3, hv3, h⟩ := k_ld_e h
      refine va_iald hx hb hK hP 9 0 kw_9 rfl hv3 d_F_compareFrom_18 (k_top ev3 ?_)
      refine lv_aload_n hx hb d_F_compareFrom_19 rfl (lv_at hl 0 rfl) ?_
      refine va_get (ci := 2) (C := R_F) (T := T_F) (N := 13) hx hb hts in_F hown hK hP 1 kw_1 rfl 1 (by decide) (hts _ q_34) (fun _ h9 => h9) rfl d_F_compareFrom_20 ?_
      refine lv_iload_n hx hb d_F_compareFrom_23 rfl (lv_at hl 2 rfl) ?_
      obtain ⟨v4, ev4, hv4, h⟩ := k_ld_e h
      refine va_iald hx hb hK hP 9 0 kw_9 rfl hv4 d_F_compareFrom_24 (k_top ev4 ?_)
      refine lv_icmp_eq (tgt := 49) hx hb d_F_compareFrom_25 (by decide) (fun c5 => ?_) (fun c5 => ?_)
      · replace h := (if_pos c5).symm.trans h
        refine lv_aload_n hx hb d_F_compareFrom_49 rfl (lv_at hl 0 rfl) ?_
        refine va_get (ci := 2) (C := R_F) (T := T_F) (N := 13) hx hb hts in_F hown hK hP 1 kw_1 rfl 2 (by decide) (hts _ q_35) (fun _ h9 => h9) rfl d_F_compareFrom_50 ?_
        refine lv_iload_n hx hb d_F_compareFrom_53 rfl (lv_at hl 1 rfl) ?_
        obtain ⟨v6, ev6, hv6, h⟩ := k_ld_e h
        refine va_iald hx hb hK hP 10 0 kw_10 rfl hv6 d_F_compareFrom_54 (k_top ev6 ?_)
        refine lv_aload_n hx hb d_F_compareFrom_55 rfl (lv_at hl 0 rfl) ?_
        refine va_get (ci := 2) (C := R_F) (T := T_F) (N := 13) hx hb hts in_F hown hK hP 1 kw_1 rfl 2 (by decide) (hts _ q_35) (fun _ h9 => h9) rfl d_F_compareFrom_56 ?_
        refine lv_iload_n hx hb d_F_compareFrom_59 rfl (lv_at hl 2 rfl) ?_
        obtain ⟨v7, ev7, hv7, h⟩ := k_ld_e h
        refine va_iald hx hb hK hP 10 0 kw_10 rfl hv7 d_F_compareFrom_60 (k_top ev7 ?_)
        refine lv_icmp_eq (tgt := 85) hx hb d_F_compareFrom_61 (by decide) (fun c8 => ?_) (fun c8 => ?_)
        · replace h := (if_pos c8).symm.trans h
          refine lv_aload_n hx hb d_F_compareFrom_85 rfl (lv_at hl 0 rfl) ?_
          refine va_get (ci := 2) (C := R_F) (T := T_F) (N := 13) hx hb hts in_F hown hK hP 1 kw_1 rfl 8 (by decide) (hts _ q_41) (fun _ h9 => h9) rfl d_F_compareFrom_86 ?_
          refine lv_iload_n hx hb d_F_compareFrom_89 rfl (lv_at hl 1 rfl) ?_
          obtain ⟨v9, ev9, hv9, h⟩ := k_ld_e h
          refine va_iald hx hb hK hP 16 0 kw_16 rfl hv9 d_F_compareFrom_90 (k_top ev9 ?_)
          refine lv_istore (lv' := [(4, .int v9), (0, .ref (a 1)), (1, .int x1), (2, .int x2), (3, .int x3)]) hx hb d_F_compareFrom_91 hl (by decide) rfl (fun ls hl => ?_)
          refine lv_iload hx hb d_F_compareFrom_93 (lv_at hl 0 rfl) ?_
          refine lv_aload_n hx hb d_F_compareFrom_95 rfl (lv_at hl 1 rfl) ?_
          refine va_get (ci := 2) (C := R_F) (T := T_F) (N := 13) hx hb hts in_F hown hK hP 1 kw_1 rfl 8 (by decide) (hts _ q_41) (fun _ h9 => h9) rfl d_F_compareFrom_96 ?_
          refine lv_iload_n hx hb d_F_compareFrom_99 rfl (lv_at hl 3 rfl) ?_
          obtain ⟨v10, ev10, hv10, h⟩ := k_ld_e h
          refine va_iald hx hb hK hP 16 0 kw_16 rfl hv10 d_F_compareFrom_100 (k_top ev10 ?_)
          refine lv_icmp_eq (tgt := 121) hx hb d_F_compareFrom_101 (by decide) (fun c11 => ?_) (fun c11 => ?_)
          · replace h := (if_pos c11).symm.trans h
            refine lv_iconst (v := 0) hx hb d_F_compareFrom_121 (by decide) ?_
            refine lv_istore (lv' := [(5, .int 0), (4, .int v9), (0, .ref (a 1)), (1, .int x1), (2, .int x2), (3, .int x3)]) hx hb d_F_compareFrom_122 hl (by decide) rfl (fun ls hl => ?_)
            exact B_F_compareFrom_124 C0 hR k_fu _ _ _ _ _ _ H locs ls hP hD hS (lv_sub hl [2, 3, 4, 5, 1, 0] rfl) h
          · replace h := (if_neg c11).symm.trans h
            refine lv_iload hx hb d_F_compareFrom_104 (lv_at hl 0 rfl) ?_
            refine lv_aload_n hx hb d_F_compareFrom_106 rfl (lv_at hl 1 rfl) ?_
            refine va_get (ci := 2) (C := R_F) (T := T_F) (N := 13) hx hb hts in_F hown hK hP 1 kw_1 rfl 8 (by decide) (hts _ q_41) (fun _ h9 => h9) rfl d_F_compareFrom_107 ?_
            refine lv_iload_n hx hb d_F_compareFrom_110 rfl (lv_at hl 3 rfl) ?_
            obtain ⟨v12, ev12, hv12, h⟩ := k_ld_e h
            refine va_iald hx hb hK hP 16 0 kw_16 rfl hv12 d_F_compareFrom_111 (k_top ev12 ?_)
            refine lv_icmp_ge (tgt := 119) hx hb d_F_compareFrom_112 (by decide) (fun c13 => ?_) (fun c13 => ?_)
            · replace h := (if_pos c13).symm.trans h
              refine lv_iconst (v := 1) hx hb d_F_compareFrom_119 (by decide) ?_
              cases h
              exact k_iret hx hb hr hlk hP hS d_F_compareFrom_120
            · replace h := (if_neg c13).symm.trans h
              refine lv_iconst (v := (-1)) hx hb d_F_compareFrom_115 (by decide) ?_
              refine lv_goto (tgt := 120) hx hb d_F_compareFrom_116 (by decide) ?_
              cases h
              exact k_iret hx hb hr hlk hP hS d_F_compareFrom_120
        · replace h := (if_neg c8).symm.trans h
          refine lv_aload_n hx hb d_F_compareFrom_64 rfl (lv_at hl 0 rfl) ?_
          refine va_get (ci := 2) (C := R_F) (T := T_F) (N := 13) hx hb hts in_F hown hK hP 1 kw_1 rfl 2 (by decide) (hts _ q_35) (fun _ h9 => h9) rfl d_F_compareFrom_65 ?_
          refine lv_iload_n hx hb d_F_compareFrom_68 rfl (lv_at hl 1 rfl) ?_
          obtain ⟨v14, ev14, hv14, h⟩ := k_ld_e h
          refine va_iald hx hb hK hP 10 0 kw_10 rfl hv14 d_F_compareFrom_69 (k_top ev14 ?_)
          refine lv_aload_n hx hb d_F_compareFrom_70 rfl (lv_at hl 0 rfl) ?_
          refine va_get (ci := 2) (C := R_F) (T := T_F) (N := 13) hx hb hts in_F hown hK hP 1 kw_1 rfl 2 (by decide) (hts _ q_35) (fun _ h9 => h9) rfl d_F_compareFrom_71 ?_
          refine lv_iload_n hx hb d_F_compareFrom_74 rfl (lv_at hl 2 rfl) ?_
          obtain ⟨v15, ev15, hv15, h⟩ := k_ld_e h
          refine va_iald hx hb hK hP 10 0 kw_10 rfl hv15 d_F_compareFrom_75 (k_top ev15 ?_)
          refine lv_icmp_ge (tgt := 83) hx hb d_F_compareFrom_76 (by decide) (fun c16 => ?_) (fun c16 => ?_)
          · replace h := (if_pos c16).symm.trans h
            refine lv_iconst (v := 1) hx hb d_F_compareFrom_83 (by decide) ?_
            cases h
            exact k_iret hx hb hr hlk hP hS d_F_compareFrom_84
          · replace h := (if_neg c16).symm.trans h
            refine lv_iconst (v := (-1)) hx hb d_F_compareFrom_79 (by decide) ?_
            refine lv_goto (tgt := 84) hx hb d_F_compareFrom_80 (by decide) ?_
            cases h
            exact k_iret hx hb hr hlk hP hS d_F_compareFrom_84
      · replace h := (if_neg c5).symm.trans h
        refine lv_aload_n hx hb d_F_compareFrom_28 rfl (lv_at hl 0 rfl) ?_
        refine va_get (ci := 2) (C := R_F) (T := T_F) (N := 13) hx hb hts in_F hown hK hP 1 kw_1 rfl 1 (by decide) (hts _ q_34) (fun _ h9 => h9) rfl d_F_compareFrom_29 ?_
        refine lv_iload_n hx hb d_F_compareFrom_32 rfl (lv_at hl 1 rfl) ?_
        obtain ⟨v17, ev17, hv17, h⟩ := k_ld_e h
        refine va_iald hx hb hK hP 9 0 kw_9 rfl hv17 d_F_compareFrom_33 (k_top ev17 ?_)
        refine lv_aload_n hx hb d_F_compareFrom_34 rfl (lv_at hl 0 rfl) ?_
        refine va_get (ci := 2) (C := R_F) (T := T_F) (N := 13) hx hb hts in_F hown hK hP 1 kw_1 rfl 1 (by decide) (hts _ q_34) (fun _ h9 => h9) rfl d_F_compareFrom_35 ?_
        refine lv_iload_n hx hb d_F_compareFrom_38 rfl (lv_at hl 2 rfl) ?_
        obtain ⟨v18, ev18, hv18, h⟩ := k_ld_e h
        refine va_iald hx hb hK hP 9 0 kw_9 rfl hv18 d_F_compareFrom_39 (k_top ev18 ?_)
        refine lv_icmp_ge (tgt := 47) hx hb d_F_compareFrom_40 (by decide) (fun c19 => ?_) (fun c19 => ?_)
        · replace h := (if_pos c19).symm.trans h
          refine lv_iconst (v := 1) hx hb d_F_compareFrom_47 (by decide) ?_
          cases h
          exact k_iret hx hb hr hlk hP hS d_F_compareFrom_48
        · replace h := (if_neg c19).symm.trans h
          refine lv_iconst (v := (-1)) hx hb d_F_compareFrom_43 (by decide) ?_
          refine lv_goto (tgt := 48) hx hb d_F_compareFrom_44 (by decide) ?_
          cases h
          exact k_iret hx hb hr hlk hP hS d_F_compareFrom_48
    · replace h := (if_neg c2).symm.trans h
      refine lv_iconst (v := 0) hx hb d_F_compareFrom_11 (by decide) ?_
      cases h
      exact k_iret hx hb hr hlk hP hS d_F_compareFrom_12
def M_F_compareFrom_r : Nat → kS → Int32 → Int32 → Int32 → Option (Int32 × kS)
  | 0 => fun _ _ _ _ => none
  | d + 1 => M_F_compareFrom (M_F_compareFrom_r d)
theorem K_F_compareFrom (l : Launch) (D : va_G) (a : Nat → Nat) (c9 : Nat → ClassId) : ∀ (d sz : Nat) {σ : kS} {x1 x2 x3 : Int32} {r9 : Int32} {σo : kS}, M_F_compareFrom_r d σ x1 x2 x3 = some (r9, σo) → Met l y_F_compareFrom (Cond.code y_F_compareFrom c_F_compareFrom 9 (some .int) :: kG) (rm_F_compareFrom d) (k_Pc D a c9 sz σ [.ref (a 1), .int x1, .int x2, .int x3]) (k_Qi D a c9 r9 σo (k_A a c9 σ sz)) 0 0 (k_A a c9 σ sz) := by
  intro d
  induction d with
  | zero => intro sz σ x1 x2 x3 r9 σo h; replace h : (none : Option (Int32 × kS)) = some (r9, σo) := h; cases h
  | succ d ih =>
    intro sz σ x1 x2 x3 r9 σo h
    exact k_met (Qf := k_Qi D a c9 r9 σo) (by decide) (Nat.le_of_ble_eq_true rfl) (fun p e s m args below meth c A ls C0 hP hD hS hl => B_F_compareFrom_0 C0 ih σ x1 x2 x3 s.heap [] ls hP hD hS hl h)
def rm_F_compare : Room := { frames := 23, cells := 0, slots := 0, locals := 644 }
def M_F_compare (σ : kS) (x1 x2 : Int32) : Option (Int32 × kS) := k_call (M_F_compareFrom_r 22 σ x1 x2 0) fun v1 σ2 => some (v1, σ2)
set_option maxHeartbeats 4000000 in
set_option maxRecDepth 100000 in
theorem B_F_compare_0 {p : Program} {l : Launch} {e : Env} {s : State} {m : MethodId} {args : Array Value} {below : List Frame} {meth : Method} {c : Code} {D : va_G} {a : Nat → Nat} {c9 : Nat → ClassId} {A : Nat → Prop} {r9 : Int32} {σo : kS} (C0 : k_Cx D c9 p s m args meth c R_F c_F_compare 3 (some .int) A) (σ : kS) (x1 x2 : Int32) (H : Heap) (locs : List Loc) (ls : Array Slot) (hP : va_P D kcl (kw a c9 σ) H) (hD : va_D A (kw a c9 σ)) (hS : va_S A s.heap H locs) (hl : lv_has ls 3 [(0, .ref (a 1)), (1, .int x1), (2, .int x2)]) (h : M_F_compare σ x1 x2 = some (r9, σo)) : W p l e rm_F_compare s m args below meth c H locs 0 0 (MQ below (k_Qi D a c9 r9 σo A) args s 0 0 A) (F0 m 0 ls []) := by
  obtain ⟨hx, hb, hml, hown, hts, hr, hlk, hK, hN, hA⟩ := id C0
  unfold M_F_compare at h
  refine lv_aload_n hx hb d_F_compare_0 rfl (lv_at hl 0 rfl) ?_
  refine lv_iload_n hx hb d_F_compare_1 rfl (lv_at hl 1 rfl) ?_
  refine lv_iload_n hx hb d_F_compare_2 rfl (lv_at hl 2 rfl) ?_
  refine lv_iconst (v := 0) hx hb d_F_compare_3 (by decide) ?_
  obtain ⟨v1, σ2, hc3, h⟩ := k_call_e h
  refine k_calli (va_runS (As := [.ref (a 1), .int x1, .int x2, .int 0]) (rest := []) ⟨hx, hb, hml, hown, hts⟩ (K_F_compareFrom l D a c9 22 H.size hc3) (va_cwS 4 hts (k_gS q_393 q_394 q_2 q_395) rfl rfl rfl h_F_compareFrom.2 ⟨Nat.le_of_ble_eq_true rfl, Nat.le_of_ble_eq_true rfl⟩) (k_preS hP hK hN hD) rfl rfl hl.1 rfl (lv_room (Nat.le_of_ble_eq_true rfl)) d_F_compare_4 ⟨Nat.zero_le _, Nat.zero_le _⟩) hD hS hA (fun H locs hP hD hS => ?_)
  cases h
  exact k_iret hx hb hr hlk hP hS d_F_compare_7
theorem K_F_compare (l : Launch) (D : va_G) (a : Nat → Nat) (c9 : Nat → ClassId) (sz : Nat) {σ : kS} {x1 x2 : Int32} {r9 : Int32} {σo : kS} (h : M_F_compare σ x1 x2 = some (r9, σo)) : Met l y_F_compare (Cond.code y_F_compare c_F_compare 3 (some .int) :: kG) rm_F_compare (k_Pc D a c9 sz σ [.ref (a 1), .int x1, .int x2]) (k_Qi D a c9 r9 σo (k_A a c9 σ sz)) 0 0 (k_A a c9 σ sz) :=
  k_met (Qf := k_Qi D a c9 r9 σo) (by decide) (Nat.le_of_ble_eq_true rfl) (fun p e s m args below meth c A ls C0 hP hD hS hl => B_F_compare_0 C0 σ x1 x2 s.heap [] ls hP hD hS hl h)
def rm_F_placeFor : Room := { frames := 24, cells := 0, slots := 0, locals := 666 }
def M_F_placeFor_35_b (self9 : kS → Int32 → Int32 → Int32 → Option (Int32 × kS)) (σ : kS) (x1 x2 x3 : Int32) : Option (Int32 × kS) := if x3 ≤ 0 then (some (x3, σ)) else (k_call (M_F_partAt σ x1 ((x3 - 1))) fun v2 σ3 => k_call (M_F_compare σ3 v2 x2) fun v5 σ6 => if v5 ≤ 0 then (some (x3, σ6)) else (k_let (x3 + (-1)) fun v9 => self9 σ6 x1 x2 v9))
def M_F_placeFor_35 : Nat → kS → Int32 → Int32 → Int32 → Option (Int32 × kS)
  | 0 => fun _ _ _ _ => none
  | n + 1 => M_F_placeFor_35_b (M_F_placeFor_35 n)
set_option maxHeartbeats 4000000 in
set_option maxRecDepth 100000 in
theorem B_F_placeFor_35 {p : Program} {l : Launch} {e : Env} {s : State} {m : MethodId} {args : Array Value} {below : List Frame} {meth : Method} {c : Code} {D : va_G} {a : Nat → Nat} {c9 : Nat → ClassId} {A : Nat → Prop} {r9 : Int32} {σo : kS} (C0 : k_Cx D c9 p s m args meth c R_F c_F_placeFor 4 (some .int) A) : ∀ (n : Nat) (σ : kS) (x1 x2 x3 : Int32) (H : Heap) (locs : List Loc) (ls : Array Slot), va_P D kcl (kw a c9 σ) H → va_D A (kw a c9 σ) → va_S A s.heap H locs → lv_has ls 4 [(0, .ref (a 1)), (1, .int x1), (2, .int x2), (3, .int x3)] → M_F_placeFor_35 n σ x1 x2 x3 = some (r9, σo) → W p l e rm_F_placeFor s m args below meth c H locs 0 0 (MQ below (k_Qi D a c9 r9 σo A) args s 0 0 A) (F0 m 35 ls []) := by
  obtain ⟨hx, hb, hml, hown, hts, hr, hlk, hK, hN, hA⟩ := id C0
  intro n
  induction n with
  | zero =>
    intro σ x1 x2 x3 H locs ls hP hD hS hl h
    replace h : (none : Option (Int32 × kS)) = some (r9, σo) := h
    cases h
  | succ n ih =>
    intro σ x1 x2 x3 H locs ls hP hD hS hl h
    replace h : M_F_placeFor_35_b (M_F_placeFor_35 n) σ x1 x2 x3 = some (r9, σo) := h
    unfold M_F_placeFor_35_b at h
    refine lv_iload_n hx hb d_F_placeFor_35 rfl (lv_at hl 3 rfl) ?_
    refine lv_if_le (tgt := 61) hx hb d_F_placeFor_36 (by decide) (fun c1 => ?_) (fun c1 => ?_)
    · replace h := (if_pos c1).symm.trans h
      refine lv_iload_n hx hb d_F_placeFor_61 rfl (lv_at hl 3 rfl) ?_
      cases h
      exact k_iret hx hb hr hlk hP hS d_F_placeFor_62
    · replace h := (if_neg c1).symm.trans h
      refine lv_aload_n hx hb d_F_placeFor_39 rfl (lv_at hl 0 rfl) ?_
      refine lv_aload_n hx hb d_F_placeFor_40 rfl (lv_at hl 0 rfl) ?_
      refine lv_iload_n hx hb d_F_placeFor_41 rfl (lv_at hl 1 rfl) ?_
      refine lv_iload_n hx hb d_F_placeFor_42 rfl (lv_at hl 3 rfl) ?_
      refine lv_iconst (v := 1) hx hb d_F_placeFor_43 (by decide) ?_
      refine lv_isub hx hb d_F_placeFor_44 ?_
      obtain ⟨v2, σ3, hc4, h⟩ := k_call_e h
      refine k_calli (va_runV (As := [.int x1, .int ((x3 - 1))]) (rest := [.ref (a 1)]) ⟨hx, hb, hml, hown, hts⟩ (K_F_partAt l D a c9 H.size hc4) (cwV 2 hts (k_gV q_385 q_386 q_387 q_2 q_388) rfl rfl rfl h_F_partAt ⟨Nat.le_of_ble_eq_true rfl, Nat.le_of_ble_eq_true rfl⟩) (k_preV (ci := 2) (q0 := 1) rfl kw_1 hP hK hN hD) rfl rfl hl.1 rfl (lv_room (Nat.le_of_ble_eq_true rfl)) d_F_placeFor_45 ⟨Nat.zero_le _, Nat.zero_le _⟩) hD hS hA (fun H locs hP hD hS => ?_)
      refine lv_iload_n hx hb d_F_placeFor_48 rfl (lv_at hl 2 rfl) ?_
      obtain ⟨v5, σ6, hc7, h⟩ := k_call_e h
      refine k_calli (va_runV (As := [.int v2, .int x2]) (rest := []) ⟨hx, hb, hml, hown, hts⟩ (K_F_compare l D a c9 H.size hc7) (cwV 2 hts (k_gV q_389 q_390 q_391 q_2 q_392) rfl rfl rfl h_F_compare ⟨Nat.le_of_ble_eq_true rfl, Nat.le_of_ble_eq_true rfl⟩) (k_preV (ci := 2) (q0 := 1) rfl kw_1 hP hK hN hD) rfl rfl hl.1 rfl (lv_room (Nat.le_of_ble_eq_true rfl)) d_F_placeFor_49 ⟨Nat.zero_le _, Nat.zero_le _⟩) hD hS hA (fun H locs hP hD hS => ?_)
      refine lv_if_le (tgt := 61) hx hb d_F_placeFor_52 (by decide) (fun c8 => ?_) (fun c8 => ?_)
      · replace h := (if_pos c8).symm.trans h
        refine lv_iload_n hx hb d_F_placeFor_61 rfl (lv_at hl 3 rfl) ?_
        cases h
        exact k_iret hx hb hr hlk hP hS d_F_placeFor_62
      · replace h := (if_neg c8).symm.trans h
        obtain ⟨v9, ev9, h⟩ := k_let_e h
        refine lv_iinc (v := v9) (lv' := [(3, .int v9), (0, .ref (a 1)), (1, .int x1), (2, .int x2)]) hx hb d_F_placeFor_55 hl (k := 3) rfl (by rw [ev9]; rfl) (by decide) rfl (fun ls hl => ?_)
        refine lv_goto (tgt := 35) hx hb d_F_placeFor_58 (by decide) ?_
        exact ih _ _ _ _ H locs ls hP hD hS (lv_sub hl [1, 2, 3, 0] rfl) h
def M_F_placeFor (σ : kS) (x1 x2 : Int32) : Option (Int32 × kS) := k_ld (σ.2.1 9) 240 (x1) fun v1 => k_call (M_F_isAnyOrder σ x1) fun v2 σ3 => if v2 = 0 then (some (v1, σ3)) else (k_ld (σ3.2.1 5) 240 (x1) fun v6 => if v6 = 0 then (some (v1, σ3)) else (k_ld (σ3.2.1 5) 240 (x2) fun v8 => if v8 = 0 then (some (v1, σ3)) else (M_F_placeFor_35 k_fu σ3 x1 x2 v1)))
set_option maxHeartbeats 4000000 in
set_option maxRecDepth 100000 in
theorem B_F_placeFor_0 {p : Program} {l : Launch} {e : Env} {s : State} {m : MethodId} {args : Array Value} {below : List Frame} {meth : Method} {c : Code} {D : va_G} {a : Nat → Nat} {c9 : Nat → ClassId} {A : Nat → Prop} {r9 : Int32} {σo : kS} (C0 : k_Cx D c9 p s m args meth c R_F c_F_placeFor 4 (some .int) A) (σ : kS) (x1 x2 : Int32) (H : Heap) (locs : List Loc) (ls : Array Slot) (hP : va_P D kcl (kw a c9 σ) H) (hD : va_D A (kw a c9 σ)) (hS : va_S A s.heap H locs) (hl : lv_has ls 4 [(0, .ref (a 1)), (1, .int x1), (2, .int x2)]) (h : M_F_placeFor σ x1 x2 = some (r9, σo)) : W p l e rm_F_placeFor s m args below meth c H locs 0 0 (MQ below (k_Qi D a c9 r9 σo A) args s 0 0 A) (F0 m 0 ls []) := by
  obtain ⟨hx, hb, hml, hown, hts, hr, hlk, hK, hN, hA⟩ := id C0
  unfold M_F_placeFor at h
  refine lv_aload_n hx hb d_F_placeFor_0 rfl (lv_at hl 0 rfl) ?_
  refine va_get (ci := 2) (C := R_F) (T := T_F) (N := 13) hx hb hts in_F hown hK hP 1 kw_1 rfl 8 (by decide) (hts _ q_41) (fun _ h9 => h9) rfl d_F_placeFor_1 ?_
  refine lv_iload_n hx hb d_F_placeFor_4 rfl (lv_at hl 1 rfl) ?_
  obtain ⟨v1, ev1, hv1, h⟩ := k_ld_e h
  refine va_iald hx hb hK hP 16 0 kw_16 rfl hv1 d_F_placeFor_5 (k_top ev1 ?_)
  refine lv_istore_n (lv' := [(3, .int v1), (0, .ref (a 1)), (1, .int x1), (2, .int x2)]) hx hb d_F_placeFor_6 rfl hl (by decide) rfl (fun ls hl => ?_)
  refine lv_aload_n hx hb d_F_placeFor_7 rfl (lv_at hl 1 rfl) ?_
  refine lv_iload_n hx hb d_F_placeFor_8 rfl (lv_at hl 2 rfl) ?_
  obtain ⟨v2, σ3, hc4, h⟩ := k_call_e h
  refine k_calli (va_runV (As := [.int x1]) (rest := []) ⟨hx, hb, hml, hown, hts⟩ (K_F_isAnyOrder l D a c9 H.size hc4) (cwV 1 hts (k_gV q_381 q_382 q_383 q_2 q_384) rfl rfl rfl h_F_isAnyOrder ⟨Nat.le_of_ble_eq_true rfl, Nat.le_of_ble_eq_true rfl⟩) (k_preV (ci := 2) (q0 := 1) rfl kw_1 hP hK hN hD) rfl rfl hl.1 rfl (lv_room (Nat.le_of_ble_eq_true rfl)) d_F_placeFor_9 ⟨Nat.zero_le _, Nat.zero_le _⟩) hD hS hA (fun H locs hP hD hS => ?_)
  refine lv_if_eq (tgt := 33) hx hb d_F_placeFor_12 (by decide) (fun c5 => ?_) (fun c5 => ?_)
  · replace h := (if_pos c5).symm.trans h
    refine lv_iload_n hx hb d_F_placeFor_33 rfl (lv_at hl 0 rfl) ?_
    cases h
    exact k_iret hx hb hr hlk hP hS d_F_placeFor_34
  · replace h := (if_neg c5).symm.trans h
    refine lv_aload_n hx hb d_F_placeFor_15 rfl (lv_at hl 1 rfl) ?_
    refine va_get (ci := 2) (C := R_F) (T := T_F) (N := 13) hx hb hts in_F hown hK hP 1 kw_1 rfl 4 (by decide) (hts _ q_37) (fun _ h9 => h9) rfl d_F_placeFor_16 ?_
    refine lv_iload_n hx hb d_F_placeFor_19 rfl (lv_at hl 2 rfl) ?_
    obtain ⟨v6, ev6, hv6, h⟩ := k_ld_e h
    refine va_zald hx hb hK hP 12 1 kw_12 rfl hv6 d_F_placeFor_20 (k_top ev6 ?_)
    refine lv_if_eq (tgt := 33) hx hb d_F_placeFor_21 (by decide) (fun c7 => ?_) (fun c7 => ?_)
    · replace h := (if_pos c7).symm.trans h
      refine lv_iload_n hx hb d_F_placeFor_33 rfl (lv_at hl 0 rfl) ?_
      cases h
      exact k_iret hx hb hr hlk hP hS d_F_placeFor_34
    · replace h := (if_neg c7).symm.trans h
      refine lv_aload_n hx hb d_F_placeFor_24 rfl (lv_at hl 1 rfl) ?_
      refine va_get (ci := 2) (C := R_F) (T := T_F) (N := 13) hx hb hts in_F hown hK hP 1 kw_1 rfl 4 (by decide) (hts _ q_37) (fun _ h9 => h9) rfl d_F_placeFor_25 ?_
      refine lv_iload_n hx hb d_F_placeFor_28 rfl (lv_at hl 3 rfl) ?_
      obtain ⟨v8, ev8, hv8, h⟩ := k_ld_e h
      refine va_zald hx hb hK hP 12 1 kw_12 rfl hv8 d_F_placeFor_29 (k_top ev8 ?_)
      refine lv_if_ne (tgt := 35) hx hb d_F_placeFor_30 (by decide) (fun c9 => ?_) (fun c9 => ?_)
      · replace h := (if_neg c9).symm.trans h
        exact B_F_placeFor_35 C0 k_fu _ _ _ _ H locs ls hP hD hS (lv_sub hl [1, 2, 3, 0] rfl) h
      · replace h := (if_pos c9).symm.trans h
        refine lv_iload_n hx hb d_F_placeFor_33 rfl (lv_at hl 0 rfl) ?_
        cases h
        exact k_iret hx hb hr hlk hP hS d_F_placeFor_34
theorem K_F_placeFor (l : Launch) (D : va_G) (a : Nat → Nat) (c9 : Nat → ClassId) (sz : Nat) {σ : kS} {x1 x2 : Int32} {r9 : Int32} {σo : kS} (h : M_F_placeFor σ x1 x2 = some (r9, σo)) : Met l y_F_placeFor (Cond.code y_F_placeFor c_F_placeFor 4 (some .int) :: kG) rm_F_placeFor (k_Pc D a c9 sz σ [.ref (a 1), .int x1, .int x2]) (k_Qi D a c9 r9 σo (k_A a c9 σ sz)) 0 0 (k_A a c9 σ sz) :=
  k_met (Qf := k_Qi D a c9 r9 σo) (by decide) (Nat.le_of_ble_eq_true rfl) (fun p e s m args below meth c A ls C0 hP hD hS hl => B_F_placeFor_0 C0 σ x1 x2 s.heap [] ls hP hD hS hl h)
def rm_F_addPart : Room := { frames := 25, cells := 0, slots := 0, locals := 689 }
def M_F_addPart_115 (σ : kS) (x1 x2 x3 x4 x5 x6 y0 y1 : Int32) : Option (Int32 × kS) := k_st σ 5 240 (y1) (vp_nar .boolean (y0)) fun σ1 => k_ld (σ1.2.1 7) 240 (x1) fun v2 => k_ld (σ1.2.1 7) 240 (x2) fun v3 => k_st σ1 7 240 (x1) ((if v2 < (v3 + 1) then (v3 + 1) else v2)) fun σ4 => k_ld (σ4.2.1 8) 240 (x1) fun v5 => k_ld (σ4.2.1 8) 240 (x2) fun v6 => k_st σ4 8 240 (x1) ((v5 + v6)) fun σ7 => k_st σ7 6 240 (x2) (vp_nar .boolean (1)) fun σ8 => some (1, σ8)
set_option maxHeartbeats 4000000 in
set_option maxRecDepth 100000 in
theorem B_F_addPart_115 {p : Program} {l : Launch} {e : Env} {s : State} {m : MethodId} {args : Array Value} {below : List Frame} {meth : Method} {c : Code} {D : va_G} {a : Nat → Nat} {c9 : Nat → ClassId} {A : Nat → Prop} {r9 : Int32} {σo : kS} (C0 : k_Cx D c9 p s m args meth c R_F c_F_addPart 7 (some .boolean) A) (σ : kS) (x1 x2 x3 x4 x5 x6 y0 y1 : Int32) (H : Heap) (locs : List Loc) (ls : Array Slot) (hP : va_P D kcl (kw a c9 σ) H) (hD : va_D A (kw a c9 σ)) (hS : va_S A s.heap H locs) (hl : lv_has ls 7 [(0, .ref (a 1)), (1, .int x1), (2, .int x2), (3, .int x3), (4, .int x4), (5, .int x5), (6, .int x6)]) (h : M_F_addPart_115 σ x1 x2 x3 x4 x5 x6 y0 y1 = some (r9, σo)) : W p l e rm_F_addPart s m args below meth c H locs 0 0 (MQ below (k_Qi D a c9 r9 σo A) args s 0 0 A) (F0 m 115 ls [.int y0, .int y1, .ref (a 12)]) := by
  obtain ⟨hx, hb, hml, hown, hts, hr, hlk, hK, hN, hA⟩ := id C0
  unfold M_F_addPart_115 at h
  obtain ⟨σ1, eσ1, hiσ1, h⟩ := k_st_e h
  refine va_zast hx hb hK hP hD hS 12 1 kw_12 rfl hiσ1 d_F_addPart_115 (fun H locs hP hD hS => ?_)
  replace hP := k_mvP (kw_s12.trans (congrArg _ eσ1.symm)) hP
  replace hD := k_mvD (kw_s12.trans (congrArg _ eσ1.symm)) hD
  refine lv_aload_n hx hb d_F_addPart_116 rfl (lv_at hl 0 rfl) ?_
  refine va_get (ci := 2) (C := R_F) (T := T_F) (N := 13) hx hb hts in_F hown hK hP 1 kw_1 rfl 6 (by decide) (hts _ q_39) (fun _ h9 => h9) rfl d_F_addPart_117 ?_
  refine lv_iload_n hx hb d_F_addPart_120 rfl (lv_at hl 1 rfl) ?_
  refine lv_aload_n hx hb d_F_addPart_121 rfl (lv_at hl 0 rfl) ?_
  refine va_get (ci := 2) (C := R_F) (T := T_F) (N := 13) hx hb hts in_F hown hK hP 1 kw_1 rfl 6 (by decide) (hts _ q_39) (fun _ h9 => h9) rfl d_F_addPart_122 ?_
  refine lv_iload_n hx hb d_F_addPart_125 rfl (lv_at hl 1 rfl) ?_
  obtain ⟨v2, ev2, hv2, h⟩ := k_ld_e h
  refine va_iald hx hb hK hP 14 0 kw_14 rfl hv2 d_F_addPart_126 (k_top ev2 ?_)
  refine lv_aload_n hx hb d_F_addPart_127 rfl (lv_at hl 0 rfl) ?_
  refine va_get (ci := 2) (C := R_F) (T := T_F) (N := 13) hx hb hts in_F hown hK hP 1 kw_1 rfl 6 (by decide) (hts _ q_39) (fun _ h9 => h9) rfl d_F_addPart_128 ?_
  refine lv_iload_n hx hb d_F_addPart_131 rfl (lv_at hl 2 rfl) ?_
  obtain ⟨v3, ev3, hv3, h⟩ := k_ld_e h
  refine va_iald hx hb hK hP 14 0 kw_14 rfl hv3 d_F_addPart_132 (k_top ev3 ?_)
  refine lv_iconst (v := 1) hx hb d_F_addPart_133 (by decide) ?_
  refine lv_iadd hx hb d_F_addPart_134 ?_
  refine va_mmax hx hb (hml.trans hl.1.symm) hown (hts _ q_396) (hts _ q_397) (hts _ q_14) (hts _ q_398) (Nat.le_of_ble_eq_true rfl) (Nat.le_of_ble_eq_true rfl) (Nat.zero_le _) (Nat.zero_le _) d_F_addPart_135 ?_
  obtain ⟨σ4, eσ4, hiσ4, h⟩ := k_st_e h
  refine va_iast hx hb hK hP hD hS 14 0 kw_14 rfl hiσ4 d_F_addPart_138 (fun H locs hP hD hS => ?_)
  replace hP := k_mvP (kw_s14.trans (congrArg _ eσ4.symm)) hP
  replace hD := k_mvD (kw_s14.trans (congrArg _ eσ4.symm)) hD
  refine lv_aload_n hx hb d_F_addPart_139 rfl (lv_at hl 0 rfl) ?_
  refine va_get (ci := 2) (C := R_F) (T := T_F) (N := 13) hx hb hts in_F hown hK hP 1 kw_1 rfl 7 (by decide) (hts _ q_40) (fun _ h9 => h9) rfl d_F_addPart_140 ?_
  refine lv_iload_n hx hb d_F_addPart_143 rfl (lv_at hl 1 rfl) ?_
  refine lv_dup2_11 hx hb d_F_addPart_144 rfl rfl ?_
  obtain ⟨v5, ev5, hv5, h⟩ := k_ld_e h
  refine va_iald hx hb hK hP 15 0 kw_15 rfl hv5 d_F_addPart_145 (k_top ev5 ?_)
  refine lv_aload_n hx hb d_F_addPart_146 rfl (lv_at hl 0 rfl) ?_
  refine va_get (ci := 2) (C := R_F) (T := T_F) (N := 13) hx hb hts in_F hown hK hP 1 kw_1 rfl 7 (by decide) (hts _ q_40) (fun _ h9 => h9) rfl d_F_addPart_147 ?_
  refine lv_iload_n hx hb d_F_addPart_150 rfl (lv_at hl 2 rfl) ?_
  obtain ⟨v6, ev6, hv6, h⟩ := k_ld_e h
  refine va_iald hx hb hK hP 15 0 kw_15 rfl hv6 d_F_addPart_151 (k_top ev6 ?_)
  refine lv_iadd hx hb d_F_addPart_152 ?_
  obtain ⟨σ7, eσ7, hiσ7, h⟩ := k_st_e h
  refine va_iast hx hb hK hP hD hS 15 0 kw_15 rfl hiσ7 d_F_addPart_153 (fun H locs hP hD hS => ?_)
  replace hP := k_mvP (kw_s15.trans (congrArg _ eσ7.symm)) hP
  replace hD := k_mvD (kw_s15.trans (congrArg _ eσ7.symm)) hD
  refine lv_aload_n hx hb d_F_addPart_154 rfl (lv_at hl 0 rfl) ?_
  refine va_get (ci := 2) (C := R_F) (T := T_F) (N := 13) hx hb hts in_F hown hK hP 1 kw_1 rfl 5 (by decide) (hts _ q_38) (fun _ h9 => h9) rfl d_F_addPart_155 ?_
  refine lv_iload_n hx hb d_F_addPart_158 rfl (lv_at hl 2 rfl) ?_
  refine lv_iconst (v := 1) hx hb d_F_addPart_159 (by decide) ?_
  obtain ⟨σ8, eσ8, hiσ8, h⟩ := k_st_e h
  refine va_zast hx hb hK hP hD hS 13 1 kw_13 rfl hiσ8 d_F_addPart_160 (fun H locs hP hD hS => ?_)
  replace hP := k_mvP (kw_s13.trans (congrArg _ eσ8.symm)) hP
  replace hD := k_mvD (kw_s13.trans (congrArg _ eσ8.symm)) hD
  refine lv_iconst (v := 1) hx hb d_F_addPart_161 (by decide) ?_
  cases h
  exact k_zret (Or.inr rfl) hx hb hr hlk hP hS d_F_addPart_162
def M_F_addPart_114 (σ : kS) (x1 x2 x3 x4 x5 x6 y0 : Int32) : Option (Int32 × kS) := M_F_addPart_115 σ x1 x2 x3 x4 x5 x6 0 y0
set_option maxHeartbeats 4000000 in
set_option maxRecDepth 100000 in
theorem B_F_addPart_114 {p : Program} {l : Launch} {e : Env} {s : State} {m : MethodId} {args : Array Value} {below : List Frame} {meth : Method} {c : Code} {D : va_G} {a : Nat → Nat} {c9 : Nat → ClassId} {A : Nat → Prop} {r9 : Int32} {σo : kS} (C0 : k_Cx D c9 p s m args meth c R_F c_F_addPart 7 (some .boolean) A) (σ : kS) (x1 x2 x3 x4 x5 x6 y0 : Int32) (H : Heap) (locs : List Loc) (ls : Array Slot) (hP : va_P D kcl (kw a c9 σ) H) (hD : va_D A (kw a c9 σ)) (hS : va_S A s.heap H locs) (hl : lv_has ls 7 [(0, .ref (a 1)), (1, .int x1), (2, .int x2), (3, .int x3), (4, .int x4), (5, .int x5), (6, .int x6)]) (h : M_F_addPart_114 σ x1 x2 x3 x4 x5 x6 y0 = some (r9, σo)) : W p l e rm_F_addPart s m args below meth c H locs 0 0 (MQ below (k_Qi D a c9 r9 σo A) args s 0 0 A) (F0 m 114 ls [.int y0, .ref (a 12)]) := by
  obtain ⟨hx, hb, hml, hown, hts, hr, hlk, hK, hN, hA⟩ := id C0
  unfold M_F_addPart_114 at h
  refine lv_iconst (v := 0) hx hb d_F_addPart_114 (by decide) ?_
  exact B_F_addPart_115 C0 _ _ _ _ _ _ _ _ _ H locs ls hP hD hS (lv_sub hl [0, 1, 2, 3, 4, 5, 6] rfl) h
def M_F_addPart_32_b (self9 : kS → Int32 → Int32 → Int32 → Int32 → Int32 → Int32 → Option (Int32 × kS)) (σ : kS) (x1 x2 x3 x4 x5 x6 : Int32) : Option (Int32 × kS) := if x6 ≤ x5 then (k_st σ 10 2880 ((x4 + x5)) (x2) fun σ2 => k_st σ2 9 240 (x1) ((x3 + 1)) fun σ3 => k_ld (σ3.2.1 5) 240 (x1) fun v4 => if v4 = 0 then (M_F_addPart_114 σ3 x1 x2 x3 x4 x5 x6 x1) else (k_ld (σ3.2.1 5) 240 (x2) fun v6 => if v6 = 0 then (M_F_addPart_114 σ3 x1 x2 x3 x4 x5 x6 x1) else (M_F_addPart_115 σ3 x1 x2 x3 x4 x5 x6 1 x1))) else (k_ld (σ.2.1 10) 2880 (((x4 + x6) - 1)) fun v8 => k_st σ 10 2880 ((x4 + x6)) (v8) fun σ9 => k_let (x6 + (-1)) fun v10 => self9 σ9 x1 x2 x3 x4 x5 v10)
def M_F_addPart_32 : Nat → kS → Int32 → Int32 → Int32 → Int32 → Int32 → Int32 → Option (Int32 × kS)
  | 0 => fun _ _ _ _ _ _ _ => none
  | n + 1 => M_F_addPart_32_b (M_F_addPart_32 n)
set_option maxHeartbeats 4000000 in
set_option maxRecDepth 100000 in
theorem B_F_addPart_32 {p : Program} {l : Launch} {e : Env} {s : State} {m : MethodId} {args : Array Value} {below : List Frame} {meth : Method} {c : Code} {D : va_G} {a : Nat → Nat} {c9 : Nat → ClassId} {A : Nat → Prop} {r9 : Int32} {σo : kS} (C0 : k_Cx D c9 p s m args meth c R_F c_F_addPart 7 (some .boolean) A) : ∀ (n : Nat) (σ : kS) (x1 x2 x3 x4 x5 x6 : Int32) (H : Heap) (locs : List Loc) (ls : Array Slot), va_P D kcl (kw a c9 σ) H → va_D A (kw a c9 σ) → va_S A s.heap H locs → lv_has ls 7 [(0, .ref (a 1)), (1, .int x1), (2, .int x2), (3, .int x3), (4, .int x4), (5, .int x5), (6, .int x6)] → M_F_addPart_32 n σ x1 x2 x3 x4 x5 x6 = some (r9, σo) → W p l e rm_F_addPart s m args below meth c H locs 0 0 (MQ below (k_Qi D a c9 r9 σo A) args s 0 0 A) (F0 m 32 ls []) := by
  obtain ⟨hx, hb, hml, hown, hts, hr, hlk, hK, hN, hA⟩ := id C0
  intro n
  induction n with
  | zero =>
    intro σ x1 x2 x3 x4 x5 x6 H locs ls hP hD hS hl h
    replace h : (none : Option (Int32 × kS)) = some (r9, σo) := h
    cases h
  | succ n ih =>
    intro σ x1 x2 x3 x4 x5 x6 H locs ls hP hD hS hl h
    replace h : M_F_addPart_32_b (M_F_addPart_32 n) σ x1 x2 x3 x4 x5 x6 = some (r9, σo) := h
    unfold M_F_addPart_32_b at h
    refine lv_iload hx hb d_F_addPart_32 (lv_at hl 6 rfl) ?_
    refine lv_iload hx hb d_F_addPart_34 (lv_at hl 5 rfl) ?_
    refine lv_icmp_le (tgt := 67) hx hb d_F_addPart_36 (by decide) (fun c1 => ?_) (fun c1 => ?_)
    · replace h := (if_pos c1).symm.trans h
      refine lv_aload_n hx hb d_F_addPart_67 rfl (lv_at hl 0 rfl) ?_
      refine va_get (ci := 2) (C := R_F) (T := T_F) (N := 13) hx hb hts in_F hown hK hP 1 kw_1 rfl 9 (by decide) (hts _ q_42) (fun _ h9 => h9) rfl d_F_addPart_68 ?_
      refine lv_iload hx hb d_F_addPart_71 (lv_at hl 4 rfl) ?_
      refine lv_iload hx hb d_F_addPart_73 (lv_at hl 5 rfl) ?_
      refine lv_iadd hx hb d_F_addPart_75 ?_
      refine lv_iload_n hx hb d_F_addPart_76 rfl (lv_at hl 2 rfl) ?_
      obtain ⟨σ2, eσ2, hiσ2, h⟩ := k_st_e h
      refine va_iast hx hb hK hP hD hS 17 0 kw_17 rfl hiσ2 d_F_addPart_77 (fun H locs hP hD hS => ?_)
      replace hP := k_mvP (kw_s17.trans (congrArg _ eσ2.symm)) hP
      replace hD := k_mvD (kw_s17.trans (congrArg _ eσ2.symm)) hD
      refine lv_aload_n hx hb d_F_addPart_78 rfl (lv_at hl 0 rfl) ?_
      refine va_get (ci := 2) (C := R_F) (T := T_F) (N := 13) hx hb hts in_F hown hK hP 1 kw_1 rfl 8 (by decide) (hts _ q_41) (fun _ h9 => h9) rfl d_F_addPart_79 ?_
      refine lv_iload_n hx hb d_F_addPart_82 rfl (lv_at hl 1 rfl) ?_
      refine lv_iload_n hx hb d_F_addPart_83 rfl (lv_at hl 3 rfl) ?_
      refine lv_iconst (v := 1) hx hb d_F_addPart_84 (by decide) ?_
      refine lv_iadd hx hb d_F_addPart_85 ?_
      obtain ⟨σ3, eσ3, hiσ3, h⟩ := k_st_e h
      refine va_iast hx hb hK hP hD hS 16 0 kw_16 rfl hiσ3 d_F_addPart_86 (fun H locs hP hD hS => ?_)
      replace hP := k_mvP (kw_s16.trans (congrArg _ eσ3.symm)) hP
      replace hD := k_mvD (kw_s16.trans (congrArg _ eσ3.symm)) hD
      refine lv_aload_n hx hb d_F_addPart_87 rfl (lv_at hl 0 rfl) ?_
      refine va_get (ci := 2) (C := R_F) (T := T_F) (N := 13) hx hb hts in_F hown hK hP 1 kw_1 rfl 4 (by decide) (hts _ q_37) (fun _ h9 => h9) rfl d_F_addPart_88 ?_
      refine lv_iload_n hx hb d_F_addPart_91 rfl (lv_at hl 1 rfl) ?_
      refine lv_aload_n hx hb d_F_addPart_92 rfl (lv_at hl 0 rfl) ?_
      refine va_get (ci := 2) (C := R_F) (T := T_F) (N := 13) hx hb hts in_F hown hK hP 1 kw_1 rfl 4 (by decide) (hts _ q_37) (fun _ h9 => h9) rfl d_F_addPart_93 ?_
      refine lv_iload_n hx hb d_F_addPart_96 rfl (lv_at hl 1 rfl) ?_
      obtain ⟨v4, ev4, hv4, h⟩ := k_ld_e h
      refine va_zald hx hb hK hP 12 1 kw_12 rfl hv4 d_F_addPart_97 (k_top ev4 ?_)
      refine lv_if_eq (tgt := 114) hx hb d_F_addPart_98 (by decide) (fun c5 => ?_) (fun c5 => ?_)
      · replace h := (if_pos c5).symm.trans h
        exact B_F_addPart_114 C0 _ _ _ _ _ _ _ _ H locs ls hP hD hS (lv_sub hl [0, 1, 2, 3, 4, 5, 6] rfl) h
      · replace h := (if_neg c5).symm.trans h
        refine lv_aload_n hx hb d_F_addPart_101 rfl (lv_at hl 0 rfl) ?_
        refine va_get (ci := 2) (C := R_F) (T := T_F) (N := 13) hx hb hts in_F hown hK hP 1 kw_1 rfl 4 (by decide) (hts _ q_37) (fun _ h9 => h9) rfl d_F_addPart_102 ?_
        refine lv_iload_n hx hb d_F_addPart_105 rfl (lv_at hl 2 rfl) ?_
        obtain ⟨v6, ev6, hv6, h⟩ := k_ld_e h
        refine va_zald hx hb hK hP 12 1 kw_12 rfl hv6 d_F_addPart_106 (k_top ev6 ?_)
        refine lv_if_eq (tgt := 114) hx hb d_F_addPart_107 (by decide) (fun c7 => ?_) (fun c7 => ?_)
        · replace h := (if_pos c7).symm.trans h
          exact B_F_addPart_114 C0 _ _ _ _ _ _ _ _ H locs ls hP hD hS (lv_sub hl [0, 1, 2, 3, 4, 5, 6] rfl) h
        · replace h := (if_neg c7).symm.trans h
          refine lv_iconst (v := 1) hx hb d_F_addPart_110 (by decide) ?_
          refine lv_goto (tgt := 115) hx hb d_F_addPart_111 (by decide) ?_
          exact B_F_addPart_115 C0 _ _ _ _ _ _ _ _ _ H locs ls hP hD hS (lv_sub hl [0, 1, 2, 3, 4, 5, 6] rfl) h
    · replace h := (if_neg c1).symm.trans h
      refine lv_aload_n hx hb d_F_addPart_39 rfl (lv_at hl 0 rfl) ?_
      refine va_get (ci := 2) (C := R_F) (T := T_F) (N := 13) hx hb hts in_F hown hK hP 1 kw_1 rfl 9 (by decide) (hts _ q_42) (fun _ h9 => h9) rfl d_F_addPart_40 ?_
      refine lv_iload hx hb d_F_addPart_43 (lv_at hl 4 rfl) ?_
      refine lv_iload hx hb d_F_addPart_45 (lv_at hl 6 rfl) ?_
      refine lv_iadd hx hb d_F_addPart_47 ?_
      refine lv_aload_n hx hb d_F_addPart_48 rfl (lv_at hl 0 rfl) ?_
      refine va_get (ci := 2) (C := R_F) (T := T_F) (N := 13) hx hb hts in_F hown hK hP 1 kw_1 rfl 9 (by decide) (hts _ q_42) (fun _ h9 => h9) rfl d_F_addPart_49 ?_
      refine lv_iload hx hb d_F_addPart_52 (lv_at hl 4 rfl) ?_
      refine lv_iload hx hb d_F_addPart_54 (lv_at hl 6 rfl) ?_
      refine lv_iadd hx hb d_F_addPart_56 ?_
      refine lv_iconst (v := 1) hx hb d_F_addPart_57 (by decide) ?_
      refine lv_isub hx hb d_F_addPart_58 ?_
      obtain ⟨v8, ev8, hv8, h⟩ := k_ld_e h
      refine va_iald hx hb hK hP 17 0 kw_17 rfl hv8 d_F_addPart_59 (k_top ev8 ?_)
      obtain ⟨σ9, eσ9, hiσ9, h⟩ := k_st_e h
      refine va_iast hx hb hK hP hD hS 17 0 kw_17 rfl hiσ9 d_F_addPart_60 (fun H locs hP hD hS => ?_)
      replace hP := k_mvP (kw_s17.trans (congrArg _ eσ9.symm)) hP
      replace hD := k_mvD (kw_s17.trans (congrArg _ eσ9.symm)) hD
      obtain ⟨v10, ev10, h⟩ := k_let_e h
      refine lv_iinc (v := v10) (lv' := [(6, .int v10), (0, .ref (a 1)), (1, .int x1), (2, .int x2), (3, .int x3), (4, .int x4), (5, .int x5)]) hx hb d_F_addPart_61 hl (k := 6) rfl (by rw [ev10]; rfl) (by decide) rfl (fun ls hl => ?_)
      refine lv_goto (tgt := 32) hx hb d_F_addPart_64 (by decide) ?_
      exact ih _ _ _ _ _ _ _ H locs ls hP hD hS (lv_sub hl [1, 2, 3, 4, 5, 6, 0] rfl) h
def M_F_addPart (σ : kS) (x1 x2 : Int32) : Option (Int32 × kS) := k_ld (σ.2.1 9) 240 (x1) fun v1 => if v1 < 12 then (k_let ((x1 * 12)) fun v3 => k_call (M_F_placeFor σ x1 x2) fun v4 σ5 => M_F_addPart_32 k_fu σ5 x1 x2 v1 v3 v4 v1) else (some (0, σ))
set_option maxHeartbeats 4000000 in
set_option maxRecDepth 100000 in
theorem B_F_addPart_0 {p : Program} {l : Launch} {e : Env} {s : State} {m : MethodId} {args : Array Value} {below : List Frame} {meth : Method} {c : Code} {D : va_G} {a : Nat → Nat} {c9 : Nat → ClassId} {A : Nat → Prop} {r9 : Int32} {σo : kS} (C0 : k_Cx D c9 p s m args meth c R_F c_F_addPart 7 (some .boolean) A) (σ : kS) (x1 x2 : Int32) (H : Heap) (locs : List Loc) (ls : Array Slot) (hP : va_P D kcl (kw a c9 σ) H) (hD : va_D A (kw a c9 σ)) (hS : va_S A s.heap H locs) (hl : lv_has ls 7 [(0, .ref (a 1)), (1, .int x1), (2, .int x2)]) (h : M_F_addPart σ x1 x2 = some (r9, σo)) : W p l e rm_F_addPart s m args below meth c H locs 0 0 (MQ below (k_Qi D a c9 r9 σo A) args s 0 0 A) (F0 m 0 ls []) := by
  obtain ⟨hx, hb, hml, hown, hts, hr, hlk, hK, hN, hA⟩ := id C0
  unfold M_F_addPart at h
  refine lv_aload_n hx hb d_F_addPart_0 rfl (lv_at hl 0 rfl) ?_
  refine va_get (ci := 2) (C := R_F) (T := T_F) (N := 13) hx hb hts in_F hown hK hP 1 kw_1 rfl 8 (by decide) (hts _ q_41) (fun _ h9 => h9) rfl d_F_addPart_1 ?_
  refine lv_iload_n hx hb d_F_addPart_4 rfl (lv_at hl 1 rfl) ?_
  obtain ⟨v1, ev1, hv1, h⟩ := k_ld_e h
  refine va_iald hx hb hK hP 16 0 kw_16 rfl hv1 d_F_addPart_5 (k_top ev1 ?_)
  refine lv_istore_n (lv' := [(3, .int v1), (0, .ref (a 1)), (1, .int x1), (2, .int x2)]) hx hb d_F_addPart_6 rfl hl (by decide) rfl (fun ls hl => ?_)
  refine lv_iload_n hx hb d_F_addPart_7 rfl (lv_at hl 0 rfl) ?_
  refine lv_bipush (v := 12) hx hb d_F_addPart_8 (by decide) ?_
  refine lv_icmp_lt (tgt := 15) hx hb d_F_addPart_10 (by decide) (fun c2 => ?_) (fun c2 => ?_)
  · replace h := (if_pos c2).symm.trans h
    refine lv_iload_n hx hb d_F_addPart_15 rfl (lv_at hl 2 rfl) ?_
    refine lv_bipush (v := 12) hx hb d_F_addPart_16 (by decide) ?_
    refine lv_imul hx hb d_F_addPart_18 ?_
    obtain ⟨v3, ev3, h⟩ := k_let_e h
    refine k_top ev3 ?_
    refine lv_istore (lv' := [(4, .int v3), (3, .int v1), (0, .ref (a 1)), (1, .int x1), (2, .int x2)]) hx hb d_F_addPart_19 hl (by decide) rfl (fun ls hl => ?_)
    refine lv_aload_n hx hb d_F_addPart_21 rfl (lv_at hl 2 rfl) ?_
    refine lv_iload_n hx hb d_F_addPart_22 rfl (lv_at hl 3 rfl) ?_
    refine lv_iload_n hx hb d_F_addPart_23 rfl (lv_at hl 4 rfl) ?_
    obtain ⟨v4, σ5, hc6, h⟩ := k_call_e h
    refine k_calli (va_runV (As := [.int x1, .int x2]) (rest := []) ⟨hx, hb, hml, hown, hts⟩ (K_F_placeFor l D a c9 H.size hc6) (cwV 2 hts (k_gV q_377 q_379 s_3 q_2 q_380) rfl rfl rfl h_F_placeFor ⟨Nat.le_of_ble_eq_true rfl, Nat.le_of_ble_eq_true rfl⟩) (k_preV (ci := 2) (q0 := 1) rfl kw_1 hP hK hN hD) rfl rfl hl.1 rfl (lv_room (Nat.le_of_ble_eq_true rfl)) d_F_addPart_24 ⟨Nat.zero_le _, Nat.zero_le _⟩) hD hS hA (fun H locs hP hD hS => ?_)
    refine lv_istore (lv' := [(5, .int v4), (4, .int v3), (3, .int v1), (0, .ref (a 1)), (1, .int x1), (2, .int x2)]) hx hb d_F_addPart_27 hl (by decide) rfl (fun ls hl => ?_)
    refine lv_iload_n hx hb d_F_addPart_29 rfl (lv_at hl 2 rfl) ?_
    refine lv_istore (lv' := [(6, .int v1), (5, .int v4), (4, .int v3), (3, .int v1), (0, .ref (a 1)), (1, .int x1), (2, .int x2)]) hx hb d_F_addPart_30 hl (by decide) rfl (fun ls hl => ?_)
    exact B_F_addPart_32 C0 k_fu _ _ _ _ _ _ _ H locs ls hP hD hS (lv_sub hl [4, 5, 6, 3, 2, 1, 0] rfl) h
  · replace h := (if_neg c2).symm.trans h
    refine lv_iconst (v := 0) hx hb d_F_addPart_13 (by decide) ?_
    cases h
    exact k_zret (Or.inl rfl) hx hb hr hlk hP hS d_F_addPart_14
theorem K_F_addPart (l : Launch) (D : va_G) (a : Nat → Nat) (c9 : Nat → ClassId) (sz : Nat) {σ : kS} {x1 x2 : Int32} {r9 : Int32} {σo : kS} (h : M_F_addPart σ x1 x2 = some (r9, σo)) : Met l y_F_addPart (Cond.code y_F_addPart c_F_addPart 7 (some .boolean) :: kG) rm_F_addPart (k_Pc D a c9 sz σ [.ref (a 1), .int x1, .int x2]) (k_Qi D a c9 r9 σo (k_A a c9 σ sz)) 0 0 (k_A a c9 σ sz) :=
  k_met (Qf := k_Qi D a c9 r9 σo) (by decide) (Nat.le_of_ble_eq_true rfl) (fun p e s m args below meth c A ls C0 hP hD hS hl => B_F_addPart_0 C0 σ x1 x2 s.heap [] ls hP hD hS hl h)
def rm_F_addTest : Room := { frames := 0, cells := 0, slots := 0, locals := 0 }
def M_F_addTest (σ : kS) (x1 x2 x3 : Int32) : Option (Int32 × kS) := k_ld (σ.2.1 11) 240 (x1) fun v1 => if v1 < 3 then (k_st σ 12 720 (((x1 * 3) + v1)) (x2) fun σ3 => k_st σ3 13 720 (((x1 * 3) + v1)) (x3) fun σ4 => k_st σ4 11 240 (x1) ((v1 + 1)) fun σ5 => some (1, σ5)) else (some (0, σ))
set_option maxHeartbeats 4000000 in
set_option maxRecDepth 100000 in
theorem B_F_addTest_0 {p : Program} {l : Launch} {e : Env} {s : State} {m : MethodId} {args : Array Value} {below : List Frame} {meth : Method} {c : Code} {D : va_G} {a : Nat → Nat} {c9 : Nat → ClassId} {A : Nat → Prop} {r9 : Int32} {σo : kS} (C0 : k_Cx D c9 p s m args meth c R_F c_F_addTest 5 (some .boolean) A) (σ : kS) (x1 x2 x3 : Int32) (H : Heap) (locs : List Loc) (ls : Array Slot) (hP : va_P D kcl (kw a c9 σ) H) (hD : va_D A (kw a c9 σ)) (hS : va_S A s.heap H locs) (hl : lv_has ls 5 [(0, .ref (a 1)), (1, .int x1), (2, .int x2), (3, .int x3)]) (h : M_F_addTest σ x1 x2 x3 = some (r9, σo)) : W p l e rm_F_addTest s m args below meth c H locs 0 0 (MQ below (k_Qi D a c9 r9 σo A) args s 0 0 A) (F0 m 0 ls []) := by
  obtain ⟨hx, hb, hml, hown, hts, hr, hlk, hK, hN, hA⟩ := id C0
  unfold M_F_addTest at h
  refine lv_aload_n hx hb d_F_addTest_0 rfl (lv_at hl 0 rfl) ?_
  refine va_get (ci := 2) (C := R_F) (T := T_F) (N := 13) hx hb hts in_F hown hK hP 1 kw_1 rfl 10 (by decide) (hts _ q_43) (fun _ h9 => h9) rfl d_F_addTest_1 ?_
  refine lv_iload_n hx hb d_F_addTest_4 rfl (lv_at hl 1 rfl) ?_
  obtain ⟨v1, ev1, hv1, h⟩ := k_ld_e h
  refine va_iald hx hb hK hP 18 0 kw_18 rfl hv1 d_F_addTest_5 (k_top ev1 ?_)
  refine lv_istore (lv' := [(4, .int v1), (0, .ref (a 1)), (1, .int x1), (2, .int x2), (3, .int x3)]) hx hb d_F_addTest_6 hl (by decide) rfl (fun ls hl => ?_)
  refine lv_iload hx hb d_F_addTest_8 (lv_at hl 0 rfl) ?_
  refine lv_iconst (v := 3) hx hb d_F_addTest_10 (by decide) ?_
  refine lv_icmp_lt (tgt := 16) hx hb d_F_addTest_11 (by decide) (fun c2 => ?_) (fun c2 => ?_)
  · replace h := (if_pos c2).symm.trans h
    refine lv_aload_n hx hb d_F_addTest_16 rfl (lv_at hl 1 rfl) ?_
    refine va_get (ci := 2) (C := R_F) (T := T_F) (N := 13) hx hb hts in_F hown hK hP 1 kw_1 rfl 11 (by decide) (hts _ q_44) (fun _ h9 => h9) rfl d_F_addTest_17 ?_
    refine lv_iload_n hx hb d_F_addTest_20 rfl (lv_at hl 2 rfl) ?_
    refine lv_iconst (v := 3) hx hb d_F_addTest_21 (by decide) ?_
    refine lv_imul hx hb d_F_addTest_22 ?_
    refine lv_iload hx hb d_F_addTest_23 (lv_at hl 0 rfl) ?_
    refine lv_iadd hx hb d_F_addTest_25 ?_
    refine lv_iload_n hx hb d_F_addTest_26 rfl (lv_at hl 3 rfl) ?_
    obtain ⟨σ3, eσ3, hiσ3, h⟩ := k_st_e h
    refine va_iast hx hb hK hP hD hS 19 0 kw_19 rfl hiσ3 d_F_addTest_27 (fun H locs hP hD hS => ?_)
    replace hP := k_mvP (kw_s19.trans (congrArg _ eσ3.symm)) hP
    replace hD := k_mvD (kw_s19.trans (congrArg _ eσ3.symm)) hD
    refine lv_aload_n hx hb d_F_addTest_28 rfl (lv_at hl 1 rfl) ?_
    refine va_get (ci := 2) (C := R_F) (T := T_F) (N := 13) hx hb hts in_F hown hK hP 1 kw_1 rfl 12 (by decide) (hts _ q_45) (fun _ h9 => h9) rfl d_F_addTest_29 ?_
    refine lv_iload_n hx hb d_F_addTest_32 rfl (lv_at hl 2 rfl) ?_
    refine lv_iconst (v := 3) hx hb d_F_addTest_33 (by decide) ?_
    refine lv_imul hx hb d_F_addTest_34 ?_
    refine lv_iload hx hb d_F_addTest_35 (lv_at hl 0 rfl) ?_
    refine lv_iadd hx hb d_F_addTest_37 ?_
    refine lv_iload_n hx hb d_F_addTest_38 rfl (lv_at hl 4 rfl) ?_
    obtain ⟨σ4, eσ4, hiσ4, h⟩ := k_st_e h
    refine va_iast hx hb hK hP hD hS 20 0 kw_20 rfl hiσ4 d_F_addTest_39 (fun H locs hP hD hS => ?_)
    replace hP := k_mvP (kw_s20.trans (congrArg _ eσ4.symm)) hP
    replace hD := k_mvD (kw_s20.trans (congrArg _ eσ4.symm)) hD
    refine lv_aload_n hx hb d_F_addTest_40 rfl (lv_at hl 1 rfl) ?_
    refine va_get (ci := 2) (C := R_F) (T := T_F) (N := 13) hx hb hts in_F hown hK hP 1 kw_1 rfl 10 (by decide) (hts _ q_43) (fun _ h9 => h9) rfl d_F_addTest_41 ?_
    refine lv_iload_n hx hb d_F_addTest_44 rfl (lv_at hl 2 rfl) ?_
    refine lv_iload hx hb d_F_addTest_45 (lv_at hl 0 rfl) ?_
    refine lv_iconst (v := 1) hx hb d_F_addTest_47 (by decide) ?_
    refine lv_iadd hx hb d_F_addTest_48 ?_
    obtain ⟨σ5, eσ5, hiσ5, h⟩ := k_st_e h
    refine va_iast hx hb hK hP hD hS 18 0 kw_18 rfl hiσ5 d_F_addTest_49 (fun H locs hP hD hS => ?_)
    replace hP := k_mvP (kw_s18.trans (congrArg _ eσ5.symm)) hP
    replace hD := k_mvD (kw_s18.trans (congrArg _ eσ5.symm)) hD
    refine lv_iconst (v := 1) hx hb d_F_addTest_50 (by decide) ?_
    cases h
    exact k_zret (Or.inr rfl) hx hb hr hlk hP hS d_F_addTest_51
  · replace h := (if_neg c2).symm.trans h
    refine lv_iconst (v := 0) hx hb d_F_addTest_14 (by decide) ?_
    cases h
    exact k_zret (Or.inl rfl) hx hb hr hlk hP hS d_F_addTest_15
theorem K_F_addTest (l : Launch) (D : va_G) (a : Nat → Nat) (c9 : Nat → ClassId) (sz : Nat) {σ : kS} {x1 x2 x3 : Int32} {r9 : Int32} {σo : kS} (h : M_F_addTest σ x1 x2 x3 = some (r9, σo)) : Met l y_F_addTest (Cond.code y_F_addTest c_F_addTest 5 (some .boolean) :: kG) rm_F_addTest (k_Pc D a c9 sz σ [.ref (a 1), .int x1, .int x2, .int x3]) (k_Qi D a c9 r9 σo (k_A a c9 σ sz)) 0 0 (k_A a c9 σ sz) :=
  k_met (Qf := k_Qi D a c9 r9 σo) (by decide) (Nat.le_of_ble_eq_true rfl) (fun p e s m args below meth c A ls C0 hP hD hS hl => B_F_addTest_0 C0 σ x1 x2 x3 s.heap [] ls hP hD hS hl h)
def rm_F_passes : Room := { frames := 1, cells := 0, slots := 0, locals := 21 }
def M_F_passes (σ : kS) (x1 x2 x4 : Int32) : Option (Int32 × kS) := if x1 = 2 then (if x4 < x2 then (some (0, σ)) else (some (1, σ))) else (if x4 = 1 then (k_ld (σ.2.1 17) 12 (0) fun v3 => if x1 = 0 then (k_call (M_F_isLeaf σ v3) fun v5 σ6 => if v5 = 0 then (some (0, σ6)) else (k_ld (σ6.2.1 3) 240 (v3) fun v9 => if v9 ≤ x2 then (some (0, σ6)) else (some (1, σ6)))) else (if x1 = 1 then (k_call (M_F_isLeaf σ v3) fun v12 σ13 => if v12 = 0 then (some (0, σ13)) else (k_ld (σ13.2.1 3) 240 (v3) fun v16 => if x2 ≤ v16 then (some (0, σ13)) else (some (1, σ13)))) else (if x1 = 2 then (k_call (M_F_isLeaf σ v3) fun v19 σ20 => if v19 = 0 then (some (1, σ20)) else (some (0, σ20))) else (if x1 = 3 then (k_call (M_F_isNode σ v3) fun v24 σ25 => if v24 = 0 then (some (0, σ25)) else (k_ld (σ25.2.1 3) 240 (v3) fun v28 => if v28 = x2 then (some (1, σ25)) else (some (0, σ25)))) else (k_call (M_F_isLeaf σ v3) fun v30 σ31 => if v30 = 0 then (some (1, σ31)) else (some (0, σ31))))))) else (some (0, σ)))
set_option maxHeartbeats 4000000 in
set_option maxRecDepth 100000 in
theorem B_F_passes_0 {p : Program} {l : Launch} {e : Env} {s : State} {m : MethodId} {args : Array Value} {below : List Frame} {meth : Method} {c : Code} {D : va_G} {a : Nat → Nat} {c9 : Nat → ClassId} {A : Nat → Prop} {r9 : Int32} {σo : kS} (C0 : k_Cx D c9 p s m args meth c R_F c_F_passes 6 (some .boolean) A) (σ : kS) (x1 x2 x4 : Int32) (H : Heap) (locs : List Loc) (ls : Array Slot) (hP : va_P D kcl (kw a c9 σ) H) (hD : va_D A (kw a c9 σ)) (hS : va_S A s.heap H locs) (hl : lv_has ls 6 [(0, .ref (a 1)), (1, .int x1), (2, .int x2), (3, .ref (a 24)), (4, .int x4)]) (h : M_F_passes σ x1 x2 x4 = some (r9, σo)) : W p l e rm_F_passes s m args below meth c H locs 0 0 (MQ below (k_Qi D a c9 r9 σo A) args s 0 0 A) (F0 m 0 ls []) := by
  obtain ⟨hx, hb, hml, hown, hts, hr, hlk, hK, hN, hA⟩ := id C0
  unfold M_F_passes at h
  refine lv_iload_n hx hb d_F_passes_0 rfl (lv_at hl 1 rfl) ?_
  refine lv_iconst (v := 2) hx hb d_F_passes_1 (by decide) ?_
  refine lv_icmp_ne (tgt := 17) hx hb d_F_passes_2 (by decide) (fun c1 => ?_) (fun c1 => ?_)
  · replace h := (if_neg c1).symm.trans h
    refine lv_iload hx hb d_F_passes_17 (lv_at hl 4 rfl) ?_
    refine lv_iconst (v := 1) hx hb d_F_passes_19 (by decide) ?_
    refine lv_icmp_eq (tgt := 25) hx hb d_F_passes_20 (by decide) (fun c2 => ?_) (fun c2 => ?_)
    · replace h := (if_pos c2).symm.trans h
      refine lv_aload_n hx hb d_F_passes_25 rfl (lv_at hl 3 rfl) ?_
      refine lv_iconst (v := 0) hx hb d_F_passes_26 (by decide) ?_
      obtain ⟨v3, ev3, hv3, h⟩ := k_ld_e h
      refine va_iald hx hb hK hP 24 0 kw_24 rfl hv3 d_F_passes_27 (k_top ev3 ?_)
      refine lv_istore (lv' := [(5, .int v3), (0, .ref (a 1)), (1, .int x1), (2, .int x2), (3, .ref (a 24)), (4, .int x4)]) hx hb d_F_passes_28 hl (by decide) rfl (fun ls hl => ?_)
      refine lv_iload_n hx hb d_F_passes_30 rfl (lv_at hl 2 rfl) ?_
      by_cases c4 : x1 = 0
      · replace h := (if_pos c4).symm.trans h
        refine lv_tableIn (off := 29) (tgt := 60) hx hb d_F_passes_31 (by rw [c4]; decide) (by rw [c4]; decide) (by rw [c4]; rfl) (by decide) ?_
        refine lv_aload_n hx hb d_F_passes_60 rfl (lv_at hl 1 rfl) ?_
        refine lv_iload hx hb d_F_passes_61 (lv_at hl 0 rfl) ?_
        obtain ⟨v5, σ6, hc7, h⟩ := k_call_e h
        refine k_calli (va_runV (As := [.int v3]) (rest := []) ⟨hx, hb, hml, hown, hts⟩ (K_F_isLeaf l D a c9 H.size hc7) (cwV 1 hts (k_gV q_555 q_544 q_545 q_2 q_546) rfl rfl rfl h_F_isLeaf ⟨Nat.le_of_ble_eq_true rfl, Nat.le_of_ble_eq_true rfl⟩) (k_preV (ci := 2) (q0 := 1) rfl kw_1 hP hK hN hD) rfl rfl hl.1 rfl (lv_room (Nat.le_of_ble_eq_true rfl)) d_F_passes_63 ⟨Nat.zero_le _, Nat.zero_le _⟩) hD hS hA (fun H locs hP hD hS => ?_)
        refine lv_if_eq (tgt := 84) hx hb d_F_passes_66 (by decide) (fun c8 => ?_) (fun c8 => ?_)
        · replace h := (if_pos c8).symm.trans h
          refine lv_iconst (v := 0) hx hb d_F_passes_84 (by decide) ?_
          cases h
          exact k_zret (Or.inl rfl) hx hb hr hlk hP hS d_F_passes_85
        · replace h := (if_neg c8).symm.trans h
          refine lv_aload_n hx hb d_F_passes_69 rfl (lv_at hl 1 rfl) ?_
          refine va_get (ci := 2) (C := R_F) (T := T_F) (N := 13) hx hb hts in_F hown hK hP 1 kw_1 rfl 2 (by decide) (hts _ q_35) (fun _ h9 => h9) rfl d_F_passes_70 ?_
          refine lv_iload hx hb d_F_passes_73 (lv_at hl 0 rfl) ?_
          obtain ⟨v9, ev9, hv9, h⟩ := k_ld_e h
          refine va_iald hx hb hK hP 10 0 kw_10 rfl hv9 d_F_passes_75 (k_top ev9 ?_)
          refine lv_iload_n hx hb d_F_passes_76 rfl (lv_at hl 3 rfl) ?_
          refine lv_icmp_le (tgt := 84) hx hb d_F_passes_77 (by decide) (fun c10 => ?_) (fun c10 => ?_)
          · replace h := (if_pos c10).symm.trans h
            refine lv_iconst (v := 0) hx hb d_F_passes_84 (by decide) ?_
            cases h
            exact k_zret (Or.inl rfl) hx hb hr hlk hP hS d_F_passes_85
          · replace h := (if_neg c10).symm.trans h
            refine lv_iconst (v := 1) hx hb d_F_passes_80 (by decide) ?_
            refine lv_goto (tgt := 85) hx hb d_F_passes_81 (by decide) ?_
            cases h
            exact k_zret (Or.inr rfl) hx hb hr hlk hP hS d_F_passes_85
      replace h := (if_neg c4).symm.trans h
      by_cases c11 : x1 = 1
      · replace h := (if_pos c11).symm.trans h
        refine lv_tableIn (off := 55) (tgt := 86) hx hb d_F_passes_31 (by rw [c11]; decide) (by rw [c11]; decide) (by rw [c11]; rfl) (by decide) ?_
        refine lv_aload_n hx hb d_F_passes_86 rfl (lv_at hl 1 rfl) ?_
        refine lv_iload hx hb d_F_passes_87 (lv_at hl 0 rfl) ?_
        obtain ⟨v12, σ13, hc14, h⟩ := k_call_e h
        refine k_calli (va_runV (As := [.int v3]) (rest := []) ⟨hx, hb, hml, hown, hts⟩ (K_F_isLeaf l D a c9 H.size hc14) (cwV 1 hts (k_gV q_555 q_544 q_545 q_2 q_546) rfl rfl rfl h_F_isLeaf ⟨Nat.le_of_ble_eq_true rfl, Nat.le_of_ble_eq_true rfl⟩) (k_preV (ci := 2) (q0 := 1) rfl kw_1 hP hK hN hD) rfl rfl hl.1 rfl (lv_room (Nat.le_of_ble_eq_true rfl)) d_F_passes_89 ⟨Nat.zero_le _, Nat.zero_le _⟩) hD hS hA (fun H locs hP hD hS => ?_)
        refine lv_if_eq (tgt := 110) hx hb d_F_passes_92 (by decide) (fun c15 => ?_) (fun c15 => ?_)
        · replace h := (if_pos c15).symm.trans h
          refine lv_iconst (v := 0) hx hb d_F_passes_110 (by decide) ?_
          cases h
          exact k_zret (Or.inl rfl) hx hb hr hlk hP hS d_F_passes_111
        · replace h := (if_neg c15).symm.trans h
          refine lv_aload_n hx hb d_F_passes_95 rfl (lv_at hl 1 rfl) ?_
          refine va_get (ci := 2) (C := R_F) (T := T_F) (N := 13) hx hb hts in_F hown hK hP 1 kw_1 rfl 2 (by decide) (hts _ q_35) (fun _ h9 => h9) rfl d_F_passes_96 ?_
          refine lv_iload hx hb d_F_passes_99 (lv_at hl 0 rfl) ?_
          obtain ⟨v16, ev16, hv16, h⟩ := k_ld_e h
          refine va_iald hx hb hK hP 10 0 kw_10 rfl hv16 d_F_passes_101 (k_top ev16 ?_)
          refine lv_iload_n hx hb d_F_passes_102 rfl (lv_at hl 3 rfl) ?_
          refine lv_icmp_ge (tgt := 110) hx hb d_F_passes_103 (by decide) (fun c17 => ?_) (fun c17 => ?_)
          · replace h := (if_pos c17).symm.trans h
            refine lv_iconst (v := 0) hx hb d_F_passes_110 (by decide) ?_
            cases h
            exact k_zret (Or.inl rfl) hx hb hr hlk hP hS d_F_passes_111
          · replace h := (if_neg c17).symm.trans h
            refine lv_iconst (v := 1) hx hb d_F_passes_106 (by decide) ?_
            refine lv_goto (tgt := 111) hx hb d_F_passes_107 (by decide) ?_
            cases h
            exact k_zret (Or.inr rfl) hx hb hr hlk hP hS d_F_passes_111
      replace h := (if_neg c11).symm.trans h
      by_cases c18 : x1 = 2
      · replace h := (if_pos c18).symm.trans h
        refine lv_tableIn (off := 107) (tgt := 138) hx hb d_F_passes_31 (by rw [c18]; decide) (by rw [c18]; decide) (by rw [c18]; rfl) (by decide) ?_
        refine lv_aload_n hx hb d_F_passes_138 rfl (lv_at hl 1 rfl) ?_
        refine lv_iload hx hb d_F_passes_139 (lv_at hl 0 rfl) ?_
        obtain ⟨v19, σ20, hc21, h⟩ := k_call_e h
        refine k_calli (va_runV (As := [.int v3]) (rest := []) ⟨hx, hb, hml, hown, hts⟩ (K_F_isLeaf l D a c9 H.size hc21) (cwV 1 hts (k_gV q_555 q_544 q_545 q_2 q_546) rfl rfl rfl h_F_isLeaf ⟨Nat.le_of_ble_eq_true rfl, Nat.le_of_ble_eq_true rfl⟩) (k_preV (ci := 2) (q0 := 1) rfl kw_1 hP hK hN hD) rfl rfl hl.1 rfl (lv_room (Nat.le_of_ble_eq_true rfl)) d_F_passes_141 ⟨Nat.zero_le _, Nat.zero_le _⟩) hD hS hA (fun H locs hP hD hS => ?_)
        refine lv_if_ne (tgt := 151) hx hb d_F_passes_144 (by decide) (fun c22 => ?_) (fun c22 => ?_)
        · replace h := (if_neg c22).symm.trans h
          refine lv_iconst (v := 0) hx hb d_F_passes_151 (by decide) ?_
          cases h
          exact k_zret (Or.inl rfl) hx hb hr hlk hP hS d_F_passes_152
        · replace h := (if_pos c22).symm.trans h
          refine lv_iconst (v := 1) hx hb d_F_passes_147 (by decide) ?_
          refine lv_goto (tgt := 152) hx hb d_F_passes_148 (by decide) ?_
          cases h
          exact k_zret (Or.inr rfl) hx hb hr hlk hP hS d_F_passes_152
      replace h := (if_neg c18).symm.trans h
      by_cases c23 : x1 = 3
      · replace h := (if_pos c23).symm.trans h
        refine lv_tableIn (off := 81) (tgt := 112) hx hb d_F_passes_31 (by rw [c23]; decide) (by rw [c23]; decide) (by rw [c23]; rfl) (by decide) ?_
        refine lv_aload_n hx hb d_F_passes_112 rfl (lv_at hl 1 rfl) ?_
        refine lv_iload hx hb d_F_passes_113 (lv_at hl 0 rfl) ?_
        obtain ⟨v24, σ25, hc26, h⟩ := k_call_e h
        refine k_calli (va_runV (As := [.int v3]) (rest := []) ⟨hx, hb, hml, hown, hts⟩ (K_F_isNode l D a c9 H.size hc26) (cwV 1 hts (k_gV q_556 q_557 q_558 q_2 q_559) rfl rfl rfl h_F_isNode ⟨Nat.le_of_ble_eq_true rfl, Nat.le_of_ble_eq_true rfl⟩) (k_preV (ci := 2) (q0 := 1) rfl kw_1 hP hK hN hD) rfl rfl hl.1 rfl (lv_room (Nat.le_of_ble_eq_true rfl)) d_F_passes_115 ⟨Nat.zero_le _, Nat.zero_le _⟩) hD hS hA (fun H locs hP hD hS => ?_)
        refine lv_if_eq (tgt := 136) hx hb d_F_passes_118 (by decide) (fun c27 => ?_) (fun c27 => ?_)
        · replace h := (if_pos c27).symm.trans h
          refine lv_iconst (v := 0) hx hb d_F_passes_136 (by decide) ?_
          cases h
          exact k_zret (Or.inl rfl) hx hb hr hlk hP hS d_F_passes_137
        · replace h := (if_neg c27).symm.trans h
          refine lv_aload_n hx hb d_F_passes_121 rfl (lv_at hl 1 rfl) ?_
          refine va_get (ci := 2) (C := R_F) (T := T_F) (N := 13) hx hb hts in_F hown hK hP 1 kw_1 rfl 2 (by decide) (hts _ q_35) (fun _ h9 => h9) rfl d_F_passes_122 ?_
          refine lv_iload hx hb d_F_passes_125 (lv_at hl 0 rfl) ?_
          obtain ⟨v28, ev28, hv28, h⟩ := k_ld_e h
          refine va_iald hx hb hK hP 10 0 kw_10 rfl hv28 d_F_passes_127 (k_top ev28 ?_)
          refine lv_iload_n hx hb d_F_passes_128 rfl (lv_at hl 3 rfl) ?_
          refine lv_icmp_ne (tgt := 136) hx hb d_F_passes_129 (by decide) (fun c29 => ?_) (fun c29 => ?_)
          · replace h := (if_neg c29).symm.trans h
            refine lv_iconst (v := 0) hx hb d_F_passes_136 (by decide) ?_
            cases h
            exact k_zret (Or.inl rfl) hx hb hr hlk hP hS d_F_passes_137
          · replace h := (if_pos c29).symm.trans h
            refine lv_iconst (v := 1) hx hb d_F_passes_132 (by decide) ?_
            refine lv_goto (tgt := 137) hx hb d_F_passes_133 (by decide) ?_
            cases h
            exact k_zret (Or.inr rfl) hx hb hr hlk hP hS d_F_passes_137
      replace h := (if_neg c23).symm.trans h
      refine lv_tableOut (tgt := 138) hx hb d_F_passes_31 (by have := lv_neT c4 (k := 0) (a := 0) (by decide); have := lv_neT c11 (k := 1) (a := 1) (by decide); have := lv_neT c18 (k := 2) (a := 2) (by decide); have := lv_neT c23 (k := 3) (a := 3) (by decide); omega) (by decide) ?_
      refine lv_aload_n hx hb d_F_passes_138 rfl (lv_at hl 1 rfl) ?_
      refine lv_iload hx hb d_F_passes_139 (lv_at hl 0 rfl) ?_
      obtain ⟨v30, σ31, hc32, h⟩ := k_call_e h
      refine k_calli (va_runV (As := [.int v3]) (rest := []) ⟨hx, hb, hml, hown, hts⟩ (K_F_isLeaf l D a c9 H.size hc32) (cwV 1 hts (k_gV q_555 q_544 q_545 q_2 q_546) rfl rfl rfl h_F_isLeaf ⟨Nat.le_of_ble_eq_true rfl, Nat.le_of_ble_eq_true rfl⟩) (k_preV (ci := 2) (q0 := 1) rfl kw_1 hP hK hN hD) rfl rfl hl.1 rfl (lv_room (Nat.le_of_ble_eq_true rfl)) d_F_passes_141 ⟨Nat.zero_le _, Nat.zero_le _⟩) hD hS hA (fun H locs hP hD hS => ?_)
      refine lv_if_ne (tgt := 151) hx hb d_F_passes_144 (by decide) (fun c33 => ?_) (fun c33 => ?_)
      · replace h := (if_neg c33).symm.trans h
        refine lv_iconst (v := 0) hx hb d_F_passes_151 (by decide) ?_
        cases h
        exact k_zret (Or.inl rfl) hx hb hr hlk hP hS d_F_passes_152
      · replace h := (if_pos c33).symm.trans h
        refine lv_iconst (v := 1) hx hb d_F_passes_147 (by decide) ?_
        refine lv_goto (tgt := 152) hx hb d_F_passes_148 (by decide) ?_
        cases h
        exact k_zret (Or.inr rfl) hx hb hr hlk hP hS d_F_passes_152
    · replace h := (if_neg c2).symm.trans h
      refine lv_iconst (v := 0) hx hb d_F_passes_23 (by decide) ?_
      cases h
      exact k_zret (Or.inl rfl) hx hb hr hlk hP hS d_F_passes_24
  · replace h := (if_pos c1).symm.trans h
    refine lv_iload hx hb d_F_passes_5 (lv_at hl 4 rfl) ?_
    refine lv_iload_n hx hb d_F_passes_7 rfl (lv_at hl 2 rfl) ?_
    refine lv_icmp_lt (tgt := 15) hx hb d_F_passes_8 (by decide) (fun c34 => ?_) (fun c34 => ?_)
    · replace h := (if_pos c34).symm.trans h
      refine lv_iconst (v := 0) hx hb d_F_passes_15 (by decide) ?_
      cases h
      exact k_zret (Or.inl rfl) hx hb hr hlk hP hS d_F_passes_16
    · replace h := (if_neg c34).symm.trans h
      refine lv_iconst (v := 1) hx hb d_F_passes_11 (by decide) ?_
      refine lv_goto (tgt := 16) hx hb d_F_passes_12 (by decide) ?_
      cases h
      exact k_zret (Or.inr rfl) hx hb hr hlk hP hS d_F_passes_16
theorem K_F_passes (l : Launch) (D : va_G) (a : Nat → Nat) (c9 : Nat → ClassId) (sz : Nat) {σ : kS} {x1 x2 x4 : Int32} {r9 : Int32} {σo : kS} (h : M_F_passes σ x1 x2 x4 = some (r9, σo)) : Met l y_F_passes (Cond.code y_F_passes c_F_passes 6 (some .boolean) :: kG) rm_F_passes (k_Pc D a c9 sz σ [.ref (a 1), .int x1, .int x2, .ref (a 24), .int x4]) (k_Qi D a c9 r9 σo (k_A a c9 σ sz)) 0 0 (k_A a c9 σ sz) :=
  k_met (Qf := k_Qi D a c9 r9 σo) (by decide) (Nat.le_of_ble_eq_true rfl) (fun p e s m args below meth c A ls C0 hP hD hS hl => B_F_passes_0 C0 σ x1 x2 x4 s.heap [] ls hP hD hS hl h)
def rm_F_passesTests : Room := { frames := 2, cells := 0, slots := 0, locals := 46 }
def M_F_passesTests_3_b (self9 : kS → Int32 → Int32 → Int32 → Option (Int32 × kS)) (σ : kS) (x1 x3 x4 : Int32) : Option (Int32 × kS) := k_ld (σ.2.1 11) 240 (x1) fun v1 => if v1 ≤ x4 then (some (1, σ)) else (k_let (((x1 * 3) + x4)) fun v3 => k_ld (σ.2.1 12) 720 (v3) fun v4 => k_ld (σ.2.1 13) 720 (v3) fun v5 => k_call (M_F_passes σ v4 v5 x3) fun v6 σ7 => if v6 = 0 then (some (0, σ7)) else (k_let (x4 + 1) fun v10 => self9 σ7 x1 x3 v10))
def M_F_passesTests_3 : Nat → kS → Int32 → Int32 → Int32 → Option (Int32 × kS)
  | 0 => fun _ _ _ _ => none
  | n + 1 => M_F_passesTests_3_b (M_F_passesTests_3 n)
set_option maxHeartbeats 4000000 in
set_option maxRecDepth 100000 in
theorem B_F_passesTests_3 {p : Program} {l : Launch} {e : Env} {s : State} {m : MethodId} {args : Array Value} {below : List Frame} {meth : Method} {c : Code} {D : va_G} {a : Nat → Nat} {c9 : Nat → ClassId} {A : Nat → Prop} {r9 : Int32} {σo : kS} (C0 : k_Cx D c9 p s m args meth c R_F c_F_passesTests 6 (some .boolean) A) : ∀ (n : Nat) (σ : kS) (x1 x3 x4 : Int32) (H : Heap) (locs : List Loc) (ls : Array Slot), va_P D kcl (kw a c9 σ) H → va_D A (kw a c9 σ) → va_S A s.heap H locs → lv_has ls 6 [(0, .ref (a 1)), (1, .int x1), (2, .ref (a 24)), (3, .int x3), (4, .int x4)] → M_F_passesTests_3 n σ x1 x3 x4 = some (r9, σo) → W p l e rm_F_passesTests s m args below meth c H locs 0 0 (MQ below (k_Qi D a c9 r9 σo A) args s 0 0 A) (F0 m 3 ls []) := by
  obtain ⟨hx, hb, hml, hown, hts, hr, hlk, hK, hN, hA⟩ := id C0
  intro n
  induction n with
  | zero =>
    intro σ x1 x3 x4 H locs ls hP hD hS hl h
    replace h : (none : Option (Int32 × kS)) = some (r9, σo) := h
    cases h
  | succ n ih =>
    intro σ x1 x3 x4 H locs ls hP hD hS hl h
    replace h : M_F_passesTests_3_b (M_F_passesTests_3 n) σ x1 x3 x4 = some (r9, σo) := h
    unfold M_F_passesTests_3_b at h
    refine lv_iload hx hb d_F_passesTests_3 (lv_at hl 4 rfl) ?_
    refine lv_aload_n hx hb d_F_passesTests_5 rfl (lv_at hl 0 rfl) ?_
    refine va_get (ci := 2) (C := R_F) (T := T_F) (N := 13) hx hb hts in_F hown hK hP 1 kw_1 rfl 10 (by decide) (hts _ q_43) (fun _ h9 => h9) rfl d_F_passesTests_6 ?_
    refine lv_iload_n hx hb d_F_passesTests_9 rfl (lv_at hl 1 rfl) ?_
    obtain ⟨v1, ev1, hv1, h⟩ := k_ld_e h
    refine va_iald hx hb hK hP 18 0 kw_18 rfl hv1 d_F_passesTests_10 (k_top ev1 ?_)
    refine lv_icmp_ge (tgt := 53) hx hb d_F_passesTests_11 (by decide) (fun c2 => ?_) (fun c2 => ?_)
    · replace h := (if_pos c2).symm.trans h
      refine lv_iconst (v := 1) hx hb d_F_passesTests_53 (by decide) ?_
      cases h
      exact k_zret (Or.inr rfl) hx hb hr hlk hP hS d_F_passesTests_54
    · replace h := (if_neg c2).symm.trans h
      refine lv_iload_n hx hb d_F_passesTests_14 rfl (lv_at hl 1 rfl) ?_
      refine lv_iconst (v := 3) hx hb d_F_passesTests_15 (by decide) ?_
      refine lv_imul hx hb d_F_passesTests_16 ?_
      refine lv_iload hx hb d_F_passesTests_17 (lv_at hl 4 rfl) ?_
      refine lv_iadd hx hb d_F_passesTests_19 ?_
      obtain ⟨v3, ev3, h⟩ := k_let_e h
      refine k_top ev3 ?_
      refine lv_istore (lv' := [(5, .int v3), (0, .ref (a 1)), (1, .int x1), (2, .ref (a 24)), (3, .int x3), (4, .int x4)]) hx hb d_F_passesTests_20 hl (by decide) rfl (fun ls hl => ?_)
      refine lv_aload_n hx hb d_F_passesTests_22 rfl (lv_at hl 1 rfl) ?_
      refine lv_aload_n hx hb d_F_passesTests_23 rfl (lv_at hl 1 rfl) ?_
      refine va_get (ci := 2) (C := R_F) (T := T_F) (N := 13) hx hb hts in_F hown hK hP 1 kw_1 rfl 11 (by decide) (hts _ q_44) (fun _ h9 => h9) rfl d_F_passesTests_24 ?_
      refine lv_iload hx hb d_F_passesTests_27 (lv_at hl 0 rfl) ?_
      obtain ⟨v4, ev4, hv4, h⟩ := k_ld_e h
      refine va_iald hx hb hK hP 19 0 kw_19 rfl hv4 d_F_passesTests_29 (k_top ev4 ?_)
      refine lv_aload_n hx hb d_F_passesTests_30 rfl (lv_at hl 1 rfl) ?_
      refine va_get (ci := 2) (C := R_F) (T := T_F) (N := 13) hx hb hts in_F hown hK hP 1 kw_1 rfl 12 (by decide) (hts _ q_45) (fun _ h9 => h9) rfl d_F_passesTests_31 ?_
      refine lv_iload hx hb d_F_passesTests_34 (lv_at hl 0 rfl) ?_
      obtain ⟨v5, ev5, hv5, h⟩ := k_ld_e h
      refine va_iald hx hb hK hP 20 0 kw_20 rfl hv5 d_F_passesTests_36 (k_top ev5 ?_)
      refine lv_aload_n hx hb d_F_passesTests_37 rfl (lv_at hl 3 rfl) ?_
      refine lv_iload_n hx hb d_F_passesTests_38 rfl (lv_at hl 4 rfl) ?_
      obtain ⟨v6, σ7, hc8, h⟩ := k_call_e h
      refine k_calli (va_runV (As := [.int v4, .int v5, .ref (a 24), .int x3]) (rest := []) ⟨hx, hb, hml, hown, hts⟩ (K_F_passes l D a c9 H.size hc8) (cwV 4 hts (k_gV q_551 q_553 s_12 q_2 q_554) rfl rfl rfl h_F_passes ⟨Nat.le_of_ble_eq_true rfl, Nat.le_of_ble_eq_true rfl⟩) (k_preV (ci := 2) (q0 := 1) rfl kw_1 hP hK hN hD) rfl rfl hl.1 rfl (lv_room (Nat.le_of_ble_eq_true rfl)) d_F_passesTests_39 ⟨Nat.zero_le _, Nat.zero_le _⟩) hD hS hA (fun H locs hP hD hS => ?_)
      refine lv_if_ne (tgt := 47) hx hb d_F_passesTests_42 (by decide) (fun c9 => ?_) (fun c9 => ?_)
      · replace h := (if_neg c9).symm.trans h
        obtain ⟨v10, ev10, h⟩ := k_let_e h
        refine lv_iinc (v := v10) (lv' := [(4, .int v10), (5, .int v3), (0, .ref (a 1)), (1, .int x1), (2, .ref (a 24)), (3, .int x3)]) hx hb d_F_passesTests_47 hl (k := 5) rfl (by rw [ev10]; rfl) (by decide) rfl (fun ls hl => ?_)
        refine lv_goto (tgt := 3) hx hb d_F_passesTests_50 (by decide) ?_
        exact ih _ _ _ _ H locs ls hP hD hS (lv_sub hl [2, 3, 4, 5, 0] rfl) h
      · replace h := (if_pos c9).symm.trans h
        refine lv_iconst (v := 0) hx hb d_F_passesTests_45 (by decide) ?_
        cases h
        exact k_zret (Or.inl rfl) hx hb hr hlk hP hS d_F_passesTests_46
def M_F_passesTests (σ : kS) (x1 x3 : Int32) : Option (Int32 × kS) := M_F_passesTests_3 k_fu σ x1 x3 0
set_option maxHeartbeats 4000000 in
set_option maxRecDepth 100000 in
theorem B_F_passesTests_0 {p : Program} {l : Launch} {e : Env} {s : State} {m : MethodId} {args : Array Value} {below : List Frame} {meth : Method} {c : Code} {D : va_G} {a : Nat → Nat} {c9 : Nat → ClassId} {A : Nat → Prop} {r9 : Int32} {σo : kS} (C0 : k_Cx D c9 p s m args meth c R_F c_F_passesTests 6 (some .boolean) A) (σ : kS) (x1 x3 : Int32) (H : Heap) (locs : List Loc) (ls : Array Slot) (hP : va_P D kcl (kw a c9 σ) H) (hD : va_D A (kw a c9 σ)) (hS : va_S A s.heap H locs) (hl : lv_has ls 6 [(0, .ref (a 1)), (1, .int x1), (2, .ref (a 24)), (3, .int x3)]) (h : M_F_passesTests σ x1 x3 = some (r9, σo)) : W p l e rm_F_passesTests s m args below meth c H locs 0 0 (MQ below (k_Qi D a c9 r9 σo A) args s 0 0 A) (F0 m 0 ls []) := by
  obtain ⟨hx, hb, hml, hown, hts, hr, hlk, hK, hN, hA⟩ := id C0
  unfold M_F_passesTests at h
  refine lv_iconst (v := 0) hx hb d_F_passesTests_0 (by decide) ?_
  refine lv_istore (lv' := [(4, .int 0), (0, .ref (a 1)), (1, .int x1), (2, .ref (a 24)), (3, .int x3)]) hx hb d_F_passesTests_1 hl (by decide) rfl (fun ls hl => ?_)
  exact B_F_passesTests_3 C0 k_fu _ _ _ _ H locs ls hP hD hS (lv_sub hl [1, 2, 3, 4, 0] rfl) h
theorem K_F_passesTests (l : Launch) (D : va_G) (a : Nat → Nat) (c9 : Nat → ClassId) (sz : Nat) {σ : kS} {x1 x3 : Int32} {r9 : Int32} {σo : kS} (h : M_F_passesTests σ x1 x3 = some (r9, σo)) : Met l y_F_passesTests (Cond.code y_F_passesTests c_F_passesTests 6 (some .boolean) :: kG) rm_F_passesTests (k_Pc D a c9 sz σ [.ref (a 1), .int x1, .ref (a 24), .int x3]) (k_Qi D a c9 r9 σo (k_A a c9 σ sz)) 0 0 (k_A a c9 σ sz) :=
  k_met (Qf := k_Qi D a c9 r9 σo) (by decide) (Nat.le_of_ble_eq_true rfl) (fun p e s m args below meth c A ls C0 hP hD hS hl => B_F_passesTests_0 C0 σ x1 x3 s.heap [] ls hP hD hS hl h)
def rm_F_hasFittingCount : Room := { frames := 2, cells := 0, slots := 0, locals := 43 }
def M_F_hasFittingCount_41 (rec8 : kS → Int32 → Int32 → Int32 → Int32 → Int32 → Option (Int32 × kS)) (σ : kS) (x1 x2 x3 x4 x5 x6 : Int32) : Option (Int32 × kS) := if x4 = 0 then (k_call (M_F_takesSeveral σ x6) fun v3 σ4 => if v3 = 0 then (k_let (x5 + 1) fun v7 => rec8 σ4 x1 x2 x3 0 v7) else (k_let (x5 + 1) fun v8 => rec8 σ4 x1 x2 x3 1 v8)) else (k_let (x5 + 1) fun v2 => rec8 σ x1 x2 x3 1 v2)
set_option maxHeartbeats 4000000 in
set_option maxRecDepth 100000 in
theorem B_F_hasFittingCount_41 {p : Program} {l : Launch} {e : Env} {s : State} {m : MethodId} {args : Array Value} {below : List Frame} {meth : Method} {c : Code} {D : va_G} {a : Nat → Nat} {c9 : Nat → ClassId} {A : Nat → Prop} {r9 : Int32} {σo : kS} (C0 : k_Cx D c9 p s m args meth c R_F c_F_hasFittingCount 7 (some .boolean) A) {rec8 : kS → Int32 → Int32 → Int32 → Int32 → Int32 → Option (Int32 × kS)} (hrec8 : ∀ (σ : kS) (x1 x2 x3 x4 x5 : Int32) (H : Heap) (locs : List Loc) (ls : Array Slot), va_P D kcl (kw a c9 σ) H → va_D A (kw a c9 σ) → va_S A s.heap H locs → lv_has ls 7 [(0, .ref (a 1)), (1, .int x1), (2, .int x2), (3, .int x3), (4, .int x4), (5, .int x5)] → rec8 σ x1 x2 x3 x4 x5 = some (r9, σo) → W p l e rm_F_hasFittingCount s m args below meth c H locs 0 0 (MQ below (k_Qi D a c9 r9 σo A) args s 0 0 A) (F0 m 8 ls [])) (σ : kS) (x1 x2 x3 x4 x5 x6 : Int32) (H : Heap) (locs : List Loc) (ls : Array Slot) (hP : va_P D kcl (kw a c9 σ) H) (hD : va_D A (kw a c9 σ)) (hS : va_S A s.heap H locs) (hl : lv_has ls 7 [(0, .ref (a 1)), (1, .int x1), (2, .int x2), (3, .int x3), (4, .int x4), (5, .int x5), (6, .int x6)]) (h : M_F_hasFittingCount_41 rec8 σ x1 x2 x3 x4 x5 x6 = some (r9, σo)) : W p l e rm_F_hasFittingCount s m args below meth c H locs 0 0 (MQ below (k_Qi D a c9 r9 σo A) args s 0 0 A) (F0 m 41 ls []) := by
  obtain ⟨hx, hb, hml, hown, hts, hr, hlk, hK, hN, hA⟩ := id C0
  unfold M_F_hasFittingCount_41 at h
  refine lv_iload hx hb d_F_hasFittingCount_41 (lv_at hl 4 rfl) ?_
  refine lv_if_ne (tgt := 55) hx hb d_F_hasFittingCount_43 (by decide) (fun c1 => ?_) (fun c1 => ?_)
  · replace h := (if_neg c1).symm.trans h
    refine lv_iconst (v := 1) hx hb d_F_hasFittingCount_55 (by decide) ?_
    refine lv_goto (tgt := 60) hx hb d_F_hasFittingCount_56 (by decide) ?_
    refine lv_istore (lv' := [(4, .int 1), (0, .ref (a 1)), (1, .int x1), (2, .int x2), (3, .int x3), (5, .int x5), (6, .int x6)]) hx hb d_F_hasFittingCount_60 hl (by decide) rfl (fun ls hl => ?_)
    obtain ⟨v2, ev2, h⟩ := k_let_e h
    refine lv_iinc (v := v2) (lv' := [(5, .int v2), (4, .int 1), (0, .ref (a 1)), (1, .int x1), (2, .int x2), (3, .int x3), (6, .int x6)]) hx hb d_F_hasFittingCount_62 hl (k := 5) rfl (by rw [ev2]; rfl) (by decide) rfl (fun ls hl => ?_)
    refine lv_goto (tgt := 8) hx hb d_F_hasFittingCount_65 (by decide) ?_
    exact hrec8 _ _ _ _ _ _ H locs ls hP hD hS (lv_sub hl [2, 3, 4, 5, 1, 0] rfl) h
  · replace h := (if_pos c1).symm.trans h
    refine lv_aload_n hx hb d_F_hasFittingCount_46 rfl (lv_at hl 0 rfl) ?_
    refine lv_iload hx hb d_F_hasFittingCount_47 (lv_at hl 6 rfl) ?_
    obtain ⟨v3, σ4, hc5, h⟩ := k_call_e h
    refine k_calli (va_runV (As := [.int x6]) (rest := []) ⟨hx, hb, hml, hown, hts⟩ (K_F_takesSeveral l D a c9 H.size hc5) (cwV 1 hts (k_gV q_670 q_511 q_512 q_2 q_513) rfl rfl rfl h_F_takesSeveral ⟨Nat.le_of_ble_eq_true rfl, Nat.le_of_ble_eq_true rfl⟩) (k_preV (ci := 2) (q0 := 1) rfl kw_1 hP hK hN hD) rfl rfl hl.1 rfl (lv_room (Nat.le_of_ble_eq_true rfl)) d_F_hasFittingCount_49 ⟨Nat.zero_le _, Nat.zero_le _⟩) hD hS hA (fun H locs hP hD hS => ?_)
    refine lv_if_eq (tgt := 59) hx hb d_F_hasFittingCount_52 (by decide) (fun c6 => ?_) (fun c6 => ?_)
    · replace h := (if_pos c6).symm.trans h
      refine lv_iconst (v := 0) hx hb d_F_hasFittingCount_59 (by decide) ?_
      refine lv_istore (lv' := [(4, .int 0), (0, .ref (a 1)), (1, .int x1), (2, .int x2), (3, .int x3), (5, .int x5), (6, .int x6)]) hx hb d_F_hasFittingCount_60 hl (by decide) rfl (fun ls hl => ?_)
      obtain ⟨v7, ev7, h⟩ := k_let_e h
      refine lv_iinc (v := v7) (lv' := [(5, .int v7), (4, .int 0), (0, .ref (a 1)), (1, .int x1), (2, .int x2), (3, .int x3), (6, .int x6)]) hx hb d_F_hasFittingCount_62 hl (k := 5) rfl (by rw [ev7]; rfl) (by decide) rfl (fun ls hl => ?_)
      refine lv_goto (tgt := 8) hx hb d_F_hasFittingCount_65 (by decide) ?_
      exact hrec8 _ _ _ _ _ _ H locs ls hP hD hS (lv_sub hl [2, 3, 4, 5, 1, 0] rfl) h
    · replace h := (if_neg c6).symm.trans h
      refine lv_iconst (v := 1) hx hb d_F_hasFittingCount_55 (by decide) ?_
      refine lv_goto (tgt := 60) hx hb d_F_hasFittingCount_56 (by decide) ?_
      refine lv_istore (lv' := [(4, .int 1), (0, .ref (a 1)), (1, .int x1), (2, .int x2), (3, .int x3), (5, .int x5), (6, .int x6)]) hx hb d_F_hasFittingCount_60 hl (by decide) rfl (fun ls hl => ?_)
      obtain ⟨v8, ev8, h⟩ := k_let_e h
      refine lv_iinc (v := v8) (lv' := [(5, .int v8), (4, .int 1), (0, .ref (a 1)), (1, .int x1), (2, .int x2), (3, .int x3), (6, .int x6)]) hx hb d_F_hasFittingCount_62 hl (k := 5) rfl (by rw [ev8]; rfl) (by decide) rfl (fun ls hl => ?_)
      refine lv_goto (tgt := 8) hx hb d_F_hasFittingCount_65 (by decide) ?_
      exact hrec8 _ _ _ _ _ _ H locs ls hP hD hS (lv_sub hl [2, 3, 4, 5, 1, 0] rfl) h
def M_F_hasFittingCount_8_b (self9 : kS → Int32 → Int32 → Int32 → Int32 → Int32 → Option (Int32 × kS)) (σ : kS) (x1 x2 x3 x4 x5 : Int32) : Option (Int32 × kS) := k_ld (σ.2.1 9) 240 (x1) fun v1 => if v1 ≤ x5 then (k_ld (σ.2.1 9) 240 (x2) fun v3 => if v3 < x3 then (some (0, σ)) else (if x4 = 0 then (k_ld (σ.2.1 9) 240 (x2) fun v6 => k_ld (σ.2.1 9) 240 (x1) fun v7 => if v7 < v6 then (some (0, σ)) else (some (1, σ))) else (some (1, σ)))) else (k_call (M_F_partAt σ x1 x5) fun v9 σ10 => k_call (M_F_isHoleOfKind σ10 v9 3) fun v12 σ13 => if v12 = 0 then (k_let (x3 + 1) fun v16 => M_F_hasFittingCount_41 self9 σ13 x1 x2 v16 x4 x5 v9) else (M_F_hasFittingCount_41 self9 σ13 x1 x2 x3 x4 x5 v9))
def M_F_hasFittingCount_8 : Nat → kS → Int32 → Int32 → Int32 → Int32 → Int32 → Option (Int32 × kS)
  | 0 => fun _ _ _ _ _ _ => none
  | n + 1 => M_F_hasFittingCount_8_b (M_F_hasFittingCount_8 n)
set_option maxHeartbeats 4000000 in
set_option maxRecDepth 100000 in
theorem B_F_hasFittingCount_8 {p : Program} {l : Launch} {e : Env} {s : State} {m : MethodId} {args : Array Value} {below : List Frame} {meth : Method} {c : Code} {D : va_G} {a : Nat → Nat} {c9 : Nat → ClassId} {A : Nat → Prop} {r9 : Int32} {σo : kS} (C0 : k_Cx D c9 p s m args meth c R_F c_F_hasFittingCount 7 (some .boolean) A) : ∀ (n : Nat) (σ : kS) (x1 x2 x3 x4 x5 : Int32) (H : Heap) (locs : List Loc) (ls : Array Slot), va_P D kcl (kw a c9 σ) H → va_D A (kw a c9 σ) → va_S A s.heap H locs → lv_has ls 7 [(0, .ref (a 1)), (1, .int x1), (2, .int x2), (3, .int x3), (4, .int x4), (5, .int x5)] → M_F_hasFittingCount_8 n σ x1 x2 x3 x4 x5 = some (r9, σo) → W p l e rm_F_hasFittingCount s m args below meth c H locs 0 0 (MQ below (k_Qi D a c9 r9 σo A) args s 0 0 A) (F0 m 8 ls []) := by
  obtain ⟨hx, hb, hml, hown, hts, hr, hlk, hK, hN, hA⟩ := id C0
  intro n
  induction n with
  | zero =>
    intro σ x1 x2 x3 x4 x5 H locs ls hP hD hS hl h
    replace h : (none : Option (Int32 × kS)) = some (r9, σo) := h
    cases h
  | succ n ih =>
    intro σ x1 x2 x3 x4 x5 H locs ls hP hD hS hl h
    replace h : M_F_hasFittingCount_8_b (M_F_hasFittingCount_8 n) σ x1 x2 x3 x4 x5 = some (r9, σo) := h
    unfold M_F_hasFittingCount_8_b at h
    refine lv_iload hx hb d_F_hasFittingCount_8 (lv_at hl 5 rfl) ?_
    refine lv_aload_n hx hb d_F_hasFittingCount_10 rfl (lv_at hl 0 rfl) ?_
    refine va_get (ci := 2) (C := R_F) (T := T_F) (N := 13) hx hb hts in_F hown hK hP 1 kw_1 rfl 8 (by decide) (hts _ q_41) (fun _ h9 => h9) rfl d_F_hasFittingCount_11 ?_
    refine lv_iload_n hx hb d_F_hasFittingCount_14 rfl (lv_at hl 1 rfl) ?_
    obtain ⟨v1, ev1, hv1, h⟩ := k_ld_e h
    refine va_iald hx hb hK hP 16 0 kw_16 rfl hv1 d_F_hasFittingCount_15 (k_top ev1 ?_)
    refine lv_icmp_ge (tgt := 68) hx hb d_F_hasFittingCount_16 (by decide) (fun c2 => ?_) (fun c2 => ?_)
    · replace h := (if_pos c2).symm.trans h
      refine lv_aload_n hx hb d_F_hasFittingCount_68 rfl (lv_at hl 0 rfl) ?_
      refine va_get (ci := 2) (C := R_F) (T := T_F) (N := 13) hx hb hts in_F hown hK hP 1 kw_1 rfl 8 (by decide) (hts _ q_41) (fun _ h9 => h9) rfl d_F_hasFittingCount_69 ?_
      refine lv_iload_n hx hb d_F_hasFittingCount_72 rfl (lv_at hl 2 rfl) ?_
      obtain ⟨v3, ev3, hv3, h⟩ := k_ld_e h
      refine va_iald hx hb hK hP 16 0 kw_16 rfl hv3 d_F_hasFittingCount_73 (k_top ev3 ?_)
      refine lv_iload_n hx hb d_F_hasFittingCount_74 rfl (lv_at hl 3 rfl) ?_
      refine lv_icmp_lt (tgt := 102) hx hb d_F_hasFittingCount_75 (by decide) (fun c4 => ?_) (fun c4 => ?_)
      · replace h := (if_pos c4).symm.trans h
        refine lv_iconst (v := 0) hx hb d_F_hasFittingCount_102 (by decide) ?_
        cases h
        exact k_zret (Or.inl rfl) hx hb hr hlk hP hS d_F_hasFittingCount_103
      · replace h := (if_neg c4).symm.trans h
        refine lv_iload hx hb d_F_hasFittingCount_78 (lv_at hl 4 rfl) ?_
        refine lv_if_ne (tgt := 98) hx hb d_F_hasFittingCount_80 (by decide) (fun c5 => ?_) (fun c5 => ?_)
        · replace h := (if_neg c5).symm.trans h
          refine lv_iconst (v := 1) hx hb d_F_hasFittingCount_98 (by decide) ?_
          refine lv_goto (tgt := 103) hx hb d_F_hasFittingCount_99 (by decide) ?_
          cases h
          exact k_zret (Or.inr rfl) hx hb hr hlk hP hS d_F_hasFittingCount_103
        · replace h := (if_pos c5).symm.trans h
          refine lv_aload_n hx hb d_F_hasFittingCount_83 rfl (lv_at hl 0 rfl) ?_
          refine va_get (ci := 2) (C := R_F) (T := T_F) (N := 13) hx hb hts in_F hown hK hP 1 kw_1 rfl 8 (by decide) (hts _ q_41) (fun _ h9 => h9) rfl d_F_hasFittingCount_84 ?_
          refine lv_iload_n hx hb d_F_hasFittingCount_87 rfl (lv_at hl 2 rfl) ?_
          obtain ⟨v6, ev6, hv6, h⟩ := k_ld_e h
          refine va_iald hx hb hK hP 16 0 kw_16 rfl hv6 d_F_hasFittingCount_88 (k_top ev6 ?_)
          refine lv_aload_n hx hb d_F_hasFittingCount_89 rfl (lv_at hl 0 rfl) ?_
          refine va_get (ci := 2) (C := R_F) (T := T_F) (N := 13) hx hb hts in_F hown hK hP 1 kw_1 rfl 8 (by decide) (hts _ q_41) (fun _ h9 => h9) rfl d_F_hasFittingCount_90 ?_
          refine lv_iload_n hx hb d_F_hasFittingCount_93 rfl (lv_at hl 1 rfl) ?_
          obtain ⟨v7, ev7, hv7, h⟩ := k_ld_e h
          refine va_iald hx hb hK hP 16 0 kw_16 rfl hv7 d_F_hasFittingCount_94 (k_top ev7 ?_)
          refine lv_icmp_gt (tgt := 102) hx hb d_F_hasFittingCount_95 (by decide) (fun c8 => ?_) (fun c8 => ?_)
          · replace h := (if_pos c8).symm.trans h
            refine lv_iconst (v := 0) hx hb d_F_hasFittingCount_102 (by decide) ?_
            cases h
            exact k_zret (Or.inl rfl) hx hb hr hlk hP hS d_F_hasFittingCount_103
          · replace h := (if_neg c8).symm.trans h
            refine lv_iconst (v := 1) hx hb d_F_hasFittingCount_98 (by decide) ?_
            refine lv_goto (tgt := 103) hx hb d_F_hasFittingCount_99 (by decide) ?_
            cases h
            exact k_zret (Or.inr rfl) hx hb hr hlk hP hS d_F_hasFittingCount_103
    · replace h := (if_neg c2).symm.trans h
      refine lv_aload_n hx hb d_F_hasFittingCount_19 rfl (lv_at hl 0 rfl) ?_
      refine lv_iload_n hx hb d_F_hasFittingCount_20 rfl (lv_at hl 1 rfl) ?_
      refine lv_iload hx hb d_F_hasFittingCount_21 (lv_at hl 5 rfl) ?_
      obtain ⟨v9, σ10, hc11, h⟩ := k_call_e h
      refine k_calli (va_runV (As := [.int x1, .int x5]) (rest := []) ⟨hx, hb, hml, hown, hts⟩ (K_F_partAt l D a c9 H.size hc11) (cwV 2 hts (k_gV q_385 q_386 q_387 q_2 q_388) rfl rfl rfl h_F_partAt ⟨Nat.le_of_ble_eq_true rfl, Nat.le_of_ble_eq_true rfl⟩) (k_preV (ci := 2) (q0 := 1) rfl kw_1 hP hK hN hD) rfl rfl hl.1 rfl (lv_room (Nat.le_of_ble_eq_true rfl)) d_F_hasFittingCount_23 ⟨Nat.zero_le _, Nat.zero_le _⟩) hD hS hA (fun H locs hP hD hS => ?_)
      refine lv_istore (lv' := [(6, .int v9), (0, .ref (a 1)), (1, .int x1), (2, .int x2), (3, .int x3), (4, .int x4), (5, .int x5)]) hx hb d_F_hasFittingCount_26 hl (by decide) rfl (fun ls hl => ?_)
      refine lv_aload_n hx hb d_F_hasFittingCount_28 rfl (lv_at hl 1 rfl) ?_
      refine lv_iload hx hb d_F_hasFittingCount_29 (lv_at hl 0 rfl) ?_
      refine lv_iconst (v := 3) hx hb d_F_hasFittingCount_31 (by decide) ?_
      obtain ⟨v12, σ13, hc14, h⟩ := k_call_e h
      refine k_calli (va_runV (As := [.int v9, .int 3]) (rest := []) ⟨hx, hb, hml, hown, hts⟩ (K_F_isHoleOfKind l D a c9 H.size hc14) (cwV 2 hts (k_gV q_514 q_499 q_500 q_2 q_501) rfl rfl rfl h_F_isHoleOfKind ⟨Nat.le_of_ble_eq_true rfl, Nat.le_of_ble_eq_true rfl⟩) (k_preV (ci := 2) (q0 := 1) rfl kw_1 hP hK hN hD) rfl rfl hl.1 rfl (lv_room (Nat.le_of_ble_eq_true rfl)) d_F_hasFittingCount_32 ⟨Nat.zero_le _, Nat.zero_le _⟩) hD hS hA (fun H locs hP hD hS => ?_)
      refine lv_if_ne (tgt := 41) hx hb d_F_hasFittingCount_35 (by decide) (fun c15 => ?_) (fun c15 => ?_)
      · replace h := (if_neg c15).symm.trans h
        exact B_F_hasFittingCount_41 C0 ih _ _ _ _ _ _ _ H locs ls hP hD hS (lv_sub hl [1, 2, 3, 4, 5, 6, 0] rfl) h
      · replace h := (if_pos c15).symm.trans h
        obtain ⟨v16, ev16, h⟩ := k_let_e h
        refine lv_iinc (v := v16) (lv' := [(3, .int v16), (6, .int v9), (0, .ref (a 1)), (1, .int x1), (2, .int x2), (4, .int x4), (5, .int x5)]) hx hb d_F_hasFittingCount_38 hl (k := 4) rfl (by rw [ev16]; rfl) (by decide) rfl (fun ls hl => ?_)
        exact B_F_hasFittingCount_41 C0 ih _ _ _ _ _ _ _ H locs ls hP hD hS (lv_sub hl [2, 3, 4, 0, 5, 6, 1] rfl) h
def M_F_hasFittingCount (σ : kS) (x1 x2 : Int32) : Option (Int32 × kS) := M_F_hasFittingCount_8 k_fu σ x1 x2 0 0 0
set_option maxHeartbeats 4000000 in
set_option maxRecDepth 100000 in
theorem B_F_hasFittingCount_0 {p : Program} {l : Launch} {e : Env} {s : State} {m : MethodId} {args : Array Value} {below : List Frame} {meth : Method} {c : Code} {D : va_G} {a : Nat → Nat} {c9 : Nat → ClassId} {A : Nat → Prop} {r9 : Int32} {σo : kS} (C0 : k_Cx D c9 p s m args meth c R_F c_F_hasFittingCount 7 (some .boolean) A) (σ : kS) (x1 x2 : Int32) (H : Heap) (locs : List Loc) (ls : Array Slot) (hP : va_P D kcl (kw a c9 σ) H) (hD : va_D A (kw a c9 σ)) (hS : va_S A s.heap H locs) (hl : lv_has ls 7 [(0, .ref (a 1)), (1, .int x1), (2, .int x2)]) (h : M_F_hasFittingCount σ x1 x2 = some (r9, σo)) : W p l e rm_F_hasFittingCount s m args below meth c H locs 0 0 (MQ below (k_Qi D a c9 r9 σo A) args s 0 0 A) (F0 m 0 ls []) := by
  obtain ⟨hx, hb, hml, hown, hts, hr, hlk, hK, hN, hA⟩ := id C0
  unfold M_F_hasFittingCount at h
  refine lv_iconst (v := 0) hx hb d_F_hasFittingCount_0 (by decide) ?_
  refine lv_istore_n (lv' := [(3, .int 0), (0, .ref (a 1)), (1, .int x1), (2, .int x2)]) hx hb d_F_hasFittingCount_1 rfl hl (by decide) rfl (fun ls hl => ?_)
  refine lv_iconst (v := 0) hx hb d_F_hasFittingCount_2 (by decide) ?_
  refine lv_istore (lv' := [(4, .int 0), (3, .int 0), (0, .ref (a 1)), (1, .int x1), (2, .int x2)]) hx hb d_F_hasFittingCount_3 hl (by decide) rfl (fun ls hl => ?_)
  refine lv_iconst (v := 0) hx hb d_F_hasFittingCount_5 (by decide) ?_
  refine lv_istore (lv' := [(5, .int 0), (4, .int 0), (3, .int 0), (0, .ref (a 1)), (1, .int x1), (2, .int x2)]) hx hb d_F_hasFittingCount_6 hl (by decide) rfl (fun ls hl => ?_)
  exact B_F_hasFittingCount_8 C0 k_fu _ _ _ _ _ _ H locs ls hP hD hS (lv_sub hl [3, 4, 5, 2, 1, 0] rfl) h
theorem K_F_hasFittingCount (l : Launch) (D : va_G) (a : Nat → Nat) (c9 : Nat → ClassId) (sz : Nat) {σ : kS} {x1 x2 : Int32} {r9 : Int32} {σo : kS} (h : M_F_hasFittingCount σ x1 x2 = some (r9, σo)) : Met l y_F_hasFittingCount (Cond.code y_F_hasFittingCount c_F_hasFittingCount 7 (some .boolean) :: kG) rm_F_hasFittingCount (k_Pc D a c9 sz σ [.ref (a 1), .int x1, .int x2]) (k_Qi D a c9 r9 σo (k_A a c9 σ sz)) 0 0 (k_A a c9 σ sz) :=
  k_met (Qf := k_Qi D a c9 r9 σo) (by decide) (Nat.le_of_ble_eq_true rfl) (fun p e s m args below meth c A ls C0 hP hD hS hl => B_F_hasFittingCount_0 C0 σ x1 x2 s.heap [] ls hP hD hS hl h)
def rm_F_hasFittingStart : Room := { frames := 1, cells := 0, slots := 0, locals := 22 }
def M_F_hasFittingStart (σ : kS) (x1 x2 : Int32) : Option (Int32 × kS) := k_call (M_F_isAnyOrder σ x1) fun v1 σ2 => if v1 = 0 then (k_ld (σ2.2.1 9) 240 (x1) fun v5 => if v5 = 0 then (some (1, σ2)) else (k_call (M_F_partAt σ2 x1 0) fun v7 σ8 => k_call (M_F_isHole σ8 v7) fun v10 σ11 => if v10 = 0 then (k_ld (σ11.2.1 9) 240 (x2) fun v14 => if v14 ≤ 0 then (some (0, σ11)) else (k_call (M_F_partAt σ11 x1 0) fun v16 σ17 => k_call (M_F_partAt σ17 x2 0) fun v19 σ20 => k_call (M_F_looksLike σ20 v16 v19) fun v22 σ23 => if v22 = 0 then (some (0, σ23)) else (some (1, σ23)))) else (some (1, σ11)))) else (some (1, σ2))
set_option maxHeartbeats 4000000 in
set_option maxRecDepth 100000 in
theorem B_F_hasFittingStart_0 {p : Program} {l : Launch} {e : Env} {s : State} {m : MethodId} {args : Array Value} {below : List Frame} {meth : Method} {c : Code} {D : va_G} {a : Nat → Nat} {c9 : Nat → ClassId} {A : Nat → Prop} {r9 : Int32} {σo : kS} (C0 : k_Cx D c9 p s m args meth c R_F c_F_hasFittingStart 3 (some .boolean) A) (σ : kS) (x1 x2 : Int32) (H : Heap) (locs : List Loc) (ls : Array Slot) (hP : va_P D kcl (kw a c9 σ) H) (hD : va_D A (kw a c9 σ)) (hS : va_S A s.heap H locs) (hl : lv_has ls 3 [(0, .ref (a 1)), (1, .int x1), (2, .int x2)]) (h : M_F_hasFittingStart σ x1 x2 = some (r9, σo)) : W p l e rm_F_hasFittingStart s m args below meth c H locs 0 0 (MQ below (k_Qi D a c9 r9 σo A) args s 0 0 A) (F0 m 0 ls []) := by
  obtain ⟨hx, hb, hml, hown, hts, hr, hlk, hK, hN, hA⟩ := id C0
  unfold M_F_hasFittingStart at h
  refine lv_aload_n hx hb d_F_hasFittingStart_0 rfl (lv_at hl 0 rfl) ?_
  refine lv_iload_n hx hb d_F_hasFittingStart_1 rfl (lv_at hl 1 rfl) ?_
  obtain ⟨v1, σ2, hc3, h⟩ := k_call_e h
  refine k_calli (va_runV (As := [.int x1]) (rest := []) ⟨hx, hb, hml, hown, hts⟩ (K_F_isAnyOrder l D a c9 H.size hc3) (cwV 1 hts (k_gV q_381 q_382 q_383 q_2 q_384) rfl rfl rfl h_F_isAnyOrder ⟨Nat.le_of_ble_eq_true rfl, Nat.le_of_ble_eq_true rfl⟩) (k_preV (ci := 2) (q0 := 1) rfl kw_1 hP hK hN hD) rfl rfl hl.1 rfl (lv_room (Nat.le_of_ble_eq_true rfl)) d_F_hasFittingStart_2 ⟨Nat.zero_le _, Nat.zero_le _⟩) hD hS hA (fun H locs hP hD hS => ?_)
  refine lv_if_ne (tgt := 30) hx hb d_F_hasFittingStart_5 (by decide) (fun c4 => ?_) (fun c4 => ?_)
  · replace h := (if_neg c4).symm.trans h
    refine lv_iconst (v := 1) hx hb d_F_hasFittingStart_30 (by decide) ?_
    cases h
    exact k_zret (Or.inr rfl) hx hb hr hlk hP hS d_F_hasFittingStart_31
  · replace h := (if_pos c4).symm.trans h
    refine lv_aload_n hx hb d_F_hasFittingStart_8 rfl (lv_at hl 0 rfl) ?_
    refine va_get (ci := 2) (C := R_F) (T := T_F) (N := 13) hx hb hts in_F hown hK hP 1 kw_1 rfl 8 (by decide) (hts _ q_41) (fun _ h9 => h9) rfl d_F_hasFittingStart_9 ?_
    refine lv_iload_n hx hb d_F_hasFittingStart_12 rfl (lv_at hl 1 rfl) ?_
    obtain ⟨v5, ev5, hv5, h⟩ := k_ld_e h
    refine va_iald hx hb hK hP 16 0 kw_16 rfl hv5 d_F_hasFittingStart_13 (k_top ev5 ?_)
    refine lv_if_eq (tgt := 30) hx hb d_F_hasFittingStart_14 (by decide) (fun c6 => ?_) (fun c6 => ?_)
    · replace h := (if_pos c6).symm.trans h
      refine lv_iconst (v := 1) hx hb d_F_hasFittingStart_30 (by decide) ?_
      cases h
      exact k_zret (Or.inr rfl) hx hb hr hlk hP hS d_F_hasFittingStart_31
    · replace h := (if_neg c6).symm.trans h
      refine lv_aload_n hx hb d_F_hasFittingStart_17 rfl (lv_at hl 0 rfl) ?_
      refine lv_aload_n hx hb d_F_hasFittingStart_18 rfl (lv_at hl 0 rfl) ?_
      refine lv_iload_n hx hb d_F_hasFittingStart_19 rfl (lv_at hl 1 rfl) ?_
      refine lv_iconst (v := 0) hx hb d_F_hasFittingStart_20 (by decide) ?_
      obtain ⟨v7, σ8, hc9, h⟩ := k_call_e h
      refine k_calli (va_runV (As := [.int x1, .int 0]) (rest := [.ref (a 1)]) ⟨hx, hb, hml, hown, hts⟩ (K_F_partAt l D a c9 H.size hc9) (cwV 2 hts (k_gV q_385 q_386 q_387 q_2 q_388) rfl rfl rfl h_F_partAt ⟨Nat.le_of_ble_eq_true rfl, Nat.le_of_ble_eq_true rfl⟩) (k_preV (ci := 2) (q0 := 1) rfl kw_1 hP hK hN hD) rfl rfl hl.1 rfl (lv_room (Nat.le_of_ble_eq_true rfl)) d_F_hasFittingStart_21 ⟨Nat.zero_le _, Nat.zero_le _⟩) hD hS hA (fun H locs hP hD hS => ?_)
      obtain ⟨v10, σ11, hc12, h⟩ := k_call_e h
      refine k_calli (va_runV (As := [.int v7]) (rest := []) ⟨hx, hb, hml, hown, hts⟩ (K_F_isHole l D a c9 H.size hc12) (cwV 1 hts (k_gV q_664 q_414 q_415 q_2 q_416) rfl rfl rfl h_F_isHole ⟨Nat.le_of_ble_eq_true rfl, Nat.le_of_ble_eq_true rfl⟩) (k_preV (ci := 2) (q0 := 1) rfl kw_1 hP hK hN hD) rfl rfl hl.1 rfl (lv_room (Nat.le_of_ble_eq_true rfl)) d_F_hasFittingStart_24 ⟨Nat.zero_le _, Nat.zero_le _⟩) hD hS hA (fun H locs hP hD hS => ?_)
      refine lv_if_eq (tgt := 32) hx hb d_F_hasFittingStart_27 (by decide) (fun c13 => ?_) (fun c13 => ?_)
      · replace h := (if_pos c13).symm.trans h
        refine lv_aload_n hx hb d_F_hasFittingStart_32 rfl (lv_at hl 0 rfl) ?_
        refine va_get (ci := 2) (C := R_F) (T := T_F) (N := 13) hx hb hts in_F hown hK hP 1 kw_1 rfl 8 (by decide) (hts _ q_41) (fun _ h9 => h9) rfl d_F_hasFittingStart_33 ?_
        refine lv_iload_n hx hb d_F_hasFittingStart_36 rfl (lv_at hl 2 rfl) ?_
        obtain ⟨v14, ev14, hv14, h⟩ := k_ld_e h
        refine va_iald hx hb hK hP 16 0 kw_16 rfl hv14 d_F_hasFittingStart_37 (k_top ev14 ?_)
        refine lv_if_le (tgt := 64) hx hb d_F_hasFittingStart_38 (by decide) (fun c15 => ?_) (fun c15 => ?_)
        · replace h := (if_pos c15).symm.trans h
          refine lv_iconst (v := 0) hx hb d_F_hasFittingStart_64 (by decide) ?_
          cases h
          exact k_zret (Or.inl rfl) hx hb hr hlk hP hS d_F_hasFittingStart_65
        · replace h := (if_neg c15).symm.trans h
          refine lv_aload_n hx hb d_F_hasFittingStart_41 rfl (lv_at hl 0 rfl) ?_
          refine lv_aload_n hx hb d_F_hasFittingStart_42 rfl (lv_at hl 0 rfl) ?_
          refine lv_iload_n hx hb d_F_hasFittingStart_43 rfl (lv_at hl 1 rfl) ?_
          refine lv_iconst (v := 0) hx hb d_F_hasFittingStart_44 (by decide) ?_
          obtain ⟨v16, σ17, hc18, h⟩ := k_call_e h
          refine k_calli (va_runV (As := [.int x1, .int 0]) (rest := [.ref (a 1)]) ⟨hx, hb, hml, hown, hts⟩ (K_F_partAt l D a c9 H.size hc18) (cwV 2 hts (k_gV q_385 q_386 q_387 q_2 q_388) rfl rfl rfl h_F_partAt ⟨Nat.le_of_ble_eq_true rfl, Nat.le_of_ble_eq_true rfl⟩) (k_preV (ci := 2) (q0 := 1) rfl kw_1 hP hK hN hD) rfl rfl hl.1 rfl (lv_room (Nat.le_of_ble_eq_true rfl)) d_F_hasFittingStart_45 ⟨Nat.zero_le _, Nat.zero_le _⟩) hD hS hA (fun H locs hP hD hS => ?_)
          refine lv_aload_n hx hb d_F_hasFittingStart_48 rfl (lv_at hl 0 rfl) ?_
          refine lv_iload_n hx hb d_F_hasFittingStart_49 rfl (lv_at hl 2 rfl) ?_
          refine lv_iconst (v := 0) hx hb d_F_hasFittingStart_50 (by decide) ?_
          obtain ⟨v19, σ20, hc21, h⟩ := k_call_e h
          refine k_calli (va_runV (As := [.int x2, .int 0]) (rest := [.int v16, .ref (a 1)]) ⟨hx, hb, hml, hown, hts⟩ (K_F_partAt l D a c9 H.size hc21) (cwV 2 hts (k_gV q_385 q_386 q_387 q_2 q_388) rfl rfl rfl h_F_partAt ⟨Nat.le_of_ble_eq_true rfl, Nat.le_of_ble_eq_true rfl⟩) (k_preV (ci := 2) (q0 := 1) rfl kw_1 hP hK hN hD) rfl rfl hl.1 rfl (lv_room (Nat.le_of_ble_eq_true rfl)) d_F_hasFittingStart_51 ⟨Nat.zero_le _, Nat.zero_le _⟩) hD hS hA (fun H locs hP hD hS => ?_)
          obtain ⟨v22, σ23, hc24, h⟩ := k_call_e h
          refine k_calli (va_runV (As := [.int v16, .int v19]) (rest := []) ⟨hx, hb, hml, hown, hts⟩ (K_F_looksLike l D a c9 H.size hc24) (cwV 2 hts (k_gV q_665 q_581 q_582 q_2 q_583) rfl rfl rfl h_F_looksLike ⟨Nat.le_of_ble_eq_true rfl, Nat.le_of_ble_eq_true rfl⟩) (k_preV (ci := 2) (q0 := 1) rfl kw_1 hP hK hN hD) rfl rfl hl.1 rfl (lv_room (Nat.le_of_ble_eq_true rfl)) d_F_hasFittingStart_54 ⟨Nat.zero_le _, Nat.zero_le _⟩) hD hS hA (fun H locs hP hD hS => ?_)
          refine lv_if_eq (tgt := 64) hx hb d_F_hasFittingStart_57 (by decide) (fun c25 => ?_) (fun c25 => ?_)
          · replace h := (if_pos c25).symm.trans h
            refine lv_iconst (v := 0) hx hb d_F_hasFittingStart_64 (by decide) ?_
            cases h
            exact k_zret (Or.inl rfl) hx hb hr hlk hP hS d_F_hasFittingStart_65
          · replace h := (if_neg c25).symm.trans h
            refine lv_iconst (v := 1) hx hb d_F_hasFittingStart_60 (by decide) ?_
            refine lv_goto (tgt := 65) hx hb d_F_hasFittingStart_61 (by decide) ?_
            cases h
            exact k_zret (Or.inr rfl) hx hb hr hlk hP hS d_F_hasFittingStart_65
      · replace h := (if_neg c13).symm.trans h
        refine lv_iconst (v := 1) hx hb d_F_hasFittingStart_30 (by decide) ?_
        cases h
        exact k_zret (Or.inr rfl) hx hb hr hlk hP hS d_F_hasFittingStart_31
theorem K_F_hasFittingStart (l : Launch) (D : va_G) (a : Nat → Nat) (c9 : Nat → ClassId) (sz : Nat) {σ : kS} {x1 x2 : Int32} {r9 : Int32} {σo : kS} (h : M_F_hasFittingStart σ x1 x2 = some (r9, σo)) : Met l y_F_hasFittingStart (Cond.code y_F_hasFittingStart c_F_hasFittingStart 3 (some .boolean) :: kG) rm_F_hasFittingStart (k_Pc D a c9 sz σ [.ref (a 1), .int x1, .int x2]) (k_Qi D a c9 r9 σo (k_A a c9 σ sz)) 0 0 (k_A a c9 σ sz) :=
  k_met (Qf := k_Qi D a c9 r9 σo) (by decide) (Nat.le_of_ble_eq_true rfl) (fun p e s m args below meth c A ls C0 hP hD hS hl => B_F_hasFittingStart_0 C0 σ x1 x2 s.heap [] ls hP hD hS hl h)
def rm_F_mayMatch : Room := { frames := 3, cells := 0, slots := 0, locals := 69 }
def M_F_mayMatch (σ : kS) (x1 x2 : Int32) : Option (Int32 × kS) := k_call (M_F_isHole σ x1) fun v1 σ2 => if v1 = 0 then (k_call (M_F_looksLike σ2 x1 x2) fun v5 σ6 => if v5 = 0 then (some (0, σ6)) else (k_call (M_F_isLeaf σ6 x1) fun v9 σ10 => if v9 = 0 then (k_call (M_F_hasFittingCount σ10 x1 x2) fun v13 σ14 => if v13 = 0 then (some (0, σ14)) else (k_call (M_F_hasFittingStart σ14 x1 x2) fun v17 σ18 => if v17 = 0 then (some (0, σ18)) else (some (1, σ18)))) else (some (1, σ10)))) else (k_ld (σ2.2.1 4) 240 (x1) fun v21 => if v21 = 1 then (k_call (M_F_isLeaf σ2 x2) fun v23 σ24 => if v23 = 0 then (some (0, σ24)) else (some (1, σ24))) else (some (1, σ2)))
set_option maxHeartbeats 4000000 in
set_option maxRecDepth 100000 in
theorem B_F_mayMatch_0 {p : Program} {l : Launch} {e : Env} {s : State} {m : MethodId} {args : Array Value} {below : List Frame} {meth : Method} {c : Code} {D : va_G} {a : Nat → Nat} {c9 : Nat → ClassId} {A : Nat → Prop} {r9 : Int32} {σo : kS} (C0 : k_Cx D c9 p s m args meth c R_F c_F_mayMatch 3 (some .boolean) A) (σ : kS) (x1 x2 : Int32) (H : Heap) (locs : List Loc) (ls : Array Slot) (hP : va_P D kcl (kw a c9 σ) H) (hD : va_D A (kw a c9 σ)) (hS : va_S A s.heap H locs) (hl : lv_has ls 3 [(0, .ref (a 1)), (1, .int x1), (2, .int x2)]) (h : M_F_mayMatch σ x1 x2 = some (r9, σo)) : W p l e rm_F_mayMatch s m args below meth c H locs 0 0 (MQ below (k_Qi D a c9 r9 σo A) args s 0 0 A) (F0 m 0 ls []) := by
  obtain ⟨hx, hb, hml, hown, hts, hr, hlk, hK, hN, hA⟩ := id C0
  unfold M_F_mayMatch at h
  refine lv_aload_n hx hb d_F_mayMatch_0 rfl (lv_at hl 0 rfl) ?_
  refine lv_iload_n hx hb d_F_mayMatch_1 rfl (lv_at hl 1 rfl) ?_
  obtain ⟨v1, σ2, hc3, h⟩ := k_call_e h
  refine k_calli (va_runV (As := [.int x1]) (rest := []) ⟨hx, hb, hml, hown, hts⟩ (K_F_isHole l D a c9 H.size hc3) (cwV 1 hts (k_gV q_664 q_414 q_415 q_2 q_416) rfl rfl rfl h_F_isHole ⟨Nat.le_of_ble_eq_true rfl, Nat.le_of_ble_eq_true rfl⟩) (k_preV (ci := 2) (q0 := 1) rfl kw_1 hP hK hN hD) rfl rfl hl.1 rfl (lv_room (Nat.le_of_ble_eq_true rfl)) d_F_mayMatch_2 ⟨Nat.zero_le _, Nat.zero_le _⟩) hD hS hA (fun H locs hP hD hS => ?_)
  refine lv_if_eq (tgt := 32) hx hb d_F_mayMatch_5 (by decide) (fun c4 => ?_) (fun c4 => ?_)
  · replace h := (if_pos c4).symm.trans h
    refine lv_aload_n hx hb d_F_mayMatch_32 rfl (lv_at hl 0 rfl) ?_
    refine lv_iload_n hx hb d_F_mayMatch_33 rfl (lv_at hl 1 rfl) ?_
    refine lv_iload_n hx hb d_F_mayMatch_34 rfl (lv_at hl 2 rfl) ?_
    obtain ⟨v5, σ6, hc7, h⟩ := k_call_e h
    refine k_calli (va_runV (As := [.int x1, .int x2]) (rest := []) ⟨hx, hb, hml, hown, hts⟩ (K_F_looksLike l D a c9 H.size hc7) (cwV 2 hts (k_gV q_665 q_581 q_582 q_2 q_583) rfl rfl rfl h_F_looksLike ⟨Nat.le_of_ble_eq_true rfl, Nat.le_of_ble_eq_true rfl⟩) (k_preV (ci := 2) (q0 := 1) rfl kw_1 hP hK hN hD) rfl rfl hl.1 rfl (lv_room (Nat.le_of_ble_eq_true rfl)) d_F_mayMatch_35 ⟨Nat.zero_le _, Nat.zero_le _⟩) hD hS hA (fun H locs hP hD hS => ?_)
    refine lv_if_ne (tgt := 43) hx hb d_F_mayMatch_38 (by decide) (fun c8 => ?_) (fun c8 => ?_)
    · replace h := (if_neg c8).symm.trans h
      refine lv_aload_n hx hb d_F_mayMatch_43 rfl (lv_at hl 0 rfl) ?_
      refine lv_iload_n hx hb d_F_mayMatch_44 rfl (lv_at hl 1 rfl) ?_
      obtain ⟨v9, σ10, hc11, h⟩ := k_call_e h
      refine k_calli (va_runV (As := [.int x1]) (rest := []) ⟨hx, hb, hml, hown, hts⟩ (K_F_isLeaf l D a c9 H.size hc11) (cwV 1 hts (k_gV q_555 q_544 q_545 q_2 q_546) rfl rfl rfl h_F_isLeaf ⟨Nat.le_of_ble_eq_true rfl, Nat.le_of_ble_eq_true rfl⟩) (k_preV (ci := 2) (q0 := 1) rfl kw_1 hP hK hN hD) rfl rfl hl.1 rfl (lv_room (Nat.le_of_ble_eq_true rfl)) d_F_mayMatch_45 ⟨Nat.zero_le _, Nat.zero_le _⟩) hD hS hA (fun H locs hP hD hS => ?_)
      refine lv_if_ne (tgt := 69) hx hb d_F_mayMatch_48 (by decide) (fun c12 => ?_) (fun c12 => ?_)
      · replace h := (if_neg c12).symm.trans h
        refine lv_iconst (v := 1) hx hb d_F_mayMatch_69 (by decide) ?_
        refine lv_goto (tgt := 74) hx hb d_F_mayMatch_70 (by decide) ?_
        cases h
        exact k_zret (Or.inr rfl) hx hb hr hlk hP hS d_F_mayMatch_74
      · replace h := (if_pos c12).symm.trans h
        refine lv_aload_n hx hb d_F_mayMatch_51 rfl (lv_at hl 0 rfl) ?_
        refine lv_iload_n hx hb d_F_mayMatch_52 rfl (lv_at hl 1 rfl) ?_
        refine lv_iload_n hx hb d_F_mayMatch_53 rfl (lv_at hl 2 rfl) ?_
        obtain ⟨v13, σ14, hc15, h⟩ := k_call_e h
        refine k_calli (va_runV (As := [.int x1, .int x2]) (rest := []) ⟨hx, hb, hml, hown, hts⟩ (K_F_hasFittingCount l D a c9 H.size hc15) (cwV 2 hts (k_gV q_666 q_668 s_16 q_2 q_669) rfl rfl rfl h_F_hasFittingCount ⟨Nat.le_of_ble_eq_true rfl, Nat.le_of_ble_eq_true rfl⟩) (k_preV (ci := 2) (q0 := 1) rfl kw_1 hP hK hN hD) rfl rfl hl.1 rfl (lv_room (Nat.le_of_ble_eq_true rfl)) d_F_mayMatch_54 ⟨Nat.zero_le _, Nat.zero_le _⟩) hD hS hA (fun H locs hP hD hS => ?_)
        refine lv_if_eq (tgt := 73) hx hb d_F_mayMatch_57 (by decide) (fun c16 => ?_) (fun c16 => ?_)
        · replace h := (if_pos c16).symm.trans h
          refine lv_iconst (v := 0) hx hb d_F_mayMatch_73 (by decide) ?_
          cases h
          exact k_zret (Or.inl rfl) hx hb hr hlk hP hS d_F_mayMatch_74
        · replace h := (if_neg c16).symm.trans h
          refine lv_aload_n hx hb d_F_mayMatch_60 rfl (lv_at hl 0 rfl) ?_
          refine lv_iload_n hx hb d_F_mayMatch_61 rfl (lv_at hl 1 rfl) ?_
          refine lv_iload_n hx hb d_F_mayMatch_62 rfl (lv_at hl 2 rfl) ?_
          obtain ⟨v17, σ18, hc19, h⟩ := k_call_e h
          refine k_calli (va_runV (As := [.int x1, .int x2]) (rest := []) ⟨hx, hb, hml, hown, hts⟩ (K_F_hasFittingStart l D a c9 H.size hc19) (cwV 2 hts (k_gV q_671 q_673 s_17 q_2 q_674) rfl rfl rfl h_F_hasFittingStart ⟨Nat.le_of_ble_eq_true rfl, Nat.le_of_ble_eq_true rfl⟩) (k_preV (ci := 2) (q0 := 1) rfl kw_1 hP hK hN hD) rfl rfl hl.1 rfl (lv_room (Nat.le_of_ble_eq_true rfl)) d_F_mayMatch_63 ⟨Nat.zero_le _, Nat.zero_le _⟩) hD hS hA (fun H locs hP hD hS => ?_)
          refine lv_if_eq (tgt := 73) hx hb d_F_mayMatch_66 (by decide) (fun c20 => ?_) (fun c20 => ?_)
          · replace h := (if_pos c20).symm.trans h
            refine lv_iconst (v := 0) hx hb d_F_mayMatch_73 (by decide) ?_
            cases h
            exact k_zret (Or.inl rfl) hx hb hr hlk hP hS d_F_mayMatch_74
          · replace h := (if_neg c20).symm.trans h
            refine lv_iconst (v := 1) hx hb d_F_mayMatch_69 (by decide) ?_
            refine lv_goto (tgt := 74) hx hb d_F_mayMatch_70 (by decide) ?_
            cases h
            exact k_zret (Or.inr rfl) hx hb hr hlk hP hS d_F_mayMatch_74
    · replace h := (if_pos c8).symm.trans h
      refine lv_iconst (v := 0) hx hb d_F_mayMatch_41 (by decide) ?_
      cases h
      exact k_zret (Or.inl rfl) hx hb hr hlk hP hS d_F_mayMatch_42
  · replace h := (if_neg c4).symm.trans h
    refine lv_aload_n hx hb d_F_mayMatch_8 rfl (lv_at hl 0 rfl) ?_
    refine va_get (ci := 2) (C := R_F) (T := T_F) (N := 13) hx hb hts in_F hown hK hP 1 kw_1 rfl 3 (by decide) (hts _ q_36) (fun _ h9 => h9) rfl d_F_mayMatch_9 ?_
    refine lv_iload_n hx hb d_F_mayMatch_12 rfl (lv_at hl 1 rfl) ?_
    obtain ⟨v21, ev21, hv21, h⟩ := k_ld_e h
    refine va_iald hx hb hK hP 11 0 kw_11 rfl hv21 d_F_mayMatch_13 (k_top ev21 ?_)
    refine lv_iconst (v := 1) hx hb d_F_mayMatch_14 (by decide) ?_
    refine lv_icmp_ne (tgt := 26) hx hb d_F_mayMatch_15 (by decide) (fun c22 => ?_) (fun c22 => ?_)
    · replace h := (if_neg c22).symm.trans h
      refine lv_iconst (v := 1) hx hb d_F_mayMatch_26 (by decide) ?_
      refine lv_goto (tgt := 31) hx hb d_F_mayMatch_27 (by decide) ?_
      cases h
      exact k_zret (Or.inr rfl) hx hb hr hlk hP hS d_F_mayMatch_31
    · replace h := (if_pos c22).symm.trans h
      refine lv_aload_n hx hb d_F_mayMatch_18 rfl (lv_at hl 0 rfl) ?_
      refine lv_iload_n hx hb d_F_mayMatch_19 rfl (lv_at hl 2 rfl) ?_
      obtain ⟨v23, σ24, hc25, h⟩ := k_call_e h
      refine k_calli (va_runV (As := [.int x2]) (rest := []) ⟨hx, hb, hml, hown, hts⟩ (K_F_isLeaf l D a c9 H.size hc25) (cwV 1 hts (k_gV q_555 q_544 q_545 q_2 q_546) rfl rfl rfl h_F_isLeaf ⟨Nat.le_of_ble_eq_true rfl, Nat.le_of_ble_eq_true rfl⟩) (k_preV (ci := 2) (q0 := 1) rfl kw_1 hP hK hN hD) rfl rfl hl.1 rfl (lv_room (Nat.le_of_ble_eq_true rfl)) d_F_mayMatch_20 ⟨Nat.zero_le _, Nat.zero_le _⟩) hD hS hA (fun H locs hP hD hS => ?_)
      refine lv_if_eq (tgt := 30) hx hb d_F_mayMatch_23 (by decide) (fun c26 => ?_) (fun c26 => ?_)
      · replace h := (if_pos c26).symm.trans h
        refine lv_iconst (v := 0) hx hb d_F_mayMatch_30 (by decide) ?_
        cases h
        exact k_zret (Or.inl rfl) hx hb hr hlk hP hS d_F_mayMatch_31
      · replace h := (if_neg c26).symm.trans h
        refine lv_iconst (v := 1) hx hb d_F_mayMatch_26 (by decide) ?_
        refine lv_goto (tgt := 31) hx hb d_F_mayMatch_27 (by decide) ?_
        cases h
        exact k_zret (Or.inr rfl) hx hb hr hlk hP hS d_F_mayMatch_31
theorem K_F_mayMatch (l : Launch) (D : va_G) (a : Nat → Nat) (c9 : Nat → ClassId) (sz : Nat) {σ : kS} {x1 x2 : Int32} {r9 : Int32} {σo : kS} (h : M_F_mayMatch σ x1 x2 = some (r9, σo)) : Met l y_F_mayMatch (Cond.code y_F_mayMatch c_F_mayMatch 3 (some .boolean) :: kG) rm_F_mayMatch (k_Pc D a c9 sz σ [.ref (a 1), .int x1, .int x2]) (k_Qi D a c9 r9 σo (k_A a c9 σ sz)) 0 0 (k_A a c9 σ sz) :=
  k_met (Qf := k_Qi D a c9 r9 σo) (by decide) (Nat.le_of_ble_eq_true rfl) (fun p e s m args below meth c A ls C0 hP hD hS hl => B_F_mayMatch_0 C0 σ x1 x2 s.heap [] ls hP hD hS hl h)
end
section
/-! mirrors and contracts, by program (wip/whole/run.py) -/
def rm_Mt_clear : Room := { frames := 0, cells := 0, slots := 0, locals := 0 }
def M_Mt_clear (σ : kS) : Option (Int32 × kS) := k_set σ 9 (0) fun σ1 => some (0, σ1)
set_option maxHeartbeats 4000000 in
set_option maxRecDepth 100000 in
theorem B_Mt_clear_0 {p : Program} {l : Launch} {e : Env} {s : State} {m : MethodId} {args : Array Value} {below : List Frame} {meth : Method} {c : Code} {D : va_G} {a : Nat → Nat} {c9 : Nat → ClassId} {A : Nat → Prop} {r9 : Int32} {σo : kS} (C0 : k_Cx D c9 p s m args meth c R_Mt c_Mt_clear 1 none A) (σ : kS) (H : Heap) (locs : List Loc) (ls : Array Slot) (hP : va_P D kcl (kw a c9 σ) H) (hD : va_D A (kw a c9 σ)) (hS : va_S A s.heap H locs) (hl : lv_has ls 1 [(0, .ref (a 5))]) (h : M_Mt_clear σ  = some (r9, σo)) : W p l e rm_Mt_clear s m args below meth c H locs 0 0 (MQ below (k_Qv D a c9 σo A) args s 0 0 A) (F0 m 0 ls []) := by
  obtain ⟨hx, hb, hml, hown, hts, hr, hlk, hK, hN, hA⟩ := id C0
  unfold M_Mt_clear at h
  refine lv_aload_n hx hb d_Mt_clear_0 rfl (lv_at hl 0 rfl) ?_
  refine lv_iconst (v := 0) hx hb d_Mt_clear_1 (by decide) ?_
  obtain ⟨σ1, eσ1, h⟩ := k_set_e h
  refine va_put (ci := 3) (v := .int 0) (ty := .int) (C := R_Mt) (T := T_Mt) (N := 3) hx hb hts in_Mt t_Mt t_Mt_ok n_Mt hown hK hP hD hS 5 kw_5 rfl 0 (by decide) (hts _ q_124) (fun _ h9 => h9) rfl (by decide +kernel) rfl rfl (Nat.le_of_ble_eq_true rfl) d_Mt_clear_2 (fun H locs hP hD hS => ?_)
  replace hP := k_mvP (kw_f5_0.trans (congrArg _ eσ1.symm)) hP
  replace hD := k_mvD (kw_f5_0.trans (congrArg _ eσ1.symm)) hD
  cases h
  exact k_vret hx hb hr hlk hP hS d_Mt_clear_5
theorem K_Mt_clear (l : Launch) (D : va_G) (a : Nat → Nat) (c9 : Nat → ClassId) (sz : Nat) {σ : kS} {r9 : Int32} {σo : kS} (h : M_Mt_clear σ  = some (r9, σo)) : Met l y_Mt_clear (Cond.code y_Mt_clear c_Mt_clear 1 none :: kG) rm_Mt_clear (k_Pc D a c9 sz σ [.ref (a 5)]) (k_Qv D a c9 σo (k_A a c9 σ sz)) 0 0 (k_A a c9 σ sz) :=
  k_met (Qf := k_Qv D a c9 σo) (by decide) (Nat.le_of_ble_eq_true rfl) (fun p e s m args below meth c A ls C0 hP hD hS hl => B_Mt_clear_0 C0 σ  s.heap [] ls hP hD hS hl h)
def rm_Mt_keptCount : Room := { frames := 0, cells := 0, slots := 0, locals := 0 }
def M_Mt_keptCount (σ : kS) : Option (Int32 × kS) := some (σ.1 9, σ)
set_option maxHeartbeats 4000000 in
set_option maxRecDepth 100000 in
theorem B_Mt_keptCount_0 {p : Program} {l : Launch} {e : Env} {s : State} {m : MethodId} {args : Array Value} {below : List Frame} {meth : Method} {c : Code} {D : va_G} {a : Nat → Nat} {c9 : Nat → ClassId} {A : Nat → Prop} {r9 : Int32} {σo : kS} (C0 : k_Cx D c9 p s m args meth c R_Mt c_Mt_keptCount 1 (some .int) A) (σ : kS) (H : Heap) (locs : List Loc) (ls : Array Slot) (hP : va_P D kcl (kw a c9 σ) H) (hD : va_D A (kw a c9 σ)) (hS : va_S A s.heap H locs) (hl : lv_has ls 1 [(0, .ref (a 5))]) (h : M_Mt_keptCount σ  = some (r9, σo)) : W p l e rm_Mt_keptCount s m args below meth c H locs 0 0 (MQ below (k_Qi D a c9 r9 σo A) args s 0 0 A) (F0 m 0 ls []) := by
  obtain ⟨hx, hb, hml, hown, hts, hr, hlk, hK, hN, hA⟩ := id C0
  unfold M_Mt_keptCount at h
  refine lv_aload_n hx hb d_Mt_keptCount_0 rfl (lv_at hl 0 rfl) ?_
  refine va_get (ci := 3) (C := R_Mt) (T := T_Mt) (N := 3) hx hb hts in_Mt hown hK hP 5 kw_5 rfl 0 (by decide) (hts _ q_124) (fun _ h9 => h9) rfl d_Mt_keptCount_1 ?_
  cases h
  exact k_iret hx hb hr hlk hP hS d_Mt_keptCount_4
theorem K_Mt_keptCount (l : Launch) (D : va_G) (a : Nat → Nat) (c9 : Nat → ClassId) (sz : Nat) {σ : kS} {r9 : Int32} {σo : kS} (h : M_Mt_keptCount σ  = some (r9, σo)) : Met l y_Mt_keptCount (Cond.code y_Mt_keptCount c_Mt_keptCount 1 (some .int) :: kG) rm_Mt_keptCount (k_Pc D a c9 sz σ [.ref (a 5)]) (k_Qi D a c9 r9 σo (k_A a c9 σ sz)) 0 0 (k_A a c9 σ sz) :=
  k_met (Qf := k_Qi D a c9 r9 σo) (by decide) (Nat.le_of_ble_eq_true rfl) (fun p e s m args below meth c A ls C0 hP hD hS hl => B_Mt_keptCount_0 C0 σ  s.heap [] ls hP hD hS hl h)
def rm_Mt_lengthOf : Room := { frames := 0, cells := 0, slots := 0, locals := 0 }
def M_Mt_lengthOf (σ : kS) (x1 x2 : Int32) : Option (Int32 × kS) := k_ld (σ.2.1 24) 160 (((x1 * 8) + x2)) fun v1 => some (v1, σ)
set_option maxHeartbeats 4000000 in
set_option maxRecDepth 100000 in
theorem B_Mt_lengthOf_0 {p : Program} {l : Launch} {e : Env} {s : State} {m : MethodId} {args : Array Value} {below : List Frame} {meth : Method} {c : Code} {D : va_G} {a : Nat → Nat} {c9 : Nat → ClassId} {A : Nat → Prop} {r9 : Int32} {σo : kS} (C0 : k_Cx D c9 p s m args meth c R_Mt c_Mt_lengthOf 3 (some .int) A) (σ : kS) (x1 x2 : Int32) (H : Heap) (locs : List Loc) (ls : Array Slot) (hP : va_P D kcl (kw a c9 σ) H) (hD : va_D A (kw a c9 σ)) (hS : va_S A s.heap H locs) (hl : lv_has ls 3 [(0, .ref (a 5)), (1, .int x1), (2, .int x2)]) (h : M_Mt_lengthOf σ x1 x2 = some (r9, σo)) : W p l e rm_Mt_lengthOf s m args below meth c H locs 0 0 (MQ below (k_Qi D a c9 r9 σo A) args s 0 0 A) (F0 m 0 ls []) := by
  obtain ⟨hx, hb, hml, hown, hts, hr, hlk, hK, hN, hA⟩ := id C0
  unfold M_Mt_lengthOf at h
  refine lv_aload_n hx hb d_Mt_lengthOf_0 rfl (lv_at hl 0 rfl) ?_
  refine va_get (ci := 3) (C := R_Mt) (T := T_Mt) (N := 3) hx hb hts in_Mt hown hK hP 5 kw_5 rfl 1 (by decide) (hts _ q_125) (fun _ h9 => h9) rfl d_Mt_lengthOf_1 ?_
  refine lv_iload_n hx hb d_Mt_lengthOf_4 rfl (lv_at hl 1 rfl) ?_
  refine lv_bipush (v := 8) hx hb d_Mt_lengthOf_5 (by decide) ?_
  refine lv_imul hx hb d_Mt_lengthOf_7 ?_
  refine lv_iload_n hx hb d_Mt_lengthOf_8 rfl (lv_at hl 2 rfl) ?_
  refine lv_iadd hx hb d_Mt_lengthOf_9 ?_
  obtain ⟨v1, ev1, hv1, h⟩ := k_ld_e h
  refine va_iald hx hb hK hP 31 0 kw_31 rfl hv1 d_Mt_lengthOf_10 (k_top ev1 ?_)
  cases h
  exact k_iret hx hb hr hlk hP hS d_Mt_lengthOf_11
theorem K_Mt_lengthOf (l : Launch) (D : va_G) (a : Nat → Nat) (c9 : Nat → ClassId) (sz : Nat) {σ : kS} {x1 x2 : Int32} {r9 : Int32} {σo : kS} (h : M_Mt_lengthOf σ x1 x2 = some (r9, σo)) : Met l y_Mt_lengthOf (Cond.code y_Mt_lengthOf c_Mt_lengthOf 3 (some .int) :: kG) rm_Mt_lengthOf (k_Pc D a c9 sz σ [.ref (a 5), .int x1, .int x2]) (k_Qi D a c9 r9 σo (k_A a c9 σ sz)) 0 0 (k_A a c9 σ sz) :=
  k_met (Qf := k_Qi D a c9 r9 σo) (by decide) (Nat.le_of_ble_eq_true rfl) (fun p e s m args below meth c A ls C0 hP hD hS hl => B_Mt_lengthOf_0 C0 σ x1 x2 s.heap [] ls hP hD hS hl h)
def rm_Mt_treeOf : Room := { frames := 1, cells := 0, slots := 0, locals := 22 }
def M_Mt_treeOf (σ : kS) (x1 x2 x3 : Int32) : Option (Int32 × kS) := if x3 < 0 then (some ((-1), σ)) else (k_call (M_Mt_lengthOf σ x1 x2) fun v2 σ3 => if x3 < v2 then (k_ld (σ3.2.1 25) 1920 ((((x1 * 96) + (x2 * 12)) + x3)) fun v6 => some (v6, σ3)) else (some ((-1), σ3)))
set_option maxHeartbeats 4000000 in
set_option maxRecDepth 100000 in
theorem B_Mt_treeOf_0 {p : Program} {l : Launch} {e : Env} {s : State} {m : MethodId} {args : Array Value} {below : List Frame} {meth : Method} {c : Code} {D : va_G} {a : Nat → Nat} {c9 : Nat → ClassId} {A : Nat → Prop} {r9 : Int32} {σo : kS} (C0 : k_Cx D c9 p s m args meth c R_Mt c_Mt_treeOf 4 (some .int) A) (σ : kS) (x1 x2 x3 : Int32) (H : Heap) (locs : List Loc) (ls : Array Slot) (hP : va_P D kcl (kw a c9 σ) H) (hD : va_D A (kw a c9 σ)) (hS : va_S A s.heap H locs) (hl : lv_has ls 4 [(0, .ref (a 5)), (1, .int x1), (2, .int x2), (3, .int x3)]) (h : M_Mt_treeOf σ x1 x2 x3 = some (r9, σo)) : W p l e rm_Mt_treeOf s m args below meth c H locs 0 0 (MQ below (k_Qi D a c9 r9 σo A) args s 0 0 A) (F0 m 0 ls []) := by
  obtain ⟨hx, hb, hml, hown, hts, hr, hlk, hK, hN, hA⟩ := id C0
  unfold M_Mt_treeOf at h
  refine lv_iload_n hx hb d_Mt_treeOf_0 rfl (lv_at hl 3 rfl) ?_
  refine lv_if_lt (tgt := 14) hx hb d_Mt_treeOf_1 (by decide) (fun c1 => ?_) (fun c1 => ?_)
  · replace h := (if_pos c1).symm.trans h
    refine lv_iconst (v := (-1)) hx hb d_Mt_treeOf_14 (by decide) ?_
    cases h
    exact k_iret hx hb hr hlk hP hS d_Mt_treeOf_15
  · replace h := (if_neg c1).symm.trans h
    refine lv_iload_n hx hb d_Mt_treeOf_4 rfl (lv_at hl 3 rfl) ?_
    refine lv_aload_n hx hb d_Mt_treeOf_5 rfl (lv_at hl 0 rfl) ?_
    refine lv_iload_n hx hb d_Mt_treeOf_6 rfl (lv_at hl 1 rfl) ?_
    refine lv_iload_n hx hb d_Mt_treeOf_7 rfl (lv_at hl 2 rfl) ?_
    obtain ⟨v2, σ3, hc4, h⟩ := k_call_e h
    refine k_calli (va_runV (As := [.int x1, .int x2]) (rest := [.int x3]) ⟨hx, hb, hml, hown, hts⟩ (K_Mt_lengthOf l D a c9 H.size hc4) (cwV 2 hts (k_gV q_629 q_630 q_631 q_6 q_632) rfl rfl rfl h_Mt_lengthOf ⟨Nat.le_of_ble_eq_true rfl, Nat.le_of_ble_eq_true rfl⟩) (k_preV (ci := 3) (q0 := 5) rfl kw_5 hP hK hN hD) rfl rfl hl.1 rfl (lv_room (Nat.le_of_ble_eq_true rfl)) d_Mt_treeOf_8 ⟨Nat.zero_le _, Nat.zero_le _⟩) hD hS hA (fun H locs hP hD hS => ?_)
    refine lv_icmp_lt (tgt := 16) hx hb d_Mt_treeOf_11 (by decide) (fun c5 => ?_) (fun c5 => ?_)
    · replace h := (if_pos c5).symm.trans h
      refine lv_aload_n hx hb d_Mt_treeOf_16 rfl (lv_at hl 0 rfl) ?_
      refine va_get (ci := 3) (C := R_Mt) (T := T_Mt) (N := 3) hx hb hts in_Mt hown hK hP 5 kw_5 rfl 2 (by decide) (hts _ q_126) (fun _ h9 => h9) rfl d_Mt_treeOf_17 ?_
      refine lv_iload_n hx hb d_Mt_treeOf_20 rfl (lv_at hl 1 rfl) ?_
      refine lv_bipush (v := 96) hx hb d_Mt_treeOf_21 (by decide) ?_
      refine lv_imul hx hb d_Mt_treeOf_23 ?_
      refine lv_iload_n hx hb d_Mt_treeOf_24 rfl (lv_at hl 2 rfl) ?_
      refine lv_bipush (v := 12) hx hb d_Mt_treeOf_25 (by decide) ?_
      refine lv_imul hx hb d_Mt_treeOf_27 ?_
      refine lv_iadd hx hb d_Mt_treeOf_28 ?_
      refine lv_iload_n hx hb d_Mt_treeOf_29 rfl (lv_at hl 3 rfl) ?_
      refine lv_iadd hx hb d_Mt_treeOf_30 ?_
      obtain ⟨v6, ev6, hv6, h⟩ := k_ld_e h
      refine va_iald hx hb hK hP 32 0 kw_32 rfl hv6 d_Mt_treeOf_31 (k_top ev6 ?_)
      cases h
      exact k_iret hx hb hr hlk hP hS d_Mt_treeOf_32
    · replace h := (if_neg c5).symm.trans h
      refine lv_iconst (v := (-1)) hx hb d_Mt_treeOf_14 (by decide) ?_
      cases h
      exact k_iret hx hb hr hlk hP hS d_Mt_treeOf_15
theorem K_Mt_treeOf (l : Launch) (D : va_G) (a : Nat → Nat) (c9 : Nat → ClassId) (sz : Nat) {σ : kS} {x1 x2 x3 : Int32} {r9 : Int32} {σo : kS} (h : M_Mt_treeOf σ x1 x2 x3 = some (r9, σo)) : Met l y_Mt_treeOf (Cond.code y_Mt_treeOf c_Mt_treeOf 4 (some .int) :: kG) rm_Mt_treeOf (k_Pc D a c9 sz σ [.ref (a 5), .int x1, .int x2, .int x3]) (k_Qi D a c9 r9 σo (k_A a c9 σ sz)) 0 0 (k_A a c9 σ sz) :=
  k_met (Qf := k_Qi D a c9 r9 σo) (by decide) (Nat.le_of_ble_eq_true rfl) (fun p e s m args below meth c A ls C0 hP hD hS hl => B_Mt_treeOf_0 C0 σ x1 x2 x3 s.heap [] ls hP hD hS hl h)
def rm_Mt_keep : Room := { frames := 1, cells := 0, slots := 0, locals := 64 }
def M_Mt_keep (σ : kS) : Option (Int32 × kS) := if 20 ≤ σ.1 9 then (some (0, σ)) else (k_cp σ 21 8 24 160 (0) ((σ.1 9 * 8)) (8) fun σ2 => k_cp σ2 22 96 25 1920 (0) ((σ2.1 9 * 96)) (96) fun σ3 => k_set σ3 9 ((σ3.1 9 + 1)) fun σ4 => some (0, σ4))
set_option maxHeartbeats 4000000 in
set_option maxRecDepth 100000 in
theorem B_Mt_keep_0 {p : Program} {l : Launch} {e : Env} {s : State} {m : MethodId} {args : Array Value} {below : List Frame} {meth : Method} {c : Code} {D : va_G} {a : Nat → Nat} {c9 : Nat → ClassId} {A : Nat → Prop} {r9 : Int32} {σo : kS} (C0 : k_Cx D c9 p s m args meth c R_Mt c_Mt_keep 2 none A) (σ : kS) (H : Heap) (locs : List Loc) (ls : Array Slot) (hP : va_P D kcl (kw a c9 σ) H) (hD : va_D A (kw a c9 σ)) (hS : va_S A s.heap H locs) (hl : lv_has ls 2 [(0, .ref (a 5)), (1, .ref (a 4))]) (h : M_Mt_keep σ  = some (r9, σo)) : W p l e rm_Mt_keep s m args below meth c H locs 0 0 (MQ below (k_Qv D a c9 σo A) args s 0 0 A) (F0 m 0 ls []) := by
  obtain ⟨hx, hb, hml, hown, hts, hr, hlk, hK, hN, hA⟩ := id C0
  unfold M_Mt_keep at h
  refine lv_aload_n hx hb d_Mt_keep_0 rfl (lv_at hl 0 rfl) ?_
  refine va_get (ci := 3) (C := R_Mt) (T := T_Mt) (N := 3) hx hb hts in_Mt hown hK hP 5 kw_5 rfl 0 (by decide) (hts _ q_124) (fun _ h9 => h9) rfl d_Mt_keep_1 ?_
  refine lv_bipush (v := 20) hx hb d_Mt_keep_4 (by decide) ?_
  refine lv_icmp_ge (tgt := 61) hx hb d_Mt_keep_6 (by decide) (fun c1 => ?_) (fun c1 => ?_)
  · replace h := (if_pos c1).symm.trans h
    cases h
    exact k_vret hx hb hr hlk hP hS d_Mt_keep_61
  · replace h := (if_neg c1).symm.trans h
    refine lv_aload_n hx hb d_Mt_keep_9 rfl (lv_at hl 1 rfl) ?_
    refine va_getN (ci := 4) (C := R_Nm) (T := T_Nm) (N := 3) hx hb hts in_Nm hown hK hP 4 kw_4 rfl 0 (by decide) (va_Nw.use rfl hN.1) (fun _ h9 => h9) rfl d_Mt_keep_10 ?_
    refine lv_iconst (v := 0) hx hb d_Mt_keep_13 (by decide) ?_
    refine lv_aload_n hx hb d_Mt_keep_14 rfl (lv_at hl 0 rfl) ?_
    refine va_get (ci := 3) (C := R_Mt) (T := T_Mt) (N := 3) hx hb hts in_Mt hown hK hP 5 kw_5 rfl 1 (by decide) (hts _ q_125) (fun _ h9 => h9) rfl d_Mt_keep_15 ?_
    refine lv_aload_n hx hb d_Mt_keep_18 rfl (lv_at hl 0 rfl) ?_
    refine va_get (ci := 3) (C := R_Mt) (T := T_Mt) (N := 3) hx hb hts in_Mt hown hK hP 5 kw_5 rfl 0 (by decide) (hts _ q_124) (fun _ h9 => h9) rfl d_Mt_keep_19 ?_
    refine lv_bipush (v := 8) hx hb d_Mt_keep_22 (by decide) ?_
    refine lv_imul hx hb d_Mt_keep_24 ?_
    refine lv_bipush (v := 8) hx hb d_Mt_keep_25 (by decide) ?_
    obtain ⟨σ2, eσ2, hq1, hq2, hq3, hq4, hq5, h⟩ := k_cp_e h
    refine va_copyi hx hb (hml.trans hl.1.symm) hown (hts _ q_604) (hts _ q_570) (hts _ q_569) (hts _ q_18) hK hP hD hS 28 31 0 0 kw_28 kw_31 rfl rfl rfl hq1 hq2 hq3 hq4 hq5 (fun _ _ => rfl) (Nat.le_of_ble_eq_true rfl) (by decide) d_Mt_keep_27 (fun H locs hP hD hS => ?_)
    replace hP := k_mvP (kw_s31.trans (congrArg _ eσ2.symm)) hP
    replace hD := k_mvD (kw_s31.trans (congrArg _ eσ2.symm)) hD
    refine lv_aload_n hx hb d_Mt_keep_30 rfl (lv_at hl 1 rfl) ?_
    refine va_getN (ci := 4) (C := R_Nm) (T := T_Nm) (N := 3) hx hb hts in_Nm hown hK hP 4 kw_4 rfl 1 (by decide) (va_Nw.use rfl hN.2) (fun _ h9 => h9) rfl d_Mt_keep_31 ?_
    refine lv_iconst (v := 0) hx hb d_Mt_keep_34 (by decide) ?_
    refine lv_aload_n hx hb d_Mt_keep_35 rfl (lv_at hl 0 rfl) ?_
    refine va_get (ci := 3) (C := R_Mt) (T := T_Mt) (N := 3) hx hb hts in_Mt hown hK hP 5 kw_5 rfl 2 (by decide) (hts _ q_126) (fun _ h9 => h9) rfl d_Mt_keep_36 ?_
    refine lv_aload_n hx hb d_Mt_keep_39 rfl (lv_at hl 0 rfl) ?_
    refine va_get (ci := 3) (C := R_Mt) (T := T_Mt) (N := 3) hx hb hts in_Mt hown hK hP 5 kw_5 rfl 0 (by decide) (hts _ q_124) (fun _ h9 => h9) rfl d_Mt_keep_40 ?_
    refine lv_bipush (v := 96) hx hb d_Mt_keep_43 (by decide) ?_
    refine lv_imul hx hb d_Mt_keep_45 ?_
    refine lv_bipush (v := 96) hx hb d_Mt_keep_46 (by decide) ?_
    obtain ⟨σ3, eσ3, hq1, hq2, hq3, hq4, hq5, h⟩ := k_cp_e h
    refine va_copyi hx hb (hml.trans hl.1.symm) hown (hts _ q_604) (hts _ q_570) (hts _ q_569) (hts _ q_18) hK hP hD hS 29 32 0 0 kw_29 kw_32 rfl rfl rfl hq1 hq2 hq3 hq4 hq5 (fun _ _ => rfl) (Nat.le_of_ble_eq_true rfl) (by decide) d_Mt_keep_48 (fun H locs hP hD hS => ?_)
    replace hP := k_mvP (kw_s32.trans (congrArg _ eσ3.symm)) hP
    replace hD := k_mvD (kw_s32.trans (congrArg _ eσ3.symm)) hD
    refine lv_aload_n hx hb d_Mt_keep_51 rfl (lv_at hl 0 rfl) ?_
    refine lv_dup hx hb d_Mt_keep_52 rfl ?_
    refine va_get (ci := 3) (C := R_Mt) (T := T_Mt) (N := 3) hx hb hts in_Mt hown hK hP 5 kw_5 rfl 0 (by decide) (hts _ q_124) (fun _ h9 => h9) rfl d_Mt_keep_53 ?_
    refine lv_iconst (v := 1) hx hb d_Mt_keep_56 (by decide) ?_
    refine lv_iadd hx hb d_Mt_keep_57 ?_
    obtain ⟨σ4, eσ4, h⟩ := k_set_e h
    refine va_put (ci := 3) (v := .int ((σ3.1 9 + 1))) (ty := .int) (C := R_Mt) (T := T_Mt) (N := 3) hx hb hts in_Mt t_Mt t_Mt_ok n_Mt hown hK hP hD hS 5 kw_5 rfl 0 (by decide) (hts _ q_124) (fun _ h9 => h9) rfl (by decide +kernel) rfl rfl (Nat.le_of_ble_eq_true rfl) d_Mt_keep_58 (fun H locs hP hD hS => ?_)
    replace hP := k_mvP (kw_f5_0.trans (congrArg _ eσ4.symm)) hP
    replace hD := k_mvD (kw_f5_0.trans (congrArg _ eσ4.symm)) hD
    cases h
    exact k_vret hx hb hr hlk hP hS d_Mt_keep_61
theorem K_Mt_keep (l : Launch) (D : va_G) (a : Nat → Nat) (c9 : Nat → ClassId) (sz : Nat) {σ : kS} {r9 : Int32} {σo : kS} (h : M_Mt_keep σ  = some (r9, σo)) : Met l y_Mt_keep (Cond.code y_Mt_keep c_Mt_keep 2 none :: kG) rm_Mt_keep (k_Pc D a c9 sz σ [.ref (a 5), .ref (a 4)]) (k_Qv D a c9 σo (k_A a c9 σ sz)) 0 0 (k_A a c9 σ sz) :=
  k_met (Qf := k_Qv D a c9 σo) (by decide) (Nat.le_of_ble_eq_true rfl) (fun p e s m args below meth c A ls C0 hP hD hS hl => B_Mt_keep_0 C0 σ  s.heap [] ls hP hD hS hl h)
def rm_Ar_fill_28 : Room := { frames := 0, cells := 0, slots := 0, locals := 0 }
def M_Ar_fill_28_5_b (self9 : kS → Int32 → Int32 → Int32 → Option (Int32 × kS)) (σ : kS) (x1 x2 x3 : Int32) : Option (Int32 × kS) := if x3 ≤ x2 then (some (0, σ)) else (k_st σ 21 8 (x2) (x1) fun σ2 => k_let (x2 + 1) fun v3 => self9 σ2 x1 v3 x3)
def M_Ar_fill_28_5 : Nat → kS → Int32 → Int32 → Int32 → Option (Int32 × kS)
  | 0 => fun _ _ _ _ => none
  | n + 1 => M_Ar_fill_28_5_b (M_Ar_fill_28_5 n)
set_option maxHeartbeats 4000000 in
set_option maxRecDepth 100000 in
theorem B_Ar_fill_28_5 {p : Program} {l : Launch} {e : Env} {s : State} {m : MethodId} {args : Array Value} {below : List Frame} {meth : Method} {c : Code} {D : va_G} {a : Nat → Nat} {c9 : Nat → ClassId} {A : Nat → Prop} {r9 : Int32} {σo : kS} (C0 : k_Cx D c9 p s m args meth c R_Ar c_Ar_fill 4 none A) : ∀ (n : Nat) (σ : kS) (x1 x2 x3 : Int32) (H : Heap) (locs : List Loc) (ls : Array Slot), va_P D kcl (kw a c9 σ) H → va_D A (kw a c9 σ) → va_S A s.heap H locs → lv_has ls 4 [(0, .ref (a 28)), (1, .int x1), (2, .int x2), (3, .int x3)] → M_Ar_fill_28_5 n σ x1 x2 x3 = some (r9, σo) → W p l e rm_Ar_fill_28 s m args below meth c H locs 0 0 (MQ below (k_Qv D a c9 σo A) args s 0 0 A) (F0 m 5 ls []) := by
  obtain ⟨hx, hb, hml, hown, hts, hr, hlk, hK, hN, hA⟩ := id C0
  intro n
  induction n with
  | zero =>
    intro σ x1 x2 x3 H locs ls hP hD hS hl h
    replace h : (none : Option (Int32 × kS)) = some (r9, σo) := h
    cases h
  | succ n ih =>
    intro σ x1 x2 x3 H locs ls hP hD hS hl h
    replace h : M_Ar_fill_28_5_b (M_Ar_fill_28_5 n) σ x1 x2 x3 = some (r9, σo) := h
    unfold M_Ar_fill_28_5_b at h
    refine lv_iload_n hx hb d_Ar_fill_5 rfl (lv_at hl 2 rfl) ?_
    refine lv_iload_n hx hb d_Ar_fill_6 rfl (lv_at hl 3 rfl) ?_
    refine lv_icmp_ge (tgt := 20) hx hb d_Ar_fill_7 (by decide) (fun c1 => ?_) (fun c1 => ?_)
    · replace h := (if_pos c1).symm.trans h
      cases h
      exact k_vret hx hb hr hlk hP hS d_Ar_fill_20
    · replace h := (if_neg c1).symm.trans h
      refine lv_aload_n hx hb d_Ar_fill_10 rfl (lv_at hl 0 rfl) ?_
      refine lv_iload_n hx hb d_Ar_fill_11 rfl (lv_at hl 2 rfl) ?_
      refine lv_iload_n hx hb d_Ar_fill_12 rfl (lv_at hl 1 rfl) ?_
      obtain ⟨σ2, eσ2, hiσ2, h⟩ := k_st_e h
      refine va_iast hx hb hK hP hD hS 28 0 kw_28 rfl hiσ2 d_Ar_fill_13 (fun H locs hP hD hS => ?_)
      replace hP := k_mvP (kw_s28.trans (congrArg _ eσ2.symm)) hP
      replace hD := k_mvD (kw_s28.trans (congrArg _ eσ2.symm)) hD
      obtain ⟨v3, ev3, h⟩ := k_let_e h
      refine lv_iinc (v := v3) (lv' := [(2, .int v3), (0, .ref (a 28)), (1, .int x1), (3, .int x3)]) hx hb d_Ar_fill_14 hl (k := 2) rfl (by rw [ev3]; rfl) (by decide) rfl (fun ls hl => ?_)
      refine lv_goto (tgt := 5) hx hb d_Ar_fill_17 (by decide) ?_
      exact ih _ _ _ _ H locs ls hP hD hS (lv_sub hl [1, 2, 0, 3] rfl) h
def M_Ar_fill_28 (σ : kS) (x1 : Int32) : Option (Int32 × kS) := M_Ar_fill_28_5 k_fu σ x1 0 8
set_option maxHeartbeats 4000000 in
set_option maxRecDepth 100000 in
theorem B_Ar_fill_28_0 {p : Program} {l : Launch} {e : Env} {s : State} {m : MethodId} {args : Array Value} {below : List Frame} {meth : Method} {c : Code} {D : va_G} {a : Nat → Nat} {c9 : Nat → ClassId} {A : Nat → Prop} {r9 : Int32} {σo : kS} (C0 : k_Cx D c9 p s m args meth c R_Ar c_Ar_fill 4 none A) (σ : kS) (x1 : Int32) (H : Heap) (locs : List Loc) (ls : Array Slot) (hP : va_P D kcl (kw a c9 σ) H) (hD : va_D A (kw a c9 σ)) (hS : va_S A s.heap H locs) (hl : lv_has ls 4 [(0, .ref (a 28)), (1, .int x1)]) (h : M_Ar_fill_28 σ x1 = some (r9, σo)) : W p l e rm_Ar_fill_28 s m args below meth c H locs 0 0 (MQ below (k_Qv D a c9 σo A) args s 0 0 A) (F0 m 0 ls []) := by
  obtain ⟨hx, hb, hml, hown, hts, hr, hlk, hK, hN, hA⟩ := id C0
  unfold M_Ar_fill_28 at h
  refine lv_iconst (v := 0) hx hb d_Ar_fill_0 (by decide) ?_
  refine lv_istore_n (lv' := [(2, .int 0), (0, .ref (a 28)), (1, .int x1)]) hx hb d_Ar_fill_1 rfl hl (by decide) rfl (fun ls hl => ?_)
  refine lv_aload_n hx hb d_Ar_fill_2 rfl (lv_at hl 1 rfl) ?_
  refine va_alen hx hb hK hP 28 0 kw_28 rfl (v := 8) rfl d_Ar_fill_3 ?_
  refine lv_istore_n (lv' := [(3, .int 8), (2, .int 0), (0, .ref (a 28)), (1, .int x1)]) hx hb d_Ar_fill_4 rfl hl (by decide) rfl (fun ls hl => ?_)
  exact B_Ar_fill_28_5 C0 k_fu _ _ _ _ H locs ls hP hD hS (lv_sub hl [2, 3, 1, 0] rfl) h
theorem K_Ar_fill_28 (l : Launch) (D : va_G) (a : Nat → Nat) (c9 : Nat → ClassId) (sz : Nat) {σ : kS} {x1 : Int32} {r9 : Int32} {σo : kS} (h : M_Ar_fill_28 σ x1 = some (r9, σo)) : Met l y_Ar_fill (Cond.code y_Ar_fill c_Ar_fill 4 none :: kG) rm_Ar_fill_28 (k_Pc D a c9 sz σ [.ref (a 28), .int x1]) (k_Qv D a c9 σo (k_A a c9 σ sz)) 0 0 (k_A a c9 σ sz) :=
  k_met (Qf := k_Qv D a c9 σo) (by decide) (Nat.le_of_ble_eq_true rfl) (fun p e s m args below meth c A ls C0 hP hD hS hl => B_Ar_fill_28_0 C0 σ x1 s.heap [] ls hP hD hS hl h)
def rm_Ar_fill_30 : Room := { frames := 0, cells := 0, slots := 0, locals := 0 }
def M_Ar_fill_30_5_b (self9 : kS → Int32 → Int32 → Int32 → Option (Int32 × kS)) (σ : kS) (x1 x2 x3 : Int32) : Option (Int32 × kS) := if x3 ≤ x2 then (some (0, σ)) else (k_st σ 23 8 (x2) (x1) fun σ2 => k_let (x2 + 1) fun v3 => self9 σ2 x1 v3 x3)
def M_Ar_fill_30_5 : Nat → kS → Int32 → Int32 → Int32 → Option (Int32 × kS)
  | 0 => fun _ _ _ _ => none
  | n + 1 => M_Ar_fill_30_5_b (M_Ar_fill_30_5 n)
set_option maxHeartbeats 4000000 in
set_option maxRecDepth 100000 in
theorem B_Ar_fill_30_5 {p : Program} {l : Launch} {e : Env} {s : State} {m : MethodId} {args : Array Value} {below : List Frame} {meth : Method} {c : Code} {D : va_G} {a : Nat → Nat} {c9 : Nat → ClassId} {A : Nat → Prop} {r9 : Int32} {σo : kS} (C0 : k_Cx D c9 p s m args meth c R_Ar c_Ar_fill 4 none A) : ∀ (n : Nat) (σ : kS) (x1 x2 x3 : Int32) (H : Heap) (locs : List Loc) (ls : Array Slot), va_P D kcl (kw a c9 σ) H → va_D A (kw a c9 σ) → va_S A s.heap H locs → lv_has ls 4 [(0, .ref (a 30)), (1, .int x1), (2, .int x2), (3, .int x3)] → M_Ar_fill_30_5 n σ x1 x2 x3 = some (r9, σo) → W p l e rm_Ar_fill_30 s m args below meth c H locs 0 0 (MQ below (k_Qv D a c9 σo A) args s 0 0 A) (F0 m 5 ls []) := by
  obtain ⟨hx, hb, hml, hown, hts, hr, hlk, hK, hN, hA⟩ := id C0
  intro n
  induction n with
  | zero =>
    intro σ x1 x2 x3 H locs ls hP hD hS hl h
    replace h : (none : Option (Int32 × kS)) = some (r9, σo) := h
    cases h
  | succ n ih =>
    intro σ x1 x2 x3 H locs ls hP hD hS hl h
    replace h : M_Ar_fill_30_5_b (M_Ar_fill_30_5 n) σ x1 x2 x3 = some (r9, σo) := h
    unfold M_Ar_fill_30_5_b at h
    refine lv_iload_n hx hb d_Ar_fill_5 rfl (lv_at hl 2 rfl) ?_
    refine lv_iload_n hx hb d_Ar_fill_6 rfl (lv_at hl 3 rfl) ?_
    refine lv_icmp_ge (tgt := 20) hx hb d_Ar_fill_7 (by decide) (fun c1 => ?_) (fun c1 => ?_)
    · replace h := (if_pos c1).symm.trans h
      cases h
      exact k_vret hx hb hr hlk hP hS d_Ar_fill_20
    · replace h := (if_neg c1).symm.trans h
      refine lv_aload_n hx hb d_Ar_fill_10 rfl (lv_at hl 0 rfl) ?_
      refine lv_iload_n hx hb d_Ar_fill_11 rfl (lv_at hl 2 rfl) ?_
      refine lv_iload_n hx hb d_Ar_fill_12 rfl (lv_at hl 1 rfl) ?_
      obtain ⟨σ2, eσ2, hiσ2, h⟩ := k_st_e h
      refine va_iast hx hb hK hP hD hS 30 0 kw_30 rfl hiσ2 d_Ar_fill_13 (fun H locs hP hD hS => ?_)
      replace hP := k_mvP (kw_s30.trans (congrArg _ eσ2.symm)) hP
      replace hD := k_mvD (kw_s30.trans (congrArg _ eσ2.symm)) hD
      obtain ⟨v3, ev3, h⟩ := k_let_e h
      refine lv_iinc (v := v3) (lv' := [(2, .int v3), (0, .ref (a 30)), (1, .int x1), (3, .int x3)]) hx hb d_Ar_fill_14 hl (k := 2) rfl (by rw [ev3]; rfl) (by decide) rfl (fun ls hl => ?_)
      refine lv_goto (tgt := 5) hx hb d_Ar_fill_17 (by decide) ?_
      exact ih _ _ _ _ H locs ls hP hD hS (lv_sub hl [1, 2, 0, 3] rfl) h
def M_Ar_fill_30 (σ : kS) (x1 : Int32) : Option (Int32 × kS) := M_Ar_fill_30_5 k_fu σ x1 0 8
set_option maxHeartbeats 4000000 in
set_option maxRecDepth 100000 in
theorem B_Ar_fill_30_0 {p : Program} {l : Launch} {e : Env} {s : State} {m : MethodId} {args : Array Value} {below : List Frame} {meth : Method} {c : Code} {D : va_G} {a : Nat → Nat} {c9 : Nat → ClassId} {A : Nat → Prop} {r9 : Int32} {σo : kS} (C0 : k_Cx D c9 p s m args meth c R_Ar c_Ar_fill 4 none A) (σ : kS) (x1 : Int32) (H : Heap) (locs : List Loc) (ls : Array Slot) (hP : va_P D kcl (kw a c9 σ) H) (hD : va_D A (kw a c9 σ)) (hS : va_S A s.heap H locs) (hl : lv_has ls 4 [(0, .ref (a 30)), (1, .int x1)]) (h : M_Ar_fill_30 σ x1 = some (r9, σo)) : W p l e rm_Ar_fill_30 s m args below meth c H locs 0 0 (MQ below (k_Qv D a c9 σo A) args s 0 0 A) (F0 m 0 ls []) := by
  obtain ⟨hx, hb, hml, hown, hts, hr, hlk, hK, hN, hA⟩ := id C0
  unfold M_Ar_fill_30 at h
  refine lv_iconst (v := 0) hx hb d_Ar_fill_0 (by decide) ?_
  refine lv_istore_n (lv' := [(2, .int 0), (0, .ref (a 30)), (1, .int x1)]) hx hb d_Ar_fill_1 rfl hl (by decide) rfl (fun ls hl => ?_)
  refine lv_aload_n hx hb d_Ar_fill_2 rfl (lv_at hl 1 rfl) ?_
  refine va_alen hx hb hK hP 30 0 kw_30 rfl (v := 8) rfl d_Ar_fill_3 ?_
  refine lv_istore_n (lv' := [(3, .int 8), (2, .int 0), (0, .ref (a 30)), (1, .int x1)]) hx hb d_Ar_fill_4 rfl hl (by decide) rfl (fun ls hl => ?_)
  exact B_Ar_fill_30_5 C0 k_fu _ _ _ _ H locs ls hP hD hS (lv_sub hl [2, 3, 1, 0] rfl) h
theorem K_Ar_fill_30 (l : Launch) (D : va_G) (a : Nat → Nat) (c9 : Nat → ClassId) (sz : Nat) {σ : kS} {x1 : Int32} {r9 : Int32} {σo : kS} (h : M_Ar_fill_30 σ x1 = some (r9, σo)) : Met l y_Ar_fill (Cond.code y_Ar_fill c_Ar_fill 4 none :: kG) rm_Ar_fill_30 (k_Pc D a c9 sz σ [.ref (a 30), .int x1]) (k_Qv D a c9 σo (k_A a c9 σ sz)) 0 0 (k_A a c9 σ sz) :=
  k_met (Qf := k_Qv D a c9 σo) (by decide) (Nat.le_of_ble_eq_true rfl) (fun p e s m args below meth c A ls C0 hP hD hS hl => B_Ar_fill_30_0 C0 σ x1 s.heap [] ls hP hD hS hl h)
def rm_Nm_clear : Room := { frames := 1, cells := 0, slots := 0, locals := 23 }
def M_Nm_clear (σ : kS) : Option (Int32 × kS) := k_call (M_Ar_fill_28 σ (-1)) fun _ σ2 => k_call (M_Ar_fill_30 σ2 (-1)) fun _ σ5 => some (0, σ5)
set_option maxHeartbeats 4000000 in
set_option maxRecDepth 100000 in
theorem B_Nm_clear_0 {p : Program} {l : Launch} {e : Env} {s : State} {m : MethodId} {args : Array Value} {below : List Frame} {meth : Method} {c : Code} {D : va_G} {a : Nat → Nat} {c9 : Nat → ClassId} {A : Nat → Prop} {r9 : Int32} {σo : kS} (C0 : k_Cx D c9 p s m args meth c R_Nm c_Nm_clear 1 none A) (σ : kS) (H : Heap) (locs : List Loc) (ls : Array Slot) (hP : va_P D kcl (kw a c9 σ) H) (hD : va_D A (kw a c9 σ)) (hS : va_S A s.heap H locs) (hl : lv_has ls 1 [(0, .ref (a 4))]) (h : M_Nm_clear σ  = some (r9, σo)) : W p l e rm_Nm_clear s m args below meth c H locs 0 0 (MQ below (k_Qv D a c9 σo A) args s 0 0 A) (F0 m 0 ls []) := by
  obtain ⟨hx, hb, hml, hown, hts, hr, hlk, hK, hN, hA⟩ := id C0
  unfold M_Nm_clear at h
  refine lv_aload_n hx hb d_Nm_clear_0 rfl (lv_at hl 0 rfl) ?_
  refine va_get (ci := 4) (C := R_Nm) (T := T_Nm) (N := 3) hx hb hts in_Nm hown hK hP 4 kw_4 rfl 0 (by decide) (hts _ q_106) (fun _ h9 => h9) rfl d_Nm_clear_1 ?_
  refine lv_iconst (v := (-1)) hx hb d_Nm_clear_4 (by decide) ?_
  obtain ⟨v1, σ2, hc3, h⟩ := k_call_e h
  refine k_callv (va_runS (As := [.ref (a 28), .int (-1)]) (rest := []) ⟨hx, hb, hml, hown, hts⟩ (K_Ar_fill_28 l D a c9 H.size hc3) (va_cwS 2 hts (k_gS q_454 q_455 q_15 q_456) rfl rfl rfl h_Ar_fill.2 ⟨Nat.le_of_ble_eq_true rfl, Nat.le_of_ble_eq_true rfl⟩) (k_preS hP hK hN hD) rfl rfl hl.1 rfl (lv_room (Nat.le_of_ble_eq_true rfl)) d_Nm_clear_5 ⟨Nat.zero_le _, Nat.zero_le _⟩) hD hS hA (fun H locs hP hD hS => ?_)
  refine lv_aload_n hx hb d_Nm_clear_8 rfl (lv_at hl 0 rfl) ?_
  refine va_get (ci := 4) (C := R_Nm) (T := T_Nm) (N := 3) hx hb hts in_Nm hown hK hP 4 kw_4 rfl 2 (by decide) (hts _ q_110) (fun _ h9 => h9) rfl d_Nm_clear_9 ?_
  refine lv_iconst (v := (-1)) hx hb d_Nm_clear_12 (by decide) ?_
  obtain ⟨v4, σ5, hc6, h⟩ := k_call_e h
  refine k_callv (va_runS (As := [.ref (a 30), .int (-1)]) (rest := []) ⟨hx, hb, hml, hown, hts⟩ (K_Ar_fill_30 l D a c9 H.size hc6) (va_cwS 2 hts (k_gS q_454 q_455 q_15 q_456) rfl rfl rfl h_Ar_fill.2 ⟨Nat.le_of_ble_eq_true rfl, Nat.le_of_ble_eq_true rfl⟩) (k_preS hP hK hN hD) rfl rfl hl.1 rfl (lv_room (Nat.le_of_ble_eq_true rfl)) d_Nm_clear_13 ⟨Nat.zero_le _, Nat.zero_le _⟩) hD hS hA (fun H locs hP hD hS => ?_)
  cases h
  exact k_vret hx hb hr hlk hP hS d_Nm_clear_16
theorem K_Nm_clear (l : Launch) (D : va_G) (a : Nat → Nat) (c9 : Nat → ClassId) (sz : Nat) {σ : kS} {r9 : Int32} {σo : kS} (h : M_Nm_clear σ  = some (r9, σo)) : Met l y_Nm_clear (Cond.code y_Nm_clear c_Nm_clear 1 none :: kG) rm_Nm_clear (k_Pc D a c9 sz σ [.ref (a 4)]) (k_Qv D a c9 σo (k_A a c9 σ sz)) 0 0 (k_A a c9 σ sz) :=
  k_met (Qf := k_Qv D a c9 σo) (by decide) (Nat.le_of_ble_eq_true rfl) (fun p e s m args below meth c A ls C0 hP hD hS hl => B_Nm_clear_0 C0 σ  s.heap [] ls hP hD hS hl h)
def rm_Nm_hasNothing : Room := { frames := 0, cells := 0, slots := 0, locals := 0 }
def M_Nm_hasNothing (σ : kS) (x1 : Int32) : Option (Int32 × kS) := k_ld (σ.2.1 21) 8 (x1) fun v1 => if 0 ≤ v1 then (some (0, σ)) else (some (1, σ))
set_option maxHeartbeats 4000000 in
set_option maxRecDepth 100000 in
theorem B_Nm_hasNothing_0 {p : Program} {l : Launch} {e : Env} {s : State} {m : MethodId} {args : Array Value} {below : List Frame} {meth : Method} {c : Code} {D : va_G} {a : Nat → Nat} {c9 : Nat → ClassId} {A : Nat → Prop} {r9 : Int32} {σo : kS} (C0 : k_Cx D c9 p s m args meth c R_Nm c_Nm_hasNothing 2 (some .boolean) A) (σ : kS) (x1 : Int32) (H : Heap) (locs : List Loc) (ls : Array Slot) (hP : va_P D kcl (kw a c9 σ) H) (hD : va_D A (kw a c9 σ)) (hS : va_S A s.heap H locs) (hl : lv_has ls 2 [(0, .ref (a 4)), (1, .int x1)]) (h : M_Nm_hasNothing σ x1 = some (r9, σo)) : W p l e rm_Nm_hasNothing s m args below meth c H locs 0 0 (MQ below (k_Qi D a c9 r9 σo A) args s 0 0 A) (F0 m 0 ls []) := by
  obtain ⟨hx, hb, hml, hown, hts, hr, hlk, hK, hN, hA⟩ := id C0
  unfold M_Nm_hasNothing at h
  refine lv_aload_n hx hb d_Nm_hasNothing_0 rfl (lv_at hl 0 rfl) ?_
  refine va_get (ci := 4) (C := R_Nm) (T := T_Nm) (N := 3) hx hb hts in_Nm hown hK hP 4 kw_4 rfl 0 (by decide) (hts _ q_106) (fun _ h9 => h9) rfl d_Nm_hasNothing_1 ?_
  refine lv_iload_n hx hb d_Nm_hasNothing_4 rfl (lv_at hl 1 rfl) ?_
  obtain ⟨v1, ev1, hv1, h⟩ := k_ld_e h
  refine va_iald hx hb hK hP 28 0 kw_28 rfl hv1 d_Nm_hasNothing_5 (k_top ev1 ?_)
  refine lv_if_ge (tgt := 13) hx hb d_Nm_hasNothing_6 (by decide) (fun c2 => ?_) (fun c2 => ?_)
  · replace h := (if_pos c2).symm.trans h
    refine lv_iconst (v := 0) hx hb d_Nm_hasNothing_13 (by decide) ?_
    cases h
    exact k_zret (Or.inl rfl) hx hb hr hlk hP hS d_Nm_hasNothing_14
  · replace h := (if_neg c2).symm.trans h
    refine lv_iconst (v := 1) hx hb d_Nm_hasNothing_9 (by decide) ?_
    refine lv_goto (tgt := 14) hx hb d_Nm_hasNothing_10 (by decide) ?_
    cases h
    exact k_zret (Or.inr rfl) hx hb hr hlk hP hS d_Nm_hasNothing_14
theorem K_Nm_hasNothing (l : Launch) (D : va_G) (a : Nat → Nat) (c9 : Nat → ClassId) (sz : Nat) {σ : kS} {x1 : Int32} {r9 : Int32} {σo : kS} (h : M_Nm_hasNothing σ x1 = some (r9, σo)) : Met l y_Nm_hasNothing (Cond.code y_Nm_hasNothing c_Nm_hasNothing 2 (some .boolean) :: kG) rm_Nm_hasNothing (k_Pc D a c9 sz σ [.ref (a 4), .int x1]) (k_Qi D a c9 r9 σo (k_A a c9 σ sz)) 0 0 (k_A a c9 σ sz) :=
  k_met (Qf := k_Qi D a c9 r9 σo) (by decide) (Nat.le_of_ble_eq_true rfl) (fun p e s m args below meth c A ls C0 hP hD hS hl => B_Nm_hasNothing_0 C0 σ x1 s.heap [] ls hP hD hS hl h)
def rm_Nm_give : Room := { frames := 1, cells := 0, slots := 0, locals := 64 }
def M_Nm_give (σ : kS) (x1 x3 x4 : Int32) : Option (Int32 × kS) := k_cp σ 17 12 22 96 (0) ((x1 * 12)) (x3) fun σ1 => k_st σ1 21 8 (x1) (x3) fun σ2 => k_st σ2 23 8 (x1) (x4) fun σ3 => some (0, σ3)
set_option maxHeartbeats 4000000 in
set_option maxRecDepth 100000 in
theorem B_Nm_give_0 {p : Program} {l : Launch} {e : Env} {s : State} {m : MethodId} {args : Array Value} {below : List Frame} {meth : Method} {c : Code} {D : va_G} {a : Nat → Nat} {c9 : Nat → ClassId} {A : Nat → Prop} {r9 : Int32} {σo : kS} (C0 : k_Cx D c9 p s m args meth c R_Nm c_Nm_give 5 none A) (σ : kS) (x1 x3 x4 : Int32) (H : Heap) (locs : List Loc) (ls : Array Slot) (hP : va_P D kcl (kw a c9 σ) H) (hD : va_D A (kw a c9 σ)) (hS : va_S A s.heap H locs) (hl : lv_has ls 5 [(0, .ref (a 4)), (1, .int x1), (2, .ref (a 24)), (3, .int x3), (4, .int x4)]) (h : M_Nm_give σ x1 x3 x4 = some (r9, σo)) : W p l e rm_Nm_give s m args below meth c H locs 0 0 (MQ below (k_Qv D a c9 σo A) args s 0 0 A) (F0 m 0 ls []) := by
  obtain ⟨hx, hb, hml, hown, hts, hr, hlk, hK, hN, hA⟩ := id C0
  unfold M_Nm_give at h
  refine lv_aload_n hx hb d_Nm_give_0 rfl (lv_at hl 2 rfl) ?_
  refine lv_iconst (v := 0) hx hb d_Nm_give_1 (by decide) ?_
  refine lv_aload_n hx hb d_Nm_give_2 rfl (lv_at hl 0 rfl) ?_
  refine va_get (ci := 4) (C := R_Nm) (T := T_Nm) (N := 3) hx hb hts in_Nm hown hK hP 4 kw_4 rfl 1 (by decide) (hts _ q_108) (fun _ h9 => h9) rfl d_Nm_give_3 ?_
  refine lv_iload_n hx hb d_Nm_give_6 rfl (lv_at hl 1 rfl) ?_
  refine lv_bipush (v := 12) hx hb d_Nm_give_7 (by decide) ?_
  refine lv_imul hx hb d_Nm_give_9 ?_
  refine lv_iload_n hx hb d_Nm_give_10 rfl (lv_at hl 3 rfl) ?_
  obtain ⟨σ1, eσ1, hq1, hq2, hq3, hq4, hq5, h⟩ := k_cp_e h
  refine va_copyi hx hb (hml.trans hl.1.symm) hown (hts _ q_568) (hts _ q_570) (hts _ q_569) (hts _ q_18) hK hP hD hS 24 29 0 0 kw_24 kw_29 rfl rfl rfl hq1 hq2 hq3 hq4 hq5 (fun _ _ => rfl) (Nat.le_of_ble_eq_true rfl) (by decide) d_Nm_give_11 (fun H locs hP hD hS => ?_)
  replace hP := k_mvP (kw_s29.trans (congrArg _ eσ1.symm)) hP
  replace hD := k_mvD (kw_s29.trans (congrArg _ eσ1.symm)) hD
  refine lv_aload_n hx hb d_Nm_give_14 rfl (lv_at hl 0 rfl) ?_
  refine va_get (ci := 4) (C := R_Nm) (T := T_Nm) (N := 3) hx hb hts in_Nm hown hK hP 4 kw_4 rfl 0 (by decide) (hts _ q_106) (fun _ h9 => h9) rfl d_Nm_give_15 ?_
  refine lv_iload_n hx hb d_Nm_give_18 rfl (lv_at hl 1 rfl) ?_
  refine lv_iload_n hx hb d_Nm_give_19 rfl (lv_at hl 3 rfl) ?_
  obtain ⟨σ2, eσ2, hiσ2, h⟩ := k_st_e h
  refine va_iast hx hb hK hP hD hS 28 0 kw_28 rfl hiσ2 d_Nm_give_20 (fun H locs hP hD hS => ?_)
  replace hP := k_mvP (kw_s28.trans (congrArg _ eσ2.symm)) hP
  replace hD := k_mvD (kw_s28.trans (congrArg _ eσ2.symm)) hD
  refine lv_aload_n hx hb d_Nm_give_21 rfl (lv_at hl 0 rfl) ?_
  refine va_get (ci := 4) (C := R_Nm) (T := T_Nm) (N := 3) hx hb hts in_Nm hown hK hP 4 kw_4 rfl 2 (by decide) (hts _ q_110) (fun _ h9 => h9) rfl d_Nm_give_22 ?_
  refine lv_iload_n hx hb d_Nm_give_25 rfl (lv_at hl 1 rfl) ?_
  refine lv_iload hx hb d_Nm_give_26 (lv_at hl 4 rfl) ?_
  obtain ⟨σ3, eσ3, hiσ3, h⟩ := k_st_e h
  refine va_iast hx hb hK hP hD hS 30 0 kw_30 rfl hiσ3 d_Nm_give_28 (fun H locs hP hD hS => ?_)
  replace hP := k_mvP (kw_s30.trans (congrArg _ eσ3.symm)) hP
  replace hD := k_mvD (kw_s30.trans (congrArg _ eσ3.symm)) hD
  cases h
  exact k_vret hx hb hr hlk hP hS d_Nm_give_29
theorem K_Nm_give (l : Launch) (D : va_G) (a : Nat → Nat) (c9 : Nat → ClassId) (sz : Nat) {σ : kS} {x1 x3 x4 : Int32} {r9 : Int32} {σo : kS} (h : M_Nm_give σ x1 x3 x4 = some (r9, σo)) : Met l y_Nm_give (Cond.code y_Nm_give c_Nm_give 5 none :: kG) rm_Nm_give (k_Pc D a c9 sz σ [.ref (a 4), .int x1, .ref (a 24), .int x3, .int x4]) (k_Qv D a c9 σo (k_A a c9 σ sz)) 0 0 (k_A a c9 σ sz) :=
  k_met (Qf := k_Qv D a c9 σo) (by decide) (Nat.le_of_ble_eq_true rfl) (fun p e s m args below meth c A ls C0 hP hD hS hl => B_Nm_give_0 C0 σ x1 x3 x4 s.heap [] ls hP hD hS hl h)
def rm_Nm_takeBack : Room := { frames := 0, cells := 0, slots := 0, locals := 0 }
def M_Nm_takeBack (σ : kS) (x1 x2 : Int32) : Option (Int32 × kS) := k_ld (σ.2.1 23) 8 (x1) fun v1 => if v1 = x2 then (k_st σ 21 8 (x1) ((-1)) fun σ3 => k_st σ3 23 8 (x1) ((-1)) fun σ4 => some (0, σ4)) else (some (0, σ))
set_option maxHeartbeats 4000000 in
set_option maxRecDepth 100000 in
theorem B_Nm_takeBack_0 {p : Program} {l : Launch} {e : Env} {s : State} {m : MethodId} {args : Array Value} {below : List Frame} {meth : Method} {c : Code} {D : va_G} {a : Nat → Nat} {c9 : Nat → ClassId} {A : Nat → Prop} {r9 : Int32} {σo : kS} (C0 : k_Cx D c9 p s m args meth c R_Nm c_Nm_takeBack 3 none A) (σ : kS) (x1 x2 : Int32) (H : Heap) (locs : List Loc) (ls : Array Slot) (hP : va_P D kcl (kw a c9 σ) H) (hD : va_D A (kw a c9 σ)) (hS : va_S A s.heap H locs) (hl : lv_has ls 3 [(0, .ref (a 4)), (1, .int x1), (2, .int x2)]) (h : M_Nm_takeBack σ x1 x2 = some (r9, σo)) : W p l e rm_Nm_takeBack s m args below meth c H locs 0 0 (MQ below (k_Qv D a c9 σo A) args s 0 0 A) (F0 m 0 ls []) := by
  obtain ⟨hx, hb, hml, hown, hts, hr, hlk, hK, hN, hA⟩ := id C0
  unfold M_Nm_takeBack at h
  refine lv_aload_n hx hb d_Nm_takeBack_0 rfl (lv_at hl 0 rfl) ?_
  refine va_get (ci := 4) (C := R_Nm) (T := T_Nm) (N := 3) hx hb hts in_Nm hown hK hP 4 kw_4 rfl 2 (by decide) (hts _ q_110) (fun _ h9 => h9) rfl d_Nm_takeBack_1 ?_
  refine lv_iload_n hx hb d_Nm_takeBack_4 rfl (lv_at hl 1 rfl) ?_
  obtain ⟨v1, ev1, hv1, h⟩ := k_ld_e h
  refine va_iald hx hb hK hP 30 0 kw_30 rfl hv1 d_Nm_takeBack_5 (k_top ev1 ?_)
  refine lv_iload_n hx hb d_Nm_takeBack_6 rfl (lv_at hl 2 rfl) ?_
  refine lv_icmp_ne (tgt := 24) hx hb d_Nm_takeBack_7 (by decide) (fun c2 => ?_) (fun c2 => ?_)
  · replace h := (if_neg c2).symm.trans h
    cases h
    exact k_vret hx hb hr hlk hP hS d_Nm_takeBack_24
  · replace h := (if_pos c2).symm.trans h
    refine lv_aload_n hx hb d_Nm_takeBack_10 rfl (lv_at hl 0 rfl) ?_
    refine va_get (ci := 4) (C := R_Nm) (T := T_Nm) (N := 3) hx hb hts in_Nm hown hK hP 4 kw_4 rfl 0 (by decide) (hts _ q_106) (fun _ h9 => h9) rfl d_Nm_takeBack_11 ?_
    refine lv_iload_n hx hb d_Nm_takeBack_14 rfl (lv_at hl 1 rfl) ?_
    refine lv_iconst (v := (-1)) hx hb d_Nm_takeBack_15 (by decide) ?_
    obtain ⟨σ3, eσ3, hiσ3, h⟩ := k_st_e h
    refine va_iast hx hb hK hP hD hS 28 0 kw_28 rfl hiσ3 d_Nm_takeBack_16 (fun H locs hP hD hS => ?_)
    replace hP := k_mvP (kw_s28.trans (congrArg _ eσ3.symm)) hP
    replace hD := k_mvD (kw_s28.trans (congrArg _ eσ3.symm)) hD
    refine lv_aload_n hx hb d_Nm_takeBack_17 rfl (lv_at hl 0 rfl) ?_
    refine va_get (ci := 4) (C := R_Nm) (T := T_Nm) (N := 3) hx hb hts in_Nm hown hK hP 4 kw_4 rfl 2 (by decide) (hts _ q_110) (fun _ h9 => h9) rfl d_Nm_takeBack_18 ?_
    refine lv_iload_n hx hb d_Nm_takeBack_21 rfl (lv_at hl 1 rfl) ?_
    refine lv_iconst (v := (-1)) hx hb d_Nm_takeBack_22 (by decide) ?_
    obtain ⟨σ4, eσ4, hiσ4, h⟩ := k_st_e h
    refine va_iast hx hb hK hP hD hS 30 0 kw_30 rfl hiσ4 d_Nm_takeBack_23 (fun H locs hP hD hS => ?_)
    replace hP := k_mvP (kw_s30.trans (congrArg _ eσ4.symm)) hP
    replace hD := k_mvD (kw_s30.trans (congrArg _ eσ4.symm)) hD
    cases h
    exact k_vret hx hb hr hlk hP hS d_Nm_takeBack_24
theorem K_Nm_takeBack (l : Launch) (D : va_G) (a : Nat → Nat) (c9 : Nat → ClassId) (sz : Nat) {σ : kS} {x1 x2 : Int32} {r9 : Int32} {σo : kS} (h : M_Nm_takeBack σ x1 x2 = some (r9, σo)) : Met l y_Nm_takeBack (Cond.code y_Nm_takeBack c_Nm_takeBack 3 none :: kG) rm_Nm_takeBack (k_Pc D a c9 sz σ [.ref (a 4), .int x1, .int x2]) (k_Qv D a c9 σo (k_A a c9 σ sz)) 0 0 (k_A a c9 σ sz) :=
  k_met (Qf := k_Qv D a c9 σo) (by decide) (Nat.le_of_ble_eq_true rfl) (fun p e s m args below meth c A ls C0 hP hD hS hl => B_Nm_takeBack_0 C0 σ x1 x2 s.heap [] ls hP hD hS hl h)
def rm_Nm_hasSame : Room := { frames := 24, cells := 0, slots := 0, locals := 666 }
def M_Nm_hasSame_16_b (self9 : kS → Int32 → Int32 → Int32 → Option (Int32 × kS)) (σ : kS) (x2 x4 x5 : Int32) : Option (Int32 × kS) := if x4 ≤ x5 then (some (1, σ)) else (k_ld (σ.2.1 22) 96 (((x2 * 12) + x5)) fun v2 => k_ld (σ.2.1 17) 12 (x5) fun v3 => k_call (M_F_compare σ v2 v3) fun v4 σ5 => if v4 = 0 then (k_let (x5 + 1) fun v8 => self9 σ5 x2 x4 v8) else (some (0, σ5)))
def M_Nm_hasSame_16 : Nat → kS → Int32 → Int32 → Int32 → Option (Int32 × kS)
  | 0 => fun _ _ _ _ => none
  | n + 1 => M_Nm_hasSame_16_b (M_Nm_hasSame_16 n)
set_option maxHeartbeats 4000000 in
set_option maxRecDepth 100000 in
theorem B_Nm_hasSame_16 {p : Program} {l : Launch} {e : Env} {s : State} {m : MethodId} {args : Array Value} {below : List Frame} {meth : Method} {c : Code} {D : va_G} {a : Nat → Nat} {c9 : Nat → ClassId} {A : Nat → Prop} {r9 : Int32} {σo : kS} (C0 : k_Cx D c9 p s m args meth c R_Nm c_Nm_hasSame 6 (some .boolean) A) : ∀ (n : Nat) (σ : kS) (x2 x4 x5 : Int32) (H : Heap) (locs : List Loc) (ls : Array Slot), va_P D kcl (kw a c9 σ) H → va_D A (kw a c9 σ) → va_S A s.heap H locs → lv_has ls 6 [(0, .ref (a 4)), (1, .ref (a 1)), (2, .int x2), (3, .ref (a 24)), (4, .int x4), (5, .int x5)] → M_Nm_hasSame_16 n σ x2 x4 x5 = some (r9, σo) → W p l e rm_Nm_hasSame s m args below meth c H locs 0 0 (MQ below (k_Qi D a c9 r9 σo A) args s 0 0 A) (F0 m 16 ls []) := by
  obtain ⟨hx, hb, hml, hown, hts, hr, hlk, hK, hN, hA⟩ := id C0
  intro n
  induction n with
  | zero =>
    intro σ x2 x4 x5 H locs ls hP hD hS hl h
    replace h : (none : Option (Int32 × kS)) = some (r9, σo) := h
    cases h
  | succ n ih =>
    intro σ x2 x4 x5 H locs ls hP hD hS hl h
    replace h : M_Nm_hasSame_16_b (M_Nm_hasSame_16 n) σ x2 x4 x5 = some (r9, σo) := h
    unfold M_Nm_hasSame_16_b at h
    refine lv_iload hx hb d_Nm_hasSame_16 (lv_at hl 5 rfl) ?_
    refine lv_iload hx hb d_Nm_hasSame_18 (lv_at hl 4 rfl) ?_
    refine lv_icmp_ge (tgt := 54) hx hb d_Nm_hasSame_20 (by decide) (fun c1 => ?_) (fun c1 => ?_)
    · replace h := (if_pos c1).symm.trans h
      refine lv_iconst (v := 1) hx hb d_Nm_hasSame_54 (by decide) ?_
      cases h
      exact k_zret (Or.inr rfl) hx hb hr hlk hP hS d_Nm_hasSame_55
    · replace h := (if_neg c1).symm.trans h
      refine lv_aload_n hx hb d_Nm_hasSame_23 rfl (lv_at hl 1 rfl) ?_
      refine lv_aload_n hx hb d_Nm_hasSame_24 rfl (lv_at hl 0 rfl) ?_
      refine va_get (ci := 4) (C := R_Nm) (T := T_Nm) (N := 3) hx hb hts in_Nm hown hK hP 4 kw_4 rfl 1 (by decide) (hts _ q_108) (fun _ h9 => h9) rfl d_Nm_hasSame_25 ?_
      refine lv_iload_n hx hb d_Nm_hasSame_28 rfl (lv_at hl 2 rfl) ?_
      refine lv_bipush (v := 12) hx hb d_Nm_hasSame_29 (by decide) ?_
      refine lv_imul hx hb d_Nm_hasSame_31 ?_
      refine lv_iload hx hb d_Nm_hasSame_32 (lv_at hl 5 rfl) ?_
      refine lv_iadd hx hb d_Nm_hasSame_34 ?_
      obtain ⟨v2, ev2, hv2, h⟩ := k_ld_e h
      refine va_iald hx hb hK hP 29 0 kw_29 rfl hv2 d_Nm_hasSame_35 (k_top ev2 ?_)
      refine lv_aload_n hx hb d_Nm_hasSame_36 rfl (lv_at hl 3 rfl) ?_
      refine lv_iload hx hb d_Nm_hasSame_37 (lv_at hl 5 rfl) ?_
      obtain ⟨v3, ev3, hv3, h⟩ := k_ld_e h
      refine va_iald hx hb hK hP 24 0 kw_24 rfl hv3 d_Nm_hasSame_39 (k_top ev3 ?_)
      obtain ⟨v4, σ5, hc6, h⟩ := k_call_e h
      refine k_calli (va_runV (As := [.int v2, .int v3]) (rest := []) ⟨hx, hb, hml, hown, hts⟩ (K_F_compare l D a c9 H.size hc6) (cwV 2 hts (k_gV q_575 q_390 q_391 q_2 q_392) rfl rfl rfl h_F_compare ⟨Nat.le_of_ble_eq_true rfl, Nat.le_of_ble_eq_true rfl⟩) (k_preV (ci := 2) (q0 := 1) rfl kw_1 hP hK hN hD) rfl rfl hl.1 rfl (lv_room (Nat.le_of_ble_eq_true rfl)) d_Nm_hasSame_40 ⟨Nat.zero_le _, Nat.zero_le _⟩) hD hS hA (fun H locs hP hD hS => ?_)
      refine lv_if_eq (tgt := 48) hx hb d_Nm_hasSame_43 (by decide) (fun c7 => ?_) (fun c7 => ?_)
      · replace h := (if_pos c7).symm.trans h
        obtain ⟨v8, ev8, h⟩ := k_let_e h
        refine lv_iinc (v := v8) (lv' := [(5, .int v8), (0, .ref (a 4)), (1, .ref (a 1)), (2, .int x2), (3, .ref (a 24)), (4, .int x4)]) hx hb d_Nm_hasSame_48 hl (k := 5) rfl (by rw [ev8]; rfl) (by decide) rfl (fun ls hl => ?_)
        refine lv_goto (tgt := 16) hx hb d_Nm_hasSame_51 (by decide) ?_
        exact ih _ _ _ _ H locs ls hP hD hS (lv_sub hl [1, 2, 3, 4, 5, 0] rfl) h
      · replace h := (if_neg c7).symm.trans h
        refine lv_iconst (v := 0) hx hb d_Nm_hasSame_46 (by decide) ?_
        cases h
        exact k_zret (Or.inl rfl) hx hb hr hlk hP hS d_Nm_hasSame_47
def M_Nm_hasSame (σ : kS) (x2 x4 : Int32) : Option (Int32 × kS) := k_ld (σ.2.1 21) 8 (x2) fun v1 => if v1 = x4 then (M_Nm_hasSame_16 k_fu σ x2 x4 0) else (some (0, σ))
set_option maxHeartbeats 4000000 in
set_option maxRecDepth 100000 in
theorem B_Nm_hasSame_0 {p : Program} {l : Launch} {e : Env} {s : State} {m : MethodId} {args : Array Value} {below : List Frame} {meth : Method} {c : Code} {D : va_G} {a : Nat → Nat} {c9 : Nat → ClassId} {A : Nat → Prop} {r9 : Int32} {σo : kS} (C0 : k_Cx D c9 p s m args meth c R_Nm c_Nm_hasSame 6 (some .boolean) A) (σ : kS) (x2 x4 : Int32) (H : Heap) (locs : List Loc) (ls : Array Slot) (hP : va_P D kcl (kw a c9 σ) H) (hD : va_D A (kw a c9 σ)) (hS : va_S A s.heap H locs) (hl : lv_has ls 6 [(0, .ref (a 4)), (1, .ref (a 1)), (2, .int x2), (3, .ref (a 24)), (4, .int x4)]) (h : M_Nm_hasSame σ x2 x4 = some (r9, σo)) : W p l e rm_Nm_hasSame s m args below meth c H locs 0 0 (MQ below (k_Qi D a c9 r9 σo A) args s 0 0 A) (F0 m 0 ls []) := by
  obtain ⟨hx, hb, hml, hown, hts, hr, hlk, hK, hN, hA⟩ := id C0
  unfold M_Nm_hasSame at h
  refine lv_aload_n hx hb d_Nm_hasSame_0 rfl (lv_at hl 0 rfl) ?_
  refine va_get (ci := 4) (C := R_Nm) (T := T_Nm) (N := 3) hx hb hts in_Nm hown hK hP 4 kw_4 rfl 0 (by decide) (hts _ q_106) (fun _ h9 => h9) rfl d_Nm_hasSame_1 ?_
  refine lv_iload_n hx hb d_Nm_hasSame_4 rfl (lv_at hl 2 rfl) ?_
  obtain ⟨v1, ev1, hv1, h⟩ := k_ld_e h
  refine va_iald hx hb hK hP 28 0 kw_28 rfl hv1 d_Nm_hasSame_5 (k_top ev1 ?_)
  refine lv_iload hx hb d_Nm_hasSame_6 (lv_at hl 4 rfl) ?_
  refine lv_icmp_eq (tgt := 13) hx hb d_Nm_hasSame_8 (by decide) (fun c2 => ?_) (fun c2 => ?_)
  · replace h := (if_pos c2).symm.trans h
    refine lv_iconst (v := 0) hx hb d_Nm_hasSame_13 (by decide) ?_
    refine lv_istore (lv' := [(5, .int 0), (0, .ref (a 4)), (1, .ref (a 1)), (2, .int x2), (3, .ref (a 24)), (4, .int x4)]) hx hb d_Nm_hasSame_14 hl (by decide) rfl (fun ls hl => ?_)
    exact B_Nm_hasSame_16 C0 k_fu _ _ _ _ H locs ls hP hD hS (lv_sub hl [1, 2, 3, 4, 5, 0] rfl) h
  · replace h := (if_neg c2).symm.trans h
    refine lv_iconst (v := 0) hx hb d_Nm_hasSame_11 (by decide) ?_
    cases h
    exact k_zret (Or.inl rfl) hx hb hr hlk hP hS d_Nm_hasSame_12
theorem K_Nm_hasSame (l : Launch) (D : va_G) (a : Nat → Nat) (c9 : Nat → ClassId) (sz : Nat) {σ : kS} {x2 x4 : Int32} {r9 : Int32} {σo : kS} (h : M_Nm_hasSame σ x2 x4 = some (r9, σo)) : Met l y_Nm_hasSame (Cond.code y_Nm_hasSame c_Nm_hasSame 6 (some .boolean) :: kG) rm_Nm_hasSame (k_Pc D a c9 sz σ [.ref (a 4), .ref (a 1), .int x2, .ref (a 24), .int x4]) (k_Qi D a c9 r9 σo (k_A a c9 σ sz)) 0 0 (k_A a c9 σ sz) :=
  k_met (Qf := k_Qi D a c9 r9 σo) (by decide) (Nat.le_of_ble_eq_true rfl) (fun p e s m args below meth c A ls C0 hP hD hS hl => B_Nm_hasSame_0 C0 σ x2 x4 s.heap [] ls hP hD hS hl h)
def rm_Pc_all : Room := { frames := 0, cells := 0, slots := 0, locals := 0 }
def M_Pc_all (σ : kS) (x0 : Int32) : Option (Int32 × kS) := some (((1 <<< (x0 &&& 31)) - 1), σ)
set_option maxHeartbeats 4000000 in
set_option maxRecDepth 100000 in
theorem B_Pc_all_0 {p : Program} {l : Launch} {e : Env} {s : State} {m : MethodId} {args : Array Value} {below : List Frame} {meth : Method} {c : Code} {D : va_G} {a : Nat → Nat} {c9 : Nat → ClassId} {A : Nat → Prop} {r9 : Int32} {σo : kS} (C0 : k_Cx D c9 p s m args meth c R_Pc c_Pc_all 1 (some .int) A) (σ : kS) (x0 : Int32) (H : Heap) (locs : List Loc) (ls : Array Slot) (hP : va_P D kcl (kw a c9 σ) H) (hD : va_D A (kw a c9 σ)) (hS : va_S A s.heap H locs) (hl : lv_has ls 1 [(0, .int x0)]) (h : M_Pc_all σ x0 = some (r9, σo)) : W p l e rm_Pc_all s m args below meth c H locs 0 0 (MQ below (k_Qi D a c9 r9 σo A) args s 0 0 A) (F0 m 0 ls []) := by
  obtain ⟨hx, hb, hml, hown, hts, hr, hlk, hK, hN, hA⟩ := id C0
  unfold M_Pc_all at h
  refine lv_iconst (v := 1) hx hb d_Pc_all_0 (by decide) ?_
  refine lv_iload_n hx hb d_Pc_all_1 rfl (lv_at hl 0 rfl) ?_
  refine lv_ishl hx hb d_Pc_all_2 ?_
  refine lv_iconst (v := 1) hx hb d_Pc_all_3 (by decide) ?_
  refine lv_isub hx hb d_Pc_all_4 ?_
  cases h
  exact k_iret hx hb hr hlk hP hS d_Pc_all_5
theorem K_Pc_all (l : Launch) (D : va_G) (a : Nat → Nat) (c9 : Nat → ClassId) (sz : Nat) {σ : kS} {x0 : Int32} {r9 : Int32} {σo : kS} (h : M_Pc_all σ x0 = some (r9, σo)) : Met l y_Pc_all (Cond.code y_Pc_all c_Pc_all 1 (some .int) :: kG) rm_Pc_all (k_Pc D a c9 sz σ [.int x0]) (k_Qi D a c9 r9 σo (k_A a c9 σ sz)) 0 0 (k_A a c9 σ sz) :=
  k_met (Qf := k_Qi D a c9 r9 σo) (by decide) (Nat.le_of_ble_eq_true rfl) (fun p e s m args below meth c A ls C0 hP hD hS hl => B_Pc_all_0 C0 σ x0 s.heap [] ls hP hD hS hl h)
def rm_Pc_lowest : Room := { frames := 0, cells := 0, slots := 0, locals := 0 }
def M_Pc_lowest_45 (σ : kS) (x0 x1 x2 x3 x4 : Int32) : Option (Int32 × kS) := if x3 = 0 then (some (x2, σ)) else (some ((-1), σ))
set_option maxHeartbeats 4000000 in
set_option maxRecDepth 100000 in
theorem B_Pc_lowest_45 {p : Program} {l : Launch} {e : Env} {s : State} {m : MethodId} {args : Array Value} {below : List Frame} {meth : Method} {c : Code} {D : va_G} {a : Nat → Nat} {c9 : Nat → ClassId} {A : Nat → Prop} {r9 : Int32} {σo : kS} (C0 : k_Cx D c9 p s m args meth c R_Pc c_Pc_lowest 6 (some .int) A) (σ : kS) (x0 x1 x2 x3 x4 : Int32) (H : Heap) (locs : List Loc) (ls : Array Slot) (hP : va_P D kcl (kw a c9 σ) H) (hD : va_D A (kw a c9 σ)) (hS : va_S A s.heap H locs) (hl : lv_has ls 6 [(0, .int x0), (1, .int x1), (2, .int x2), (3, .int x3), (4, .int x4)]) (h : M_Pc_lowest_45 σ x0 x1 x2 x3 x4 = some (r9, σo)) : W p l e rm_Pc_lowest s m args below meth c H locs 0 0 (MQ below (k_Qi D a c9 r9 σo A) args s 0 0 A) (F0 m 45 ls []) := by
  obtain ⟨hx, hb, hml, hown, hts, hr, hlk, hK, hN, hA⟩ := id C0
  unfold M_Pc_lowest_45 at h
  refine lv_iload_n hx hb d_Pc_lowest_45 rfl (lv_at hl 3 rfl) ?_
  refine lv_if_ne (tgt := 53) hx hb d_Pc_lowest_46 (by decide) (fun c1 => ?_) (fun c1 => ?_)
  · replace h := (if_neg c1).symm.trans h
    refine lv_iconst (v := (-1)) hx hb d_Pc_lowest_53 (by decide) ?_
    cases h
    exact k_iret hx hb hr hlk hP hS d_Pc_lowest_54
  · replace h := (if_pos c1).symm.trans h
    refine lv_iload_n hx hb d_Pc_lowest_49 rfl (lv_at hl 2 rfl) ?_
    refine lv_goto (tgt := 54) hx hb d_Pc_lowest_50 (by decide) ?_
    cases h
    exact k_iret hx hb hr hlk hP hS d_Pc_lowest_54
def M_Pc_lowest_7_b (self9 : kS → Int32 → Int32 → Int32 → Int32 → Int32 → Option (Int32 × kS)) (σ : kS) (x0 x1 x2 x3 x4 : Int32) : Option (Int32 × kS) := if 12 ≤ x4 then (M_Pc_lowest_45 σ x0 x1 x2 x3 x4) else (if x3 ≤ 0 then (M_Pc_lowest_45 σ x0 x1 x2 x3 x4) else (k_let ((1 <<< (x4 &&& 31))) fun v3 => if (x0 &&& v3) = 0 then (k_let (x4 + 1) fun v5 => self9 σ x0 x1 x2 x3 v5) else (k_let ((x2 ||| v3)) fun v6 => k_let (x3 + (-1)) fun v7 => k_let (x4 + 1) fun v8 => self9 σ x0 x1 v6 v7 v8)))
def M_Pc_lowest_7 : Nat → kS → Int32 → Int32 → Int32 → Int32 → Int32 → Option (Int32 × kS)
  | 0 => fun _ _ _ _ _ _ => none
  | n + 1 => M_Pc_lowest_7_b (M_Pc_lowest_7 n)
set_option maxHeartbeats 4000000 in
set_option maxRecDepth 100000 in
theorem B_Pc_lowest_7 {p : Program} {l : Launch} {e : Env} {s : State} {m : MethodId} {args : Array Value} {below : List Frame} {meth : Method} {c : Code} {D : va_G} {a : Nat → Nat} {c9 : Nat → ClassId} {A : Nat → Prop} {r9 : Int32} {σo : kS} (C0 : k_Cx D c9 p s m args meth c R_Pc c_Pc_lowest 6 (some .int) A) : ∀ (n : Nat) (σ : kS) (x0 x1 x2 x3 x4 : Int32) (H : Heap) (locs : List Loc) (ls : Array Slot), va_P D kcl (kw a c9 σ) H → va_D A (kw a c9 σ) → va_S A s.heap H locs → lv_has ls 6 [(0, .int x0), (1, .int x1), (2, .int x2), (3, .int x3), (4, .int x4)] → M_Pc_lowest_7 n σ x0 x1 x2 x3 x4 = some (r9, σo) → W p l e rm_Pc_lowest s m args below meth c H locs 0 0 (MQ below (k_Qi D a c9 r9 σo A) args s 0 0 A) (F0 m 7 ls []) := by
  obtain ⟨hx, hb, hml, hown, hts, hr, hlk, hK, hN, hA⟩ := id C0
  intro n
  induction n with
  | zero =>
    intro σ x0 x1 x2 x3 x4 H locs ls hP hD hS hl h
    replace h : (none : Option (Int32 × kS)) = some (r9, σo) := h
    cases h
  | succ n ih =>
    intro σ x0 x1 x2 x3 x4 H locs ls hP hD hS hl h
    replace h : M_Pc_lowest_7_b (M_Pc_lowest_7 n) σ x0 x1 x2 x3 x4 = some (r9, σo) := h
    unfold M_Pc_lowest_7_b at h
    refine lv_iload hx hb d_Pc_lowest_7 (lv_at hl 4 rfl) ?_
    refine lv_bipush (v := 12) hx hb d_Pc_lowest_9 (by decide) ?_
    refine lv_icmp_ge (tgt := 45) hx hb d_Pc_lowest_11 (by decide) (fun c1 => ?_) (fun c1 => ?_)
    · replace h := (if_pos c1).symm.trans h
      exact B_Pc_lowest_45 C0 _ _ _ _ _ _ H locs ls hP hD hS (lv_sub hl [0, 1, 2, 3, 4] rfl) h
    · replace h := (if_neg c1).symm.trans h
      refine lv_iload_n hx hb d_Pc_lowest_14 rfl (lv_at hl 3 rfl) ?_
      refine lv_if_le (tgt := 45) hx hb d_Pc_lowest_15 (by decide) (fun c2 => ?_) (fun c2 => ?_)
      · replace h := (if_pos c2).symm.trans h
        exact B_Pc_lowest_45 C0 _ _ _ _ _ _ H locs ls hP hD hS (lv_sub hl [0, 1, 2, 3, 4] rfl) h
      · replace h := (if_neg c2).symm.trans h
        refine lv_iconst (v := 1) hx hb d_Pc_lowest_18 (by decide) ?_
        refine lv_iload hx hb d_Pc_lowest_19 (lv_at hl 4 rfl) ?_
        refine lv_ishl hx hb d_Pc_lowest_21 ?_
        obtain ⟨v3, ev3, h⟩ := k_let_e h
        refine k_top ev3 ?_
        refine lv_istore (lv' := [(5, .int v3), (0, .int x0), (1, .int x1), (2, .int x2), (3, .int x3), (4, .int x4)]) hx hb d_Pc_lowest_22 hl (by decide) rfl (fun ls hl => ?_)
        refine lv_iload_n hx hb d_Pc_lowest_24 rfl (lv_at hl 1 rfl) ?_
        refine lv_iload hx hb d_Pc_lowest_25 (lv_at hl 0 rfl) ?_
        refine lv_iand hx hb d_Pc_lowest_27 ?_
        refine lv_if_eq (tgt := 39) hx hb d_Pc_lowest_28 (by decide) (fun c4 => ?_) (fun c4 => ?_)
        · replace h := (if_pos c4).symm.trans h
          obtain ⟨v5, ev5, h⟩ := k_let_e h
          refine lv_iinc (v := v5) (lv' := [(4, .int v5), (5, .int v3), (0, .int x0), (1, .int x1), (2, .int x2), (3, .int x3)]) hx hb d_Pc_lowest_39 hl (k := 5) rfl (by rw [ev5]; rfl) (by decide) rfl (fun ls hl => ?_)
          refine lv_goto (tgt := 7) hx hb d_Pc_lowest_42 (by decide) ?_
          exact ih _ _ _ _ _ _ H locs ls hP hD hS (lv_sub hl [2, 3, 4, 5, 0] rfl) h
        · replace h := (if_neg c4).symm.trans h
          refine lv_iload_n hx hb d_Pc_lowest_31 rfl (lv_at hl 3 rfl) ?_
          refine lv_iload hx hb d_Pc_lowest_32 (lv_at hl 0 rfl) ?_
          refine lv_ior hx hb d_Pc_lowest_34 ?_
          obtain ⟨v6, ev6, h⟩ := k_let_e h
          refine k_top ev6 ?_
          refine lv_istore_n (lv' := [(2, .int v6), (5, .int v3), (0, .int x0), (1, .int x1), (3, .int x3), (4, .int x4)]) hx hb d_Pc_lowest_35 rfl hl (by decide) rfl (fun ls hl => ?_)
          obtain ⟨v7, ev7, h⟩ := k_let_e h
          refine lv_iinc (v := v7) (lv' := [(3, .int v7), (2, .int v6), (5, .int v3), (0, .int x0), (1, .int x1), (4, .int x4)]) hx hb d_Pc_lowest_36 hl (k := 4) rfl (by rw [ev7]; rfl) (by decide) rfl (fun ls hl => ?_)
          obtain ⟨v8, ev8, h⟩ := k_let_e h
          refine lv_iinc (v := v8) (lv' := [(4, .int v8), (3, .int v7), (2, .int v6), (5, .int v3), (0, .int x0), (1, .int x1)]) hx hb d_Pc_lowest_39 hl (k := 5) rfl (by rw [ev8]; rfl) (by decide) rfl (fun ls hl => ?_)
          refine lv_goto (tgt := 7) hx hb d_Pc_lowest_42 (by decide) ?_
          exact ih _ _ _ _ _ _ H locs ls hP hD hS (lv_sub hl [4, 5, 2, 1, 0] rfl) h
def M_Pc_lowest (σ : kS) (x0 x1 : Int32) : Option (Int32 × kS) := M_Pc_lowest_7 k_fu σ x0 x1 0 x1 0
set_option maxHeartbeats 4000000 in
set_option maxRecDepth 100000 in
theorem B_Pc_lowest_0 {p : Program} {l : Launch} {e : Env} {s : State} {m : MethodId} {args : Array Value} {below : List Frame} {meth : Method} {c : Code} {D : va_G} {a : Nat → Nat} {c9 : Nat → ClassId} {A : Nat → Prop} {r9 : Int32} {σo : kS} (C0 : k_Cx D c9 p s m args meth c R_Pc c_Pc_lowest 6 (some .int) A) (σ : kS) (x0 x1 : Int32) (H : Heap) (locs : List Loc) (ls : Array Slot) (hP : va_P D kcl (kw a c9 σ) H) (hD : va_D A (kw a c9 σ)) (hS : va_S A s.heap H locs) (hl : lv_has ls 6 [(0, .int x0), (1, .int x1)]) (h : M_Pc_lowest σ x0 x1 = some (r9, σo)) : W p l e rm_Pc_lowest s m args below meth c H locs 0 0 (MQ below (k_Qi D a c9 r9 σo A) args s 0 0 A) (F0 m 0 ls []) := by
  obtain ⟨hx, hb, hml, hown, hts, hr, hlk, hK, hN, hA⟩ := id C0
  unfold M_Pc_lowest at h
  refine lv_iconst (v := 0) hx hb d_Pc_lowest_0 (by decide) ?_
  refine lv_istore_n (lv' := [(2, .int 0), (0, .int x0), (1, .int x1)]) hx hb d_Pc_lowest_1 rfl hl (by decide) rfl (fun ls hl => ?_)
  refine lv_iload_n hx hb d_Pc_lowest_2 rfl (lv_at hl 2 rfl) ?_
  refine lv_istore_n (lv' := [(3, .int x1), (2, .int 0), (0, .int x0), (1, .int x1)]) hx hb d_Pc_lowest_3 rfl hl (by decide) rfl (fun ls hl => ?_)
  refine lv_iconst (v := 0) hx hb d_Pc_lowest_4 (by decide) ?_
  refine lv_istore (lv' := [(4, .int 0), (3, .int x1), (2, .int 0), (0, .int x0), (1, .int x1)]) hx hb d_Pc_lowest_5 hl (by decide) rfl (fun ls hl => ?_)
  exact B_Pc_lowest_7 C0 k_fu _ _ _ _ _ _ H locs ls hP hD hS (lv_sub hl [3, 4, 2, 1, 0] rfl) h
theorem K_Pc_lowest (l : Launch) (D : va_G) (a : Nat → Nat) (c9 : Nat → ClassId) (sz : Nat) {σ : kS} {x0 x1 : Int32} {r9 : Int32} {σo : kS} (h : M_Pc_lowest σ x0 x1 = some (r9, σo)) : Met l y_Pc_lowest (Cond.code y_Pc_lowest c_Pc_lowest 6 (some .int) :: kG) rm_Pc_lowest (k_Pc D a c9 sz σ [.int x0, .int x1]) (k_Qi D a c9 r9 σo (k_A a c9 σ sz)) 0 0 (k_A a c9 σ sz) :=
  k_met (Qf := k_Qi D a c9 r9 σo) (by decide) (Nat.le_of_ble_eq_true rfl) (fun p e s m args below meth c A ls C0 hP hD hS hl => B_Pc_lowest_0 C0 σ x0 x1 s.heap [] ls hP hD hS hl h)
def rm_Pc_behind : Room := { frames := 0, cells := 0, slots := 0, locals := 0 }
def M_Pc_behind (σ : kS) (x0 x1 : Int32) : Option (Int32 × kS) := some ((x0 &&& ((x1 ||| (x1 - 1)) ^^^ (-1))), σ)
set_option maxHeartbeats 4000000 in
set_option maxRecDepth 100000 in
theorem B_Pc_behind_0 {p : Program} {l : Launch} {e : Env} {s : State} {m : MethodId} {args : Array Value} {below : List Frame} {meth : Method} {c : Code} {D : va_G} {a : Nat → Nat} {c9 : Nat → ClassId} {A : Nat → Prop} {r9 : Int32} {σo : kS} (C0 : k_Cx D c9 p s m args meth c R_Pc c_Pc_behind 2 (some .int) A) (σ : kS) (x0 x1 : Int32) (H : Heap) (locs : List Loc) (ls : Array Slot) (hP : va_P D kcl (kw a c9 σ) H) (hD : va_D A (kw a c9 σ)) (hS : va_S A s.heap H locs) (hl : lv_has ls 2 [(0, .int x0), (1, .int x1)]) (h : M_Pc_behind σ x0 x1 = some (r9, σo)) : W p l e rm_Pc_behind s m args below meth c H locs 0 0 (MQ below (k_Qi D a c9 r9 σo A) args s 0 0 A) (F0 m 0 ls []) := by
  obtain ⟨hx, hb, hml, hown, hts, hr, hlk, hK, hN, hA⟩ := id C0
  unfold M_Pc_behind at h
  refine lv_iload_n hx hb d_Pc_behind_0 rfl (lv_at hl 0 rfl) ?_
  refine lv_iload_n hx hb d_Pc_behind_1 rfl (lv_at hl 1 rfl) ?_
  refine lv_iload_n hx hb d_Pc_behind_2 rfl (lv_at hl 1 rfl) ?_
  refine lv_iconst (v := 1) hx hb d_Pc_behind_3 (by decide) ?_
  refine lv_isub hx hb d_Pc_behind_4 ?_
  refine lv_ior hx hb d_Pc_behind_5 ?_
  refine lv_iconst (v := (-1)) hx hb d_Pc_behind_6 (by decide) ?_
  refine lv_ixor hx hb d_Pc_behind_7 ?_
  refine lv_iand hx hb d_Pc_behind_8 ?_
  cases h
  exact k_iret hx hb hr hlk hP hS d_Pc_behind_9
theorem K_Pc_behind (l : Launch) (D : va_G) (a : Nat → Nat) (c9 : Nat → ClassId) (sz : Nat) {σ : kS} {x0 x1 : Int32} {r9 : Int32} {σo : kS} (h : M_Pc_behind σ x0 x1 = some (r9, σo)) : Met l y_Pc_behind (Cond.code y_Pc_behind c_Pc_behind 2 (some .int) :: kG) rm_Pc_behind (k_Pc D a c9 sz σ [.int x0, .int x1]) (k_Qi D a c9 r9 σo (k_A a c9 σ sz)) 0 0 (k_A a c9 σ sz) :=
  k_met (Qf := k_Qi D a c9 r9 σo) (by decide) (Nat.le_of_ble_eq_true rfl) (fun p e s m args below meth c A ls C0 hP hD hS hl => B_Pc_behind_0 C0 σ x0 x1 s.heap [] ls hP hD hS hl h)
def rm_Pc_nextChoice : Room := { frames := 1, cells := 0, slots := 0, locals := 25 }
def M_Pc_nextChoice_8_b (self9 : kS → Int32 → Int32 → Int32 → Int32 → Int32 → Option (Int32 × kS)) (σ : kS) (x0 x1 x2 x3 x4 : Int32) : Option (Int32 × kS) := if x4 < 0 then (k_call (M_Pc_lowest σ x0 ((x2 + 1))) fun v2 σ3 => some (v2, σ3)) else (k_let ((1 <<< (x4 &&& 31))) fun v5 => if (x1 &&& v5) = 0 then (if x3 = 0 then (if (x0 &&& v5) = 0 then (k_let (x4 + (-1)) fun v19 => self9 σ x0 x1 x2 0 v19) else (k_let (x4 + (-1)) fun v20 => self9 σ x0 x1 x2 1 v20)) else (k_let (x4 + (-1)) fun v17 => self9 σ x0 x1 x2 1 v17)) else (if x3 = 0 then (k_let (x2 + 1) fun v8 => k_let (x4 + (-1)) fun v9 => self9 σ x0 x1 v8 x3 v9) else (k_call (M_Pc_behind σ x0 v5) fun v10 σ11 => k_call (M_Pc_lowest σ11 v10 ((x2 + 1))) fun v13 σ14 => some (((x1 &&& (v5 - 1)) ||| v13), σ14))))
def M_Pc_nextChoice_8 : Nat → kS → Int32 → Int32 → Int32 → Int32 → Int32 → Option (Int32 × kS)
  | 0 => fun _ _ _ _ _ _ => none
  | n + 1 => M_Pc_nextChoice_8_b (M_Pc_nextChoice_8 n)
set_option maxHeartbeats 4000000 in
set_option maxRecDepth 100000 in
theorem B_Pc_nextChoice_8 {p : Program} {l : Launch} {e : Env} {s : State} {m : MethodId} {args : Array Value} {below : List Frame} {meth : Method} {c : Code} {D : va_G} {a : Nat → Nat} {c9 : Nat → ClassId} {A : Nat → Prop} {r9 : Int32} {σo : kS} (C0 : k_Cx D c9 p s m args meth c R_Pc c_Pc_nextChoice 6 (some .int) A) : ∀ (n : Nat) (σ : kS) (x0 x1 x2 x3 x4 : Int32) (H : Heap) (locs : List Loc) (ls : Array Slot), va_P D kcl (kw a c9 σ) H → va_D A (kw a c9 σ) → va_S A s.heap H locs → lv_has ls 6 [(0, .int x0), (1, .int x1), (2, .int x2), (3, .int x3), (4, .int x4)] → M_Pc_nextChoice_8 n σ x0 x1 x2 x3 x4 = some (r9, σo) → W p l e rm_Pc_nextChoice s m args below meth c H locs 0 0 (MQ below (k_Qi D a c9 r9 σo A) args s 0 0 A) (F0 m 8 ls []) := by
  obtain ⟨hx, hb, hml, hown, hts, hr, hlk, hK, hN, hA⟩ := id C0
  intro n
  induction n with
  | zero =>
    intro σ x0 x1 x2 x3 x4 H locs ls hP hD hS hl h
    replace h : (none : Option (Int32 × kS)) = some (r9, σo) := h
    cases h
  | succ n ih =>
    intro σ x0 x1 x2 x3 x4 H locs ls hP hD hS hl h
    replace h : M_Pc_nextChoice_8_b (M_Pc_nextChoice_8 n) σ x0 x1 x2 x3 x4 = some (r9, σo) := h
    unfold M_Pc_nextChoice_8_b at h
    refine lv_iload hx hb d_Pc_nextChoice_8 (lv_at hl 4 rfl) ?_
    refine lv_if_lt (tgt := 79) hx hb d_Pc_nextChoice_10 (by decide) (fun c1 => ?_) (fun c1 => ?_)
    · replace h := (if_pos c1).symm.trans h
      refine lv_iload_n hx hb d_Pc_nextChoice_79 rfl (lv_at hl 0 rfl) ?_
      refine lv_iload_n hx hb d_Pc_nextChoice_80 rfl (lv_at hl 2 rfl) ?_
      refine lv_iconst (v := 1) hx hb d_Pc_nextChoice_81 (by decide) ?_
      refine lv_iadd hx hb d_Pc_nextChoice_82 ?_
      obtain ⟨v2, σ3, hc4, h⟩ := k_call_e h
      refine k_calli (va_runS (As := [.int x0, .int ((x2 + 1))]) (rest := []) ⟨hx, hb, hml, hown, hts⟩ (K_Pc_lowest l D a c9 H.size hc4) (va_cwS 2 hts (k_gS q_521 q_503 q_16 q_504) rfl rfl rfl h_Pc_lowest.2 ⟨Nat.le_of_ble_eq_true rfl, Nat.le_of_ble_eq_true rfl⟩) (k_preS hP hK hN hD) rfl rfl hl.1 rfl (lv_room (Nat.le_of_ble_eq_true rfl)) d_Pc_nextChoice_83 ⟨Nat.zero_le _, Nat.zero_le _⟩) hD hS hA (fun H locs hP hD hS => ?_)
      cases h
      exact k_iret hx hb hr hlk hP hS d_Pc_nextChoice_86
    · replace h := (if_neg c1).symm.trans h
      refine lv_iconst (v := 1) hx hb d_Pc_nextChoice_13 (by decide) ?_
      refine lv_iload hx hb d_Pc_nextChoice_14 (lv_at hl 4 rfl) ?_
      refine lv_ishl hx hb d_Pc_nextChoice_16 ?_
      obtain ⟨v5, ev5, h⟩ := k_let_e h
      refine k_top ev5 ?_
      refine lv_istore (lv' := [(5, .int v5), (0, .int x0), (1, .int x1), (2, .int x2), (3, .int x3), (4, .int x4)]) hx hb d_Pc_nextChoice_17 hl (by decide) rfl (fun ls hl => ?_)
      refine lv_iload_n hx hb d_Pc_nextChoice_19 rfl (lv_at hl 2 rfl) ?_
      refine lv_iload hx hb d_Pc_nextChoice_20 (lv_at hl 0 rfl) ?_
      refine lv_iand hx hb d_Pc_nextChoice_22 ?_
      refine lv_if_ne (tgt := 46) hx hb d_Pc_nextChoice_23 (by decide) (fun c6 => ?_) (fun c6 => ?_)
      · replace h := (if_neg c6).symm.trans h
        refine lv_iload_n hx hb d_Pc_nextChoice_46 rfl (lv_at hl 4 rfl) ?_
        refine lv_if_eq (tgt := 70) hx hb d_Pc_nextChoice_47 (by decide) (fun c7 => ?_) (fun c7 => ?_)
        · replace h := (if_pos c7).symm.trans h
          obtain ⟨v8, ev8, h⟩ := k_let_e h
          refine lv_iinc (v := v8) (lv' := [(2, .int v8), (5, .int v5), (0, .int x0), (1, .int x1), (3, .int x3), (4, .int x4)]) hx hb d_Pc_nextChoice_70 hl (k := 3) rfl (by rw [ev8]; rfl) (by decide) rfl (fun ls hl => ?_)
          obtain ⟨v9, ev9, h⟩ := k_let_e h
          refine lv_iinc (v := v9) (lv' := [(4, .int v9), (2, .int v8), (5, .int v5), (0, .int x0), (1, .int x1), (3, .int x3)]) hx hb d_Pc_nextChoice_73 hl (k := 5) rfl (by rw [ev9]; rfl) (by decide) rfl (fun ls hl => ?_)
          refine lv_goto (tgt := 8) hx hb d_Pc_nextChoice_76 (by decide) ?_
          exact ih _ _ _ _ _ _ H locs ls hP hD hS (lv_sub hl [3, 4, 1, 5, 0] rfl) h
        · replace h := (if_neg c7).symm.trans h
          refine lv_iload_n hx hb d_Pc_nextChoice_50 rfl (lv_at hl 2 rfl) ?_
          refine lv_iload hx hb d_Pc_nextChoice_51 (lv_at hl 0 rfl) ?_
          refine lv_iconst (v := 1) hx hb d_Pc_nextChoice_53 (by decide) ?_
          refine lv_isub hx hb d_Pc_nextChoice_54 ?_
          refine lv_iand hx hb d_Pc_nextChoice_55 ?_
          refine lv_iload_n hx hb d_Pc_nextChoice_56 rfl (lv_at hl 1 rfl) ?_
          refine lv_iload hx hb d_Pc_nextChoice_57 (lv_at hl 0 rfl) ?_
          obtain ⟨v10, σ11, hc12, h⟩ := k_call_e h
          refine k_calli (va_runS (As := [.int x0, .int v5]) (rest := [.int ((x1 &&& (v5 - 1)))]) ⟨hx, hb, hml, hown, hts⟩ (K_Pc_behind l D a c9 H.size hc12) (va_cwS 2 hts (k_gS q_518 q_519 q_16 q_520) rfl rfl rfl h_Pc_behind.2 ⟨Nat.le_of_ble_eq_true rfl, Nat.le_of_ble_eq_true rfl⟩) (k_preS hP hK hN hD) rfl rfl hl.1 rfl (lv_room (Nat.le_of_ble_eq_true rfl)) d_Pc_nextChoice_59 ⟨Nat.zero_le _, Nat.zero_le _⟩) hD hS hA (fun H locs hP hD hS => ?_)
          refine lv_iload_n hx hb d_Pc_nextChoice_62 rfl (lv_at hl 3 rfl) ?_
          refine lv_iconst (v := 1) hx hb d_Pc_nextChoice_63 (by decide) ?_
          refine lv_iadd hx hb d_Pc_nextChoice_64 ?_
          obtain ⟨v13, σ14, hc15, h⟩ := k_call_e h
          refine k_calli (va_runS (As := [.int v10, .int ((x2 + 1))]) (rest := [.int ((x1 &&& (v5 - 1)))]) ⟨hx, hb, hml, hown, hts⟩ (K_Pc_lowest l D a c9 H.size hc15) (va_cwS 2 hts (k_gS q_521 q_503 q_16 q_504) rfl rfl rfl h_Pc_lowest.2 ⟨Nat.le_of_ble_eq_true rfl, Nat.le_of_ble_eq_true rfl⟩) (k_preS hP hK hN hD) rfl rfl hl.1 rfl (lv_room (Nat.le_of_ble_eq_true rfl)) d_Pc_nextChoice_65 ⟨Nat.zero_le _, Nat.zero_le _⟩) hD hS hA (fun H locs hP hD hS => ?_)
          refine lv_ior hx hb d_Pc_nextChoice_68 ?_
          cases h
          exact k_iret hx hb hr hlk hP hS d_Pc_nextChoice_69
      · replace h := (if_pos c6).symm.trans h
        refine lv_iload_n hx hb d_Pc_nextChoice_26 rfl (lv_at hl 4 rfl) ?_
        refine lv_if_ne (tgt := 37) hx hb d_Pc_nextChoice_27 (by decide) (fun c16 => ?_) (fun c16 => ?_)
        · replace h := (if_neg c16).symm.trans h
          refine lv_iconst (v := 1) hx hb d_Pc_nextChoice_37 (by decide) ?_
          refine lv_goto (tgt := 42) hx hb d_Pc_nextChoice_38 (by decide) ?_
          refine lv_istore_n (lv' := [(3, .int 1), (5, .int v5), (0, .int x0), (1, .int x1), (2, .int x2), (4, .int x4)]) hx hb d_Pc_nextChoice_42 rfl hl (by decide) rfl (fun ls hl => ?_)
          refine lv_goto (tgt := 73) hx hb d_Pc_nextChoice_43 (by decide) ?_
          obtain ⟨v17, ev17, h⟩ := k_let_e h
          refine lv_iinc (v := v17) (lv' := [(4, .int v17), (3, .int 1), (5, .int v5), (0, .int x0), (1, .int x1), (2, .int x2)]) hx hb d_Pc_nextChoice_73 hl (k := 5) rfl (by rw [ev17]; rfl) (by decide) rfl (fun ls hl => ?_)
          refine lv_goto (tgt := 8) hx hb d_Pc_nextChoice_76 (by decide) ?_
          exact ih _ _ _ _ _ _ H locs ls hP hD hS (lv_sub hl [3, 4, 5, 1, 0] rfl) h
        · replace h := (if_pos c16).symm.trans h
          refine lv_iload_n hx hb d_Pc_nextChoice_30 rfl (lv_at hl 1 rfl) ?_
          refine lv_iload hx hb d_Pc_nextChoice_31 (lv_at hl 0 rfl) ?_
          refine lv_iand hx hb d_Pc_nextChoice_33 ?_
          refine lv_if_eq (tgt := 41) hx hb d_Pc_nextChoice_34 (by decide) (fun c18 => ?_) (fun c18 => ?_)
          · replace h := (if_pos c18).symm.trans h
            refine lv_iconst (v := 0) hx hb d_Pc_nextChoice_41 (by decide) ?_
            refine lv_istore_n (lv' := [(3, .int 0), (5, .int v5), (0, .int x0), (1, .int x1), (2, .int x2), (4, .int x4)]) hx hb d_Pc_nextChoice_42 rfl hl (by decide) rfl (fun ls hl => ?_)
            refine lv_goto (tgt := 73) hx hb d_Pc_nextChoice_43 (by decide) ?_
            obtain ⟨v19, ev19, h⟩ := k_let_e h
            refine lv_iinc (v := v19) (lv' := [(4, .int v19), (3, .int 0), (5, .int v5), (0, .int x0), (1, .int x1), (2, .int x2)]) hx hb d_Pc_nextChoice_73 hl (k := 5) rfl (by rw [ev19]; rfl) (by decide) rfl (fun ls hl => ?_)
            refine lv_goto (tgt := 8) hx hb d_Pc_nextChoice_76 (by decide) ?_
            exact ih _ _ _ _ _ _ H locs ls hP hD hS (lv_sub hl [3, 4, 5, 1, 0] rfl) h
          · replace h := (if_neg c18).symm.trans h
            refine lv_iconst (v := 1) hx hb d_Pc_nextChoice_37 (by decide) ?_
            refine lv_goto (tgt := 42) hx hb d_Pc_nextChoice_38 (by decide) ?_
            refine lv_istore_n (lv' := [(3, .int 1), (5, .int v5), (0, .int x0), (1, .int x1), (2, .int x2), (4, .int x4)]) hx hb d_Pc_nextChoice_42 rfl hl (by decide) rfl (fun ls hl => ?_)
            refine lv_goto (tgt := 73) hx hb d_Pc_nextChoice_43 (by decide) ?_
            obtain ⟨v20, ev20, h⟩ := k_let_e h
            refine lv_iinc (v := v20) (lv' := [(4, .int v20), (3, .int 1), (5, .int v5), (0, .int x0), (1, .int x1), (2, .int x2)]) hx hb d_Pc_nextChoice_73 hl (k := 5) rfl (by rw [ev20]; rfl) (by decide) rfl (fun ls hl => ?_)
            refine lv_goto (tgt := 8) hx hb d_Pc_nextChoice_76 (by decide) ?_
            exact ih _ _ _ _ _ _ H locs ls hP hD hS (lv_sub hl [3, 4, 5, 1, 0] rfl) h
def M_Pc_nextChoice (σ : kS) (x0 x1 : Int32) : Option (Int32 × kS) := M_Pc_nextChoice_8 k_fu σ x0 x1 0 0 11
set_option maxHeartbeats 4000000 in
set_option maxRecDepth 100000 in
theorem B_Pc_nextChoice_0 {p : Program} {l : Launch} {e : Env} {s : State} {m : MethodId} {args : Array Value} {below : List Frame} {meth : Method} {c : Code} {D : va_G} {a : Nat → Nat} {c9 : Nat → ClassId} {A : Nat → Prop} {r9 : Int32} {σo : kS} (C0 : k_Cx D c9 p s m args meth c R_Pc c_Pc_nextChoice 6 (some .int) A) (σ : kS) (x0 x1 : Int32) (H : Heap) (locs : List Loc) (ls : Array Slot) (hP : va_P D kcl (kw a c9 σ) H) (hD : va_D A (kw a c9 σ)) (hS : va_S A s.heap H locs) (hl : lv_has ls 6 [(0, .int x0), (1, .int x1)]) (h : M_Pc_nextChoice σ x0 x1 = some (r9, σo)) : W p l e rm_Pc_nextChoice s m args below meth c H locs 0 0 (MQ below (k_Qi D a c9 r9 σo A) args s 0 0 A) (F0 m 0 ls []) := by
  obtain ⟨hx, hb, hml, hown, hts, hr, hlk, hK, hN, hA⟩ := id C0
  unfold M_Pc_nextChoice at h
  refine lv_iconst (v := 0) hx hb d_Pc_nextChoice_0 (by decide) ?_
  refine lv_istore_n (lv' := [(2, .int 0), (0, .int x0), (1, .int x1)]) hx hb d_Pc_nextChoice_1 rfl hl (by decide) rfl (fun ls hl => ?_)
  refine lv_iconst (v := 0) hx hb d_Pc_nextChoice_2 (by decide) ?_
  refine lv_istore_n (lv' := [(3, .int 0), (2, .int 0), (0, .int x0), (1, .int x1)]) hx hb d_Pc_nextChoice_3 rfl hl (by decide) rfl (fun ls hl => ?_)
  refine lv_bipush (v := 11) hx hb d_Pc_nextChoice_4 (by decide) ?_
  refine lv_istore (lv' := [(4, .int 11), (3, .int 0), (2, .int 0), (0, .int x0), (1, .int x1)]) hx hb d_Pc_nextChoice_6 hl (by decide) rfl (fun ls hl => ?_)
  exact B_Pc_nextChoice_8 C0 k_fu _ _ _ _ _ _ H locs ls hP hD hS (lv_sub hl [3, 4, 2, 1, 0] rfl) h
theorem K_Pc_nextChoice (l : Launch) (D : va_G) (a : Nat → Nat) (c9 : Nat → ClassId) (sz : Nat) {σ : kS} {x0 x1 : Int32} {r9 : Int32} {σo : kS} (h : M_Pc_nextChoice σ x0 x1 = some (r9, σo)) : Met l y_Pc_nextChoice (Cond.code y_Pc_nextChoice c_Pc_nextChoice 6 (some .int) :: kG) rm_Pc_nextChoice (k_Pc D a c9 sz σ [.int x0, .int x1]) (k_Qi D a c9 r9 σo (k_A a c9 σ sz)) 0 0 (k_A a c9 σ sz) :=
  k_met (Qf := k_Qi D a c9 r9 σo) (by decide) (Nat.le_of_ble_eq_true rfl) (fun p e s m args below meth c A ls C0 hP hD hS hl => B_Pc_nextChoice_0 C0 σ x0 x1 s.heap [] ls hP hD hS hl h)
def rm_Pl_slotCount : Room := { frames := 0, cells := 0, slots := 0, locals := 0 }
def M_Pl_slotCount (σ : kS) : Option (Int32 × kS) := some (σ.1 8, σ)
set_option maxHeartbeats 4000000 in
set_option maxRecDepth 100000 in
theorem B_Pl_slotCount_0 {p : Program} {l : Launch} {e : Env} {s : State} {m : MethodId} {args : Array Value} {below : List Frame} {meth : Method} {c : Code} {D : va_G} {a : Nat → Nat} {c9 : Nat → ClassId} {A : Nat → Prop} {r9 : Int32} {σo : kS} (C0 : k_Cx D c9 p s m args meth c R_Pl c_Pl_slotCount 1 (some .int) A) (σ : kS) (H : Heap) (locs : List Loc) (ls : Array Slot) (hP : va_P D kcl (kw a c9 σ) H) (hD : va_D A (kw a c9 σ)) (hS : va_S A s.heap H locs) (hl : lv_has ls 1 [(0, .ref (a 3))]) (h : M_Pl_slotCount σ  = some (r9, σo)) : W p l e rm_Pl_slotCount s m args below meth c H locs 0 0 (MQ below (k_Qi D a c9 r9 σo A) args s 0 0 A) (F0 m 0 ls []) := by
  obtain ⟨hx, hb, hml, hown, hts, hr, hlk, hK, hN, hA⟩ := id C0
  unfold M_Pl_slotCount at h
  refine lv_aload_n hx hb d_Pl_slotCount_0 rfl (lv_at hl 0 rfl) ?_
  refine va_get (ci := 5) (C := R_Pl) (T := T_Pl) (N := 4) hx hb hts in_Pl hown hK hP 3 kw_3 rfl 0 (by decide) (hts _ q_87) (fun _ h9 => h9) rfl d_Pl_slotCount_1 ?_
  cases h
  exact k_iret hx hb hr hlk hP hS d_Pl_slotCount_4
theorem K_Pl_slotCount (l : Launch) (D : va_G) (a : Nat → Nat) (c9 : Nat → ClassId) (sz : Nat) {σ : kS} {r9 : Int32} {σo : kS} (h : M_Pl_slotCount σ  = some (r9, σo)) : Met l y_Pl_slotCount (Cond.code y_Pl_slotCount c_Pl_slotCount 1 (some .int) :: kG) rm_Pl_slotCount (k_Pc D a c9 sz σ [.ref (a 3)]) (k_Qi D a c9 r9 σo (k_A a c9 σ sz)) 0 0 (k_A a c9 σ sz) :=
  k_met (Qf := k_Qi D a c9 r9 σo) (by decide) (Nat.le_of_ble_eq_true rfl) (fun p e s m args below meth c A ls C0 hP hD hS hl => B_Pl_slotCount_0 C0 σ  s.heap [] ls hP hD hS hl h)
def rm_Pl_treeAt : Room := { frames := 0, cells := 0, slots := 0, locals := 0 }
def M_Pl_treeAt (σ : kS) (x1 : Int32) : Option (Int32 × kS) := k_ld (σ.2.1 18) 70 (x1) fun v1 => some (v1, σ)
set_option maxHeartbeats 4000000 in
set_option maxRecDepth 100000 in
theorem B_Pl_treeAt_0 {p : Program} {l : Launch} {e : Env} {s : State} {m : MethodId} {args : Array Value} {below : List Frame} {meth : Method} {c : Code} {D : va_G} {a : Nat → Nat} {c9 : Nat → ClassId} {A : Nat → Prop} {r9 : Int32} {σo : kS} (C0 : k_Cx D c9 p s m args meth c R_Pl c_Pl_treeAt 2 (some .int) A) (σ : kS) (x1 : Int32) (H : Heap) (locs : List Loc) (ls : Array Slot) (hP : va_P D kcl (kw a c9 σ) H) (hD : va_D A (kw a c9 σ)) (hS : va_S A s.heap H locs) (hl : lv_has ls 2 [(0, .ref (a 3)), (1, .int x1)]) (h : M_Pl_treeAt σ x1 = some (r9, σo)) : W p l e rm_Pl_treeAt s m args below meth c H locs 0 0 (MQ below (k_Qi D a c9 r9 σo A) args s 0 0 A) (F0 m 0 ls []) := by
  obtain ⟨hx, hb, hml, hown, hts, hr, hlk, hK, hN, hA⟩ := id C0
  unfold M_Pl_treeAt at h
  refine lv_aload_n hx hb d_Pl_treeAt_0 rfl (lv_at hl 0 rfl) ?_
  refine va_get (ci := 5) (C := R_Pl) (T := T_Pl) (N := 4) hx hb hts in_Pl hown hK hP 3 kw_3 rfl 1 (by decide) (hts _ q_88) (fun _ h9 => h9) rfl d_Pl_treeAt_1 ?_
  refine lv_iload_n hx hb d_Pl_treeAt_4 rfl (lv_at hl 1 rfl) ?_
  obtain ⟨v1, ev1, hv1, h⟩ := k_ld_e h
  refine va_iald hx hb hK hP 25 0 kw_25 rfl hv1 d_Pl_treeAt_5 (k_top ev1 ?_)
  cases h
  exact k_iret hx hb hr hlk hP hS d_Pl_treeAt_6
theorem K_Pl_treeAt (l : Launch) (D : va_G) (a : Nat → Nat) (c9 : Nat → ClassId) (sz : Nat) {σ : kS} {x1 : Int32} {r9 : Int32} {σo : kS} (h : M_Pl_treeAt σ x1 = some (r9, σo)) : Met l y_Pl_treeAt (Cond.code y_Pl_treeAt c_Pl_treeAt 2 (some .int) :: kG) rm_Pl_treeAt (k_Pc D a c9 sz σ [.ref (a 3), .int x1]) (k_Qi D a c9 r9 σo (k_A a c9 σ sz)) 0 0 (k_A a c9 σ sz) :=
  k_met (Qf := k_Qi D a c9 r9 σo) (by decide) (Nat.le_of_ble_eq_true rfl) (fun p e s m args below meth c A ls C0 hP hD hS hl => B_Pl_treeAt_0 C0 σ x1 s.heap [] ls hP hD hS hl h)
def rm_Pl_parentOf : Room := { frames := 0, cells := 0, slots := 0, locals := 0 }
def M_Pl_parentOf (σ : kS) (x1 : Int32) : Option (Int32 × kS) := k_ld (σ.2.1 19) 70 (x1) fun v1 => some (v1, σ)
set_option maxHeartbeats 4000000 in
set_option maxRecDepth 100000 in
theorem B_Pl_parentOf_0 {p : Program} {l : Launch} {e : Env} {s : State} {m : MethodId} {args : Array Value} {below : List Frame} {meth : Method} {c : Code} {D : va_G} {a : Nat → Nat} {c9 : Nat → ClassId} {A : Nat → Prop} {r9 : Int32} {σo : kS} (C0 : k_Cx D c9 p s m args meth c R_Pl c_Pl_parentOf 2 (some .int) A) (σ : kS) (x1 : Int32) (H : Heap) (locs : List Loc) (ls : Array Slot) (hP : va_P D kcl (kw a c9 σ) H) (hD : va_D A (kw a c9 σ)) (hS : va_S A s.heap H locs) (hl : lv_has ls 2 [(0, .ref (a 3)), (1, .int x1)]) (h : M_Pl_parentOf σ x1 = some (r9, σo)) : W p l e rm_Pl_parentOf s m args below meth c H locs 0 0 (MQ below (k_Qi D a c9 r9 σo A) args s 0 0 A) (F0 m 0 ls []) := by
  obtain ⟨hx, hb, hml, hown, hts, hr, hlk, hK, hN, hA⟩ := id C0
  unfold M_Pl_parentOf at h
  refine lv_aload_n hx hb d_Pl_parentOf_0 rfl (lv_at hl 0 rfl) ?_
  refine va_get (ci := 5) (C := R_Pl) (T := T_Pl) (N := 4) hx hb hts in_Pl hown hK hP 3 kw_3 rfl 2 (by decide) (hts _ q_89) (fun _ h9 => h9) rfl d_Pl_parentOf_1 ?_
  refine lv_iload_n hx hb d_Pl_parentOf_4 rfl (lv_at hl 1 rfl) ?_
  obtain ⟨v1, ev1, hv1, h⟩ := k_ld_e h
  refine va_iald hx hb hK hP 26 0 kw_26 rfl hv1 d_Pl_parentOf_5 (k_top ev1 ?_)
  cases h
  exact k_iret hx hb hr hlk hP hS d_Pl_parentOf_6
theorem K_Pl_parentOf (l : Launch) (D : va_G) (a : Nat → Nat) (c9 : Nat → ClassId) (sz : Nat) {σ : kS} {x1 : Int32} {r9 : Int32} {σo : kS} (h : M_Pl_parentOf σ x1 = some (r9, σo)) : Met l y_Pl_parentOf (Cond.code y_Pl_parentOf c_Pl_parentOf 2 (some .int) :: kG) rm_Pl_parentOf (k_Pc D a c9 sz σ [.ref (a 3), .int x1]) (k_Qi D a c9 r9 σo (k_A a c9 σ sz)) 0 0 (k_A a c9 σ sz) :=
  k_met (Qf := k_Qi D a c9 r9 σo) (by decide) (Nat.le_of_ble_eq_true rfl) (fun p e s m args below meth c A ls C0 hP hD hS hl => B_Pl_parentOf_0 C0 σ x1 s.heap [] ls hP hD hS hl h)
def rm_Pl_isLastInRow : Room := { frames := 0, cells := 0, slots := 0, locals := 0 }
def M_Pl_isLastInRow (σ : kS) (x1 : Int32) : Option (Int32 × kS) := k_ld (σ.2.1 20) 70 (x1) fun v1 => k_z (v1) (some (v1, σ))
set_option maxHeartbeats 4000000 in
set_option maxRecDepth 100000 in
theorem B_Pl_isLastInRow_0 {p : Program} {l : Launch} {e : Env} {s : State} {m : MethodId} {args : Array Value} {below : List Frame} {meth : Method} {c : Code} {D : va_G} {a : Nat → Nat} {c9 : Nat → ClassId} {A : Nat → Prop} {r9 : Int32} {σo : kS} (C0 : k_Cx D c9 p s m args meth c R_Pl c_Pl_isLastInRow 2 (some .boolean) A) (σ : kS) (x1 : Int32) (H : Heap) (locs : List Loc) (ls : Array Slot) (hP : va_P D kcl (kw a c9 σ) H) (hD : va_D A (kw a c9 σ)) (hS : va_S A s.heap H locs) (hl : lv_has ls 2 [(0, .ref (a 3)), (1, .int x1)]) (h : M_Pl_isLastInRow σ x1 = some (r9, σo)) : W p l e rm_Pl_isLastInRow s m args below meth c H locs 0 0 (MQ below (k_Qi D a c9 r9 σo A) args s 0 0 A) (F0 m 0 ls []) := by
  obtain ⟨hx, hb, hml, hown, hts, hr, hlk, hK, hN, hA⟩ := id C0
  unfold M_Pl_isLastInRow at h
  refine lv_aload_n hx hb d_Pl_isLastInRow_0 rfl (lv_at hl 0 rfl) ?_
  refine va_get (ci := 5) (C := R_Pl) (T := T_Pl) (N := 4) hx hb hts in_Pl hown hK hP 3 kw_3 rfl 3 (by decide) (hts _ q_90) (fun _ h9 => h9) rfl d_Pl_isLastInRow_1 ?_
  refine lv_iload_n hx hb d_Pl_isLastInRow_4 rfl (lv_at hl 1 rfl) ?_
  obtain ⟨v1, ev1, hv1, h⟩ := k_ld_e h
  refine va_zald hx hb hK hP 27 1 kw_27 rfl hv1 d_Pl_isLastInRow_5 (k_top ev1 ?_)
  obtain ⟨hz, h⟩ := k_z_e h
  cases h
  exact k_zret hz hx hb hr hlk hP hS d_Pl_isLastInRow_6
theorem K_Pl_isLastInRow (l : Launch) (D : va_G) (a : Nat → Nat) (c9 : Nat → ClassId) (sz : Nat) {σ : kS} {x1 : Int32} {r9 : Int32} {σo : kS} (h : M_Pl_isLastInRow σ x1 = some (r9, σo)) : Met l y_Pl_isLastInRow (Cond.code y_Pl_isLastInRow c_Pl_isLastInRow 2 (some .boolean) :: kG) rm_Pl_isLastInRow (k_Pc D a c9 sz σ [.ref (a 3), .int x1]) (k_Qi D a c9 r9 σo (k_A a c9 σ sz)) 0 0 (k_A a c9 σ sz) :=
  k_met (Qf := k_Qi D a c9 r9 σo) (by decide) (Nat.le_of_ble_eq_true rfl) (fun p e s m args below meth c A ls C0 hP hD hS hl => B_Pl_isLastInRow_0 C0 σ x1 s.heap [] ls hP hD hS hl h)
def rm_Pl_layParts (d : Nat) : Room := { frames := d + 1, cells := 0, slots := 0, locals := d * 27 + 22 }
def M_Pl_layParts_91 (selfR : kS → Int32 → Int32 → Option (Int32 × kS)) (rec26 : kS → Int32 → Int32 → Int32 → Int32 → Int32 → Option (Int32 × kS)) (σ : kS) (x2 x3 x4 x5 x6 x7 y0 y1 : Int32) : Option (Int32 × kS) := k_st σ 20 70 (y1) (vp_nar .boolean (y0)) fun σ1 => k_set σ1 8 ((σ1.1 8 + 1)) fun σ2 => k_call (selfR σ2 x7 ((x3 + 1))) fun _ σ4 => k_let (x6 + 1) fun v6 => rec26 σ4 x2 x3 x4 x5 v6
set_option maxHeartbeats 4000000 in
set_option maxRecDepth 100000 in
theorem B_Pl_layParts_91 {p : Program} {l : Launch} {e : Env} {s : State} {m : MethodId} {args : Array Value} {below : List Frame} {meth : Method} {c : Code} {D : va_G} {a : Nat → Nat} {c9 : Nat → ClassId} {A : Nat → Prop} {r9 : Int32} {σo : kS} (C0 : k_Cx D c9 p s m args meth c R_Pl c_Pl_layParts 8 none A) {d : Nat} {selfR : kS → Int32 → Int32 → Option (Int32 × kS)} (hR : ∀ (sz : Nat) {σ : kS} {z0 z1 : Int32} {r : Int32} {σ' : kS}, selfR σ z0 z1 = some (r, σ') → Met l y_Pl_layParts (Cond.code y_Pl_layParts c_Pl_layParts 8 none :: kG) (rm_Pl_layParts d) (k_Pc D a c9 sz σ [.ref (a 3), .ref (a 1), .int z0, .int z1]) (k_Qv D a c9 σ' (k_A a c9 σ sz)) 0 0 (k_A a c9 σ sz)) {rec26 : kS → Int32 → Int32 → Int32 → Int32 → Int32 → Option (Int32 × kS)} (hrec26 : ∀ (σ : kS) (x2 x3 x4 x5 x6 : Int32) (H : Heap) (locs : List Loc) (ls : Array Slot), va_P D kcl (kw a c9 σ) H → va_D A (kw a c9 σ) → va_S A s.heap H locs → lv_has ls 8 [(0, .ref (a 3)), (1, .ref (a 1)), (2, .int x2), (3, .int x3), (4, .int x4), (5, .int x5), (6, .int x6)] → rec26 σ x2 x3 x4 x5 x6 = some (r9, σo) → W p l e (rm_Pl_layParts (d + 1)) s m args below meth c H locs 0 0 (MQ below (k_Qv D a c9 σo A) args s 0 0 A) (F0 m 26 ls [])) (σ : kS) (x2 x3 x4 x5 x6 x7 y0 y1 : Int32) (H : Heap) (locs : List Loc) (ls : Array Slot) (hP : va_P D kcl (kw a c9 σ) H) (hD : va_D A (kw a c9 σ)) (hS : va_S A s.heap H locs) (hl : lv_has ls 8 [(0, .ref (a 3)), (1, .ref (a 1)), (2, .int x2), (3, .int x3), (4, .int x4), (5, .int x5), (6, .int x6), (7, .int x7)]) (h : M_Pl_layParts_91 selfR rec26 σ x2 x3 x4 x5 x6 x7 y0 y1 = some (r9, σo)) : W p l e (rm_Pl_layParts (d + 1)) s m args below meth c H locs 0 0 (MQ below (k_Qv D a c9 σo A) args s 0 0 A) (F0 m 91 ls [.int y0, .int y1, .ref (a 27)]) := by
  obtain ⟨hx, hb, hml, hown, hts, hr, hlk, hK, hN, hA⟩ := id C0
  unfold M_Pl_layParts_91 at h
  obtain ⟨σ1, eσ1, hiσ1, h⟩ := k_st_e h
  refine va_zast hx hb hK hP hD hS 27 1 kw_27 rfl hiσ1 d_Pl_layParts_91 (fun H locs hP hD hS => ?_)
  replace hP := k_mvP (kw_s27.trans (congrArg _ eσ1.symm)) hP
  replace hD := k_mvD (kw_s27.trans (congrArg _ eσ1.symm)) hD
  refine lv_aload_n hx hb d_Pl_layParts_92 rfl (lv_at hl 0 rfl) ?_
  refine lv_dup hx hb d_Pl_layParts_93 rfl ?_
  refine va_get (ci := 5) (C := R_Pl) (T := T_Pl) (N := 4) hx hb hts in_Pl hown hK hP 3 kw_3 rfl 0 (by decide) (hts _ q_87) (fun _ h9 => h9) rfl d_Pl_layParts_94 ?_
  refine lv_iconst (v := 1) hx hb d_Pl_layParts_97 (by decide) ?_
  refine lv_iadd hx hb d_Pl_layParts_98 ?_
  obtain ⟨σ2, eσ2, h⟩ := k_set_e h
  refine va_put (ci := 5) (v := .int ((σ1.1 8 + 1))) (ty := .int) (C := R_Pl) (T := T_Pl) (N := 4) hx hb hts in_Pl t_Pl t_Pl_ok n_Pl hown hK hP hD hS 3 kw_3 rfl 0 (by decide) (hts _ q_87) (fun _ h9 => h9) rfl (by decide +kernel) rfl rfl (Nat.le_of_ble_eq_true rfl) d_Pl_layParts_99 (fun H locs hP hD hS => ?_)
  replace hP := k_mvP (kw_f3_0.trans (congrArg _ eσ2.symm)) hP
  replace hD := k_mvD (kw_f3_0.trans (congrArg _ eσ2.symm)) hD
  refine lv_aload_n hx hb d_Pl_layParts_102 rfl (lv_at hl 0 rfl) ?_
  refine lv_aload_n hx hb d_Pl_layParts_103 rfl (lv_at hl 1 rfl) ?_
  refine lv_iload hx hb d_Pl_layParts_104 (lv_at hl 7 rfl) ?_
  refine lv_iload_n hx hb d_Pl_layParts_106 rfl (lv_at hl 3 rfl) ?_
  refine lv_iconst (v := 1) hx hb d_Pl_layParts_107 (by decide) ?_
  refine lv_iadd hx hb d_Pl_layParts_108 ?_
  obtain ⟨v3, σ4, hc5, h⟩ := k_call_e h
  refine k_callv (va_runS (As := [.ref (a 3), .ref (a 1), .int x7, .int ((x3 + 1))]) (rest := []) ⟨hx, hb, hml, hown, hts⟩ (hR H.size hc5) (va_cwS 4 hts (k_gS q_461 q_462 q_4 q_463) rfl rfl rfl h_Pl_layParts.2 ⟨by simp only [rm_Pl_layParts, rm_Pl_layParts]; omega, by simp only [rm_Pl_layParts, rm_Pl_layParts]; omega⟩) (k_preS hP hK hN hD) rfl rfl hl.1 rfl (lv_room (Nat.le_of_ble_eq_true rfl)) d_Pl_layParts_109 ⟨Nat.zero_le _, Nat.zero_le _⟩) hD hS hA (fun H locs hP hD hS => ?_)
  obtain ⟨v6, ev6, h⟩ := k_let_e h
  refine lv_iinc (v := v6) (lv' := [(6, .int v6), (0, .ref (a 3)), (1, .ref (a 1)), (2, .int x2), (3, .int x3), (4, .int x4), (5, .int x5), (7, .int x7)]) hx hb d_Pl_layParts_112 hl (k := 6) rfl (by rw [ev6]; rfl) (by decide) rfl (fun ls hl => ?_)
  refine lv_goto (tgt := 26) hx hb d_Pl_layParts_115 (by decide) ?_
  exact hrec26 _ _ _ _ _ _ H locs ls hP hD hS (lv_sub hl [1, 2, 3, 4, 5, 6, 0] rfl) h
def M_Pl_layParts_26_b (selfR : kS → Int32 → Int32 → Option (Int32 × kS)) (self9 : kS → Int32 → Int32 → Int32 → Int32 → Int32 → Option (Int32 × kS)) (σ : kS) (x2 x3 x4 x5 x6 : Int32) : Option (Int32 × kS) := if x5 ≤ x6 then (some (0, σ)) else (if 70 ≤ σ.1 8 then (some (0, σ)) else (k_let (σ.1 8) fun v3 => k_call (M_F_partAt σ x4 x6) fun v4 σ5 => k_st σ5 18 70 (v3) (v4) fun σ7 => k_st σ7 19 70 (v3) (x2) fun σ8 => if x6 = (x5 - 1) then (M_Pl_layParts_91 selfR self9 σ8 x2 x3 x4 x5 x6 v3 1 v3) else (M_Pl_layParts_91 selfR self9 σ8 x2 x3 x4 x5 x6 v3 0 v3)))
def M_Pl_layParts_26 (selfR : kS → Int32 → Int32 → Option (Int32 × kS)) : Nat → kS → Int32 → Int32 → Int32 → Int32 → Int32 → Option (Int32 × kS)
  | 0 => fun _ _ _ _ _ _ => none
  | n + 1 => M_Pl_layParts_26_b selfR (M_Pl_layParts_26 selfR n)
set_option maxHeartbeats 4000000 in
set_option maxRecDepth 100000 in
theorem B_Pl_layParts_26 {p : Program} {l : Launch} {e : Env} {s : State} {m : MethodId} {args : Array Value} {below : List Frame} {meth : Method} {c : Code} {D : va_G} {a : Nat → Nat} {c9 : Nat → ClassId} {A : Nat → Prop} {r9 : Int32} {σo : kS} (C0 : k_Cx D c9 p s m args meth c R_Pl c_Pl_layParts 8 none A) {d : Nat} {selfR : kS → Int32 → Int32 → Option (Int32 × kS)} (hR : ∀ (sz : Nat) {σ : kS} {z0 z1 : Int32} {r : Int32} {σ' : kS}, selfR σ z0 z1 = some (r, σ') → Met l y_Pl_layParts (Cond.code y_Pl_layParts c_Pl_layParts 8 none :: kG) (rm_Pl_layParts d) (k_Pc D a c9 sz σ [.ref (a 3), .ref (a 1), .int z0, .int z1]) (k_Qv D a c9 σ' (k_A a c9 σ sz)) 0 0 (k_A a c9 σ sz)) : ∀ (n : Nat) (σ : kS) (x2 x3 x4 x5 x6 : Int32) (H : Heap) (locs : List Loc) (ls : Array Slot), va_P D kcl (kw a c9 σ) H → va_D A (kw a c9 σ) → va_S A s.heap H locs → lv_has ls 8 [(0, .ref (a 3)), (1, .ref (a 1)), (2, .int x2), (3, .int x3), (4, .int x4), (5, .int x5), (6, .int x6)] → M_Pl_layParts_26 selfR n σ x2 x3 x4 x5 x6 = some (r9, σo) → W p l e (rm_Pl_layParts (d + 1)) s m args below meth c H locs 0 0 (MQ below (k_Qv D a c9 σo A) args s 0 0 A) (F0 m 26 ls []) := by
  obtain ⟨hx, hb, hml, hown, hts, hr, hlk, hK, hN, hA⟩ := id C0
  intro n
  induction n with
  | zero =>
    intro σ x2 x3 x4 x5 x6 H locs ls hP hD hS hl h
    replace h : (none : Option (Int32 × kS)) = some (r9, σo) := h
    cases h
  | succ n ih =>
    intro σ x2 x3 x4 x5 x6 H locs ls hP hD hS hl h
    replace h : M_Pl_layParts_26_b selfR (M_Pl_layParts_26 selfR n) σ x2 x3 x4 x5 x6 = some (r9, σo) := h
    unfold M_Pl_layParts_26_b at h
    refine lv_iload hx hb d_Pl_layParts_26 (lv_at hl 6 rfl) ?_
    refine lv_iload hx hb d_Pl_layParts_28 (lv_at hl 5 rfl) ?_
    refine lv_icmp_ge (tgt := 118) hx hb d_Pl_layParts_30 (by decide) (fun c1 => ?_) (fun c1 => ?_)
    · replace h := (if_pos c1).symm.trans h
      cases h
      exact k_vret hx hb hr hlk hP hS d_Pl_layParts_118
    · replace h := (if_neg c1).symm.trans h
      refine lv_aload_n hx hb d_Pl_layParts_33 rfl (lv_at hl 0 rfl) ?_
      refine va_get (ci := 5) (C := R_Pl) (T := T_Pl) (N := 4) hx hb hts in_Pl hown hK hP 3 kw_3 rfl 0 (by decide) (hts _ q_87) (fun _ h9 => h9) rfl d_Pl_layParts_34 ?_
      refine lv_bipush (v := 70) hx hb d_Pl_layParts_37 (by decide) ?_
      refine lv_icmp_ge (tgt := 118) hx hb d_Pl_layParts_39 (by decide) (fun c2 => ?_) (fun c2 => ?_)
      · replace h := (if_pos c2).symm.trans h
        cases h
        exact k_vret hx hb hr hlk hP hS d_Pl_layParts_118
      · replace h := (if_neg c2).symm.trans h
        refine lv_aload_n hx hb d_Pl_layParts_42 rfl (lv_at hl 0 rfl) ?_
        refine va_get (ci := 5) (C := R_Pl) (T := T_Pl) (N := 4) hx hb hts in_Pl hown hK hP 3 kw_3 rfl 0 (by decide) (hts _ q_87) (fun _ h9 => h9) rfl d_Pl_layParts_43 ?_
        obtain ⟨v3, ev3, h⟩ := k_let_e h
        refine k_top ev3 ?_
        refine lv_istore (lv' := [(7, .int v3), (0, .ref (a 3)), (1, .ref (a 1)), (2, .int x2), (3, .int x3), (4, .int x4), (5, .int x5), (6, .int x6)]) hx hb d_Pl_layParts_46 hl (by decide) rfl (fun ls hl => ?_)
        refine lv_aload_n hx hb d_Pl_layParts_48 rfl (lv_at hl 1 rfl) ?_
        refine va_get (ci := 5) (C := R_Pl) (T := T_Pl) (N := 4) hx hb hts in_Pl hown hK hP 3 kw_3 rfl 1 (by decide) (hts _ q_88) (fun _ h9 => h9) rfl d_Pl_layParts_49 ?_
        refine lv_iload hx hb d_Pl_layParts_52 (lv_at hl 0 rfl) ?_
        refine lv_aload_n hx hb d_Pl_layParts_54 rfl (lv_at hl 2 rfl) ?_
        refine lv_iload hx hb d_Pl_layParts_55 (lv_at hl 5 rfl) ?_
        refine lv_iload hx hb d_Pl_layParts_57 (lv_at hl 7 rfl) ?_
        obtain ⟨v4, σ5, hc6, h⟩ := k_call_e h
        refine k_calli (va_runV (As := [.int x4, .int x6]) (rest := [.int v3, .ref (a 25)]) ⟨hx, hb, hml, hown, hts⟩ (K_F_partAt l D a c9 H.size hc6) (cwV 2 hts (k_gV q_468 q_386 q_387 q_2 q_388) rfl rfl rfl h_F_partAt ⟨by simp only [rm_Pl_layParts, rm_F_partAt]; omega, by simp only [rm_Pl_layParts, rm_F_partAt]; omega⟩) (k_preV (ci := 2) (q0 := 1) rfl kw_1 hP hK hN hD) rfl rfl hl.1 rfl (lv_room (Nat.le_of_ble_eq_true rfl)) d_Pl_layParts_59 ⟨Nat.zero_le _, Nat.zero_le _⟩) hD hS hA (fun H locs hP hD hS => ?_)
        obtain ⟨σ7, eσ7, hiσ7, h⟩ := k_st_e h
        refine va_iast hx hb hK hP hD hS 25 0 kw_25 rfl hiσ7 d_Pl_layParts_62 (fun H locs hP hD hS => ?_)
        replace hP := k_mvP (kw_s25.trans (congrArg _ eσ7.symm)) hP
        replace hD := k_mvD (kw_s25.trans (congrArg _ eσ7.symm)) hD
        refine lv_aload_n hx hb d_Pl_layParts_63 rfl (lv_at hl 1 rfl) ?_
        refine va_get (ci := 5) (C := R_Pl) (T := T_Pl) (N := 4) hx hb hts in_Pl hown hK hP 3 kw_3 rfl 2 (by decide) (hts _ q_89) (fun _ h9 => h9) rfl d_Pl_layParts_64 ?_
        refine lv_iload hx hb d_Pl_layParts_67 (lv_at hl 0 rfl) ?_
        refine lv_iload_n hx hb d_Pl_layParts_69 rfl (lv_at hl 3 rfl) ?_
        obtain ⟨σ8, eσ8, hiσ8, h⟩ := k_st_e h
        refine va_iast hx hb hK hP hD hS 26 0 kw_26 rfl hiσ8 d_Pl_layParts_70 (fun H locs hP hD hS => ?_)
        replace hP := k_mvP (kw_s26.trans (congrArg _ eσ8.symm)) hP
        replace hD := k_mvD (kw_s26.trans (congrArg _ eσ8.symm)) hD
        refine lv_aload_n hx hb d_Pl_layParts_71 rfl (lv_at hl 1 rfl) ?_
        refine va_get (ci := 5) (C := R_Pl) (T := T_Pl) (N := 4) hx hb hts in_Pl hown hK hP 3 kw_3 rfl 3 (by decide) (hts _ q_90) (fun _ h9 => h9) rfl d_Pl_layParts_72 ?_
        refine lv_iload hx hb d_Pl_layParts_75 (lv_at hl 0 rfl) ?_
        refine lv_iload hx hb d_Pl_layParts_77 (lv_at hl 7 rfl) ?_
        refine lv_iload hx hb d_Pl_layParts_79 (lv_at hl 6 rfl) ?_
        refine lv_iconst (v := 1) hx hb d_Pl_layParts_81 (by decide) ?_
        refine lv_isub hx hb d_Pl_layParts_82 ?_
        refine lv_icmp_ne (tgt := 90) hx hb d_Pl_layParts_83 (by decide) (fun c9 => ?_) (fun c9 => ?_)
        · replace h := (if_neg c9).symm.trans h
          refine lv_iconst (v := 0) hx hb d_Pl_layParts_90 (by decide) ?_
          exact B_Pl_layParts_91 C0 hR ih _ _ _ _ _ _ _ _ _ H locs ls hP hD hS (lv_sub hl [1, 2, 3, 4, 5, 6, 7, 0] rfl) h
        · replace h := (if_pos c9).symm.trans h
          refine lv_iconst (v := 1) hx hb d_Pl_layParts_86 (by decide) ?_
          refine lv_goto (tgt := 91) hx hb d_Pl_layParts_87 (by decide) ?_
          exact B_Pl_layParts_91 C0 hR ih _ _ _ _ _ _ _ _ _ H locs ls hP hD hS (lv_sub hl [1, 2, 3, 4, 5, 6, 7, 0] rfl) h
def M_Pl_layParts (selfR : kS → Int32 → Int32 → Option (Int32 × kS)) (σ : kS) (x2 x3 : Int32) : Option (Int32 × kS) := if x3 ≤ 20 then (k_ld (σ.2.1 18) 70 (x2) fun v2 => k_call (M_F_partCount σ v2) fun v3 σ4 => M_Pl_layParts_26 selfR k_fu σ4 x2 x3 v2 v3 0) else (some (0, σ))
set_option maxHeartbeats 4000000 in
set_option maxRecDepth 100000 in
theorem B_Pl_layParts_0 {p : Program} {l : Launch} {e : Env} {s : State} {m : MethodId} {args : Array Value} {below : List Frame} {meth : Method} {c : Code} {D : va_G} {a : Nat → Nat} {c9 : Nat → ClassId} {A : Nat → Prop} {r9 : Int32} {σo : kS} (C0 : k_Cx D c9 p s m args meth c R_Pl c_Pl_layParts 8 none A) {d : Nat} {selfR : kS → Int32 → Int32 → Option (Int32 × kS)} (hR : ∀ (sz : Nat) {σ : kS} {z0 z1 : Int32} {r : Int32} {σ' : kS}, selfR σ z0 z1 = some (r, σ') → Met l y_Pl_layParts (Cond.code y_Pl_layParts c_Pl_layParts 8 none :: kG) (rm_Pl_layParts d) (k_Pc D a c9 sz σ [.ref (a 3), .ref (a 1), .int z0, .int z1]) (k_Qv D a c9 σ' (k_A a c9 σ sz)) 0 0 (k_A a c9 σ sz)) (σ : kS) (x2 x3 : Int32) (H : Heap) (locs : List Loc) (ls : Array Slot) (hP : va_P D kcl (kw a c9 σ) H) (hD : va_D A (kw a c9 σ)) (hS : va_S A s.heap H locs) (hl : lv_has ls 8 [(0, .ref (a 3)), (1, .ref (a 1)), (2, .int x2), (3, .int x3)]) (h : M_Pl_layParts selfR σ x2 x3 = some (r9, σo)) : W p l e (rm_Pl_layParts (d + 1)) s m args below meth c H locs 0 0 (MQ below (k_Qv D a c9 σo A) args s 0 0 A) (F0 m 0 ls []) := by
  obtain ⟨hx, hb, hml, hown, hts, hr, hlk, hK, hN, hA⟩ := id C0
  unfold M_Pl_layParts at h
  refine lv_iload_n hx hb d_Pl_layParts_0 rfl (lv_at hl 3 rfl) ?_
  refine lv_bipush (v := 20) hx hb d_Pl_layParts_1 (by decide) ?_
  refine lv_icmp_le (tgt := 7) hx hb d_Pl_layParts_3 (by decide) (fun c1 => ?_) (fun c1 => ?_)
  · replace h := (if_pos c1).symm.trans h
    refine lv_aload_n hx hb d_Pl_layParts_7 rfl (lv_at hl 0 rfl) ?_
    refine va_get (ci := 5) (C := R_Pl) (T := T_Pl) (N := 4) hx hb hts in_Pl hown hK hP 3 kw_3 rfl 1 (by decide) (hts _ q_88) (fun _ h9 => h9) rfl d_Pl_layParts_8 ?_
    refine lv_iload_n hx hb d_Pl_layParts_11 rfl (lv_at hl 2 rfl) ?_
    obtain ⟨v2, ev2, hv2, h⟩ := k_ld_e h
    refine va_iald hx hb hK hP 25 0 kw_25 rfl hv2 d_Pl_layParts_12 (k_top ev2 ?_)
    refine lv_istore (lv' := [(4, .int v2), (0, .ref (a 3)), (1, .ref (a 1)), (2, .int x2), (3, .int x3)]) hx hb d_Pl_layParts_13 hl (by decide) rfl (fun ls hl => ?_)
    refine lv_aload_n hx hb d_Pl_layParts_15 rfl (lv_at hl 2 rfl) ?_
    refine lv_iload hx hb d_Pl_layParts_16 (lv_at hl 0 rfl) ?_
    obtain ⟨v3, σ4, hc5, h⟩ := k_call_e h
    refine k_calli (va_runV (As := [.int v2]) (rest := []) ⟨hx, hb, hml, hown, hts⟩ (K_F_partCount l D a c9 H.size hc5) (cwV 1 hts (k_gV q_464 q_465 q_466 q_2 q_467) rfl rfl rfl h_F_partCount ⟨by simp only [rm_Pl_layParts, rm_F_partCount]; omega, by simp only [rm_Pl_layParts, rm_F_partCount]; omega⟩) (k_preV (ci := 2) (q0 := 1) rfl kw_1 hP hK hN hD) rfl rfl hl.1 rfl (lv_room (Nat.le_of_ble_eq_true rfl)) d_Pl_layParts_18 ⟨Nat.zero_le _, Nat.zero_le _⟩) hD hS hA (fun H locs hP hD hS => ?_)
    refine lv_istore (lv' := [(5, .int v3), (4, .int v2), (0, .ref (a 3)), (1, .ref (a 1)), (2, .int x2), (3, .int x3)]) hx hb d_Pl_layParts_21 hl (by decide) rfl (fun ls hl => ?_)
    refine lv_iconst (v := 0) hx hb d_Pl_layParts_23 (by decide) ?_
    refine lv_istore (lv' := [(6, .int 0), (5, .int v3), (4, .int v2), (0, .ref (a 3)), (1, .ref (a 1)), (2, .int x2), (3, .int x3)]) hx hb d_Pl_layParts_24 hl (by decide) rfl (fun ls hl => ?_)
    exact B_Pl_layParts_26 C0 hR k_fu _ _ _ _ _ _ H locs ls hP hD hS (lv_sub hl [3, 4, 5, 6, 2, 1, 0] rfl) h
  · replace h := (if_neg c1).symm.trans h
    cases h
    exact k_vret hx hb hr hlk hP hS d_Pl_layParts_6
def M_Pl_layParts_r : Nat → kS → Int32 → Int32 → Option (Int32 × kS)
  | 0 => fun _ _ _ => none
  | d + 1 => M_Pl_layParts (M_Pl_layParts_r d)
theorem K_Pl_layParts (l : Launch) (D : va_G) (a : Nat → Nat) (c9 : Nat → ClassId) : ∀ (d sz : Nat) {σ : kS} {x2 x3 : Int32} {r9 : Int32} {σo : kS}, M_Pl_layParts_r d σ x2 x3 = some (r9, σo) → Met l y_Pl_layParts (Cond.code y_Pl_layParts c_Pl_layParts 8 none :: kG) (rm_Pl_layParts d) (k_Pc D a c9 sz σ [.ref (a 3), .ref (a 1), .int x2, .int x3]) (k_Qv D a c9 σo (k_A a c9 σ sz)) 0 0 (k_A a c9 σ sz) := by
  intro d
  induction d with
  | zero => intro sz σ x2 x3 r9 σo h; replace h : (none : Option (Int32 × kS)) = some (r9, σo) := h; cases h
  | succ d ih =>
    intro sz σ x2 x3 r9 σo h
    exact k_met (Qf := k_Qv D a c9 σo) (by decide) (Nat.le_of_ble_eq_true rfl) (fun p e s m args below meth c A ls C0 hP hD hS hl => B_Pl_layParts_0 C0 ih σ x2 x3 s.heap [] ls hP hD hS hl h)
def rm_Pl_lay : Room := { frames := 24, cells := 0, slots := 0, locals := 643 }
def M_Pl_lay (σ : kS) (x2 : Int32) : Option (Int32 × kS) := k_set σ 8 (1) fun σ1 => k_st σ1 18 70 (0) (x2) fun σ2 => k_st σ2 19 70 (0) ((-1)) fun σ3 => k_st σ3 20 70 (0) (vp_nar .boolean (1)) fun σ4 => k_call (M_Pl_layParts_r 22 σ4 0 0) fun _ σ6 => some (0, σ6)
set_option maxHeartbeats 4000000 in
set_option maxRecDepth 100000 in
theorem B_Pl_lay_0 {p : Program} {l : Launch} {e : Env} {s : State} {m : MethodId} {args : Array Value} {below : List Frame} {meth : Method} {c : Code} {D : va_G} {a : Nat → Nat} {c9 : Nat → ClassId} {A : Nat → Prop} {r9 : Int32} {σo : kS} (C0 : k_Cx D c9 p s m args meth c R_Pl c_Pl_lay 3 none A) (σ : kS) (x2 : Int32) (H : Heap) (locs : List Loc) (ls : Array Slot) (hP : va_P D kcl (kw a c9 σ) H) (hD : va_D A (kw a c9 σ)) (hS : va_S A s.heap H locs) (hl : lv_has ls 3 [(0, .ref (a 3)), (1, .ref (a 1)), (2, .int x2)]) (h : M_Pl_lay σ x2 = some (r9, σo)) : W p l e rm_Pl_lay s m args below meth c H locs 0 0 (MQ below (k_Qv D a c9 σo A) args s 0 0 A) (F0 m 0 ls []) := by
  obtain ⟨hx, hb, hml, hown, hts, hr, hlk, hK, hN, hA⟩ := id C0
  unfold M_Pl_lay at h
  refine lv_aload_n hx hb d_Pl_lay_0 rfl (lv_at hl 0 rfl) ?_
  refine lv_iconst (v := 1) hx hb d_Pl_lay_1 (by decide) ?_
  obtain ⟨σ1, eσ1, h⟩ := k_set_e h
  refine va_put (ci := 5) (v := .int 1) (ty := .int) (C := R_Pl) (T := T_Pl) (N := 4) hx hb hts in_Pl t_Pl t_Pl_ok n_Pl hown hK hP hD hS 3 kw_3 rfl 0 (by decide) (hts _ q_87) (fun _ h9 => h9) rfl (by decide +kernel) rfl rfl (Nat.le_of_ble_eq_true rfl) d_Pl_lay_2 (fun H locs hP hD hS => ?_)
  replace hP := k_mvP (kw_f3_0.trans (congrArg _ eσ1.symm)) hP
  replace hD := k_mvD (kw_f3_0.trans (congrArg _ eσ1.symm)) hD
  refine lv_aload_n hx hb d_Pl_lay_5 rfl (lv_at hl 0 rfl) ?_
  refine va_get (ci := 5) (C := R_Pl) (T := T_Pl) (N := 4) hx hb hts in_Pl hown hK hP 3 kw_3 rfl 1 (by decide) (hts _ q_88) (fun _ h9 => h9) rfl d_Pl_lay_6 ?_
  refine lv_iconst (v := 0) hx hb d_Pl_lay_9 (by decide) ?_
  refine lv_iload_n hx hb d_Pl_lay_10 rfl (lv_at hl 2 rfl) ?_
  obtain ⟨σ2, eσ2, hiσ2, h⟩ := k_st_e h
  refine va_iast hx hb hK hP hD hS 25 0 kw_25 rfl hiσ2 d_Pl_lay_11 (fun H locs hP hD hS => ?_)
  replace hP := k_mvP (kw_s25.trans (congrArg _ eσ2.symm)) hP
  replace hD := k_mvD (kw_s25.trans (congrArg _ eσ2.symm)) hD
  refine lv_aload_n hx hb d_Pl_lay_12 rfl (lv_at hl 0 rfl) ?_
  refine va_get (ci := 5) (C := R_Pl) (T := T_Pl) (N := 4) hx hb hts in_Pl hown hK hP 3 kw_3 rfl 2 (by decide) (hts _ q_89) (fun _ h9 => h9) rfl d_Pl_lay_13 ?_
  refine lv_iconst (v := 0) hx hb d_Pl_lay_16 (by decide) ?_
  refine lv_iconst (v := (-1)) hx hb d_Pl_lay_17 (by decide) ?_
  obtain ⟨σ3, eσ3, hiσ3, h⟩ := k_st_e h
  refine va_iast hx hb hK hP hD hS 26 0 kw_26 rfl hiσ3 d_Pl_lay_18 (fun H locs hP hD hS => ?_)
  replace hP := k_mvP (kw_s26.trans (congrArg _ eσ3.symm)) hP
  replace hD := k_mvD (kw_s26.trans (congrArg _ eσ3.symm)) hD
  refine lv_aload_n hx hb d_Pl_lay_19 rfl (lv_at hl 0 rfl) ?_
  refine va_get (ci := 5) (C := R_Pl) (T := T_Pl) (N := 4) hx hb hts in_Pl hown hK hP 3 kw_3 rfl 3 (by decide) (hts _ q_90) (fun _ h9 => h9) rfl d_Pl_lay_20 ?_
  refine lv_iconst (v := 0) hx hb d_Pl_lay_23 (by decide) ?_
  refine lv_iconst (v := 1) hx hb d_Pl_lay_24 (by decide) ?_
  obtain ⟨σ4, eσ4, hiσ4, h⟩ := k_st_e h
  refine va_zast hx hb hK hP hD hS 27 1 kw_27 rfl hiσ4 d_Pl_lay_25 (fun H locs hP hD hS => ?_)
  replace hP := k_mvP (kw_s27.trans (congrArg _ eσ4.symm)) hP
  replace hD := k_mvD (kw_s27.trans (congrArg _ eσ4.symm)) hD
  refine lv_aload_n hx hb d_Pl_lay_26 rfl (lv_at hl 0 rfl) ?_
  refine lv_aload_n hx hb d_Pl_lay_27 rfl (lv_at hl 1 rfl) ?_
  refine lv_iconst (v := 0) hx hb d_Pl_lay_28 (by decide) ?_
  refine lv_iconst (v := 0) hx hb d_Pl_lay_29 (by decide) ?_
  obtain ⟨v5, σ6, hc7, h⟩ := k_call_e h
  refine k_callv (va_runS (As := [.ref (a 3), .ref (a 1), .int 0, .int 0]) (rest := []) ⟨hx, hb, hml, hown, hts⟩ (K_Pl_layParts l D a c9 22 H.size hc7) (va_cwS 4 hts (k_gS q_461 q_462 q_4 q_463) rfl rfl rfl h_Pl_layParts.2 ⟨Nat.le_of_ble_eq_true rfl, Nat.le_of_ble_eq_true rfl⟩) (k_preS hP hK hN hD) rfl rfl hl.1 rfl (lv_room (Nat.le_of_ble_eq_true rfl)) d_Pl_lay_30 ⟨Nat.zero_le _, Nat.zero_le _⟩) hD hS hA (fun H locs hP hD hS => ?_)
  cases h
  exact k_vret hx hb hr hlk hP hS d_Pl_lay_33
theorem K_Pl_lay (l : Launch) (D : va_G) (a : Nat → Nat) (c9 : Nat → ClassId) (sz : Nat) {σ : kS} {x2 : Int32} {r9 : Int32} {σo : kS} (h : M_Pl_lay σ x2 = some (r9, σo)) : Met l y_Pl_lay (Cond.code y_Pl_lay c_Pl_lay 3 none :: kG) rm_Pl_lay (k_Pc D a c9 sz σ [.ref (a 3), .ref (a 1), .int x2]) (k_Qv D a c9 σo (k_A a c9 σ sz)) 0 0 (k_A a c9 σ sz) :=
  k_met (Qf := k_Qv D a c9 σo) (by decide) (Nat.le_of_ble_eq_true rfl) (fun p e s m args below meth c A ls C0 hP hD hS hl => B_Pl_lay_0 C0 σ x2 s.heap [] ls hP hD hS hl h)
def rm_In_bitCount : Room := { frames := 0, cells := 0, slots := 0, locals := 0 }
def M_In_bitCount (σ : kS) (x0 : Int32) : Option (Int32 × kS) := k_let ((x0 - (((x0).toUInt32 >>> ((1 : Int32).toUInt32 &&& Int32.toUInt32 31)).toInt32 &&& 1431655765))) fun v1 => k_let (((v1 &&& 858993459) + (((v1).toUInt32 >>> ((2 : Int32).toUInt32 &&& Int32.toUInt32 31)).toInt32 &&& 858993459))) fun v2 => k_let (((v2 + ((v2).toUInt32 >>> ((4 : Int32).toUInt32 &&& Int32.toUInt32 31)).toInt32) &&& 252645135)) fun v3 => k_let ((v3 + ((v3).toUInt32 >>> ((8 : Int32).toUInt32 &&& Int32.toUInt32 31)).toInt32)) fun v4 => k_let ((v4 + ((v4).toUInt32 >>> ((16 : Int32).toUInt32 &&& Int32.toUInt32 31)).toInt32)) fun v5 => some ((v5 &&& 63), σ)
set_option maxHeartbeats 4000000 in
set_option maxRecDepth 100000 in
theorem B_In_bitCount_0 {p : Program} {l : Launch} {e : Env} {s : State} {m : MethodId} {args : Array Value} {below : List Frame} {meth : Method} {c : Code} {D : va_G} {a : Nat → Nat} {c9 : Nat → ClassId} {A : Nat → Prop} {r9 : Int32} {σo : kS} (C0 : k_Cx D c9 p s m args meth c R_In c_In_bitCount 1 (some .int) A) (σ : kS) (x0 : Int32) (H : Heap) (locs : List Loc) (ls : Array Slot) (hP : va_P D kcl (kw a c9 σ) H) (hD : va_D A (kw a c9 σ)) (hS : va_S A s.heap H locs) (hl : lv_has ls 1 [(0, .int x0)]) (h : M_In_bitCount σ x0 = some (r9, σo)) : W p l e rm_In_bitCount s m args below meth c H locs 0 0 (MQ below (k_Qi D a c9 r9 σo A) args s 0 0 A) (F0 m 0 ls []) := by
  obtain ⟨hx, hb, hml, hown, hts, hr, hlk, hK, hN, hA⟩ := id C0
  unfold M_In_bitCount at h
  refine lv_iload_n hx hb d_In_bitCount_0 rfl (lv_at hl 0 rfl) ?_
  refine lv_iload_n hx hb d_In_bitCount_1 rfl (lv_at hl 0 rfl) ?_
  refine lv_iconst (v := 1) hx hb d_In_bitCount_2 (by decide) ?_
  refine lv_iushr hx hb d_In_bitCount_3 rfl ?_
  refine lv_ldcw (v := 1431655765) hx hb hown (hts _ q_525) d_In_bitCount_4 ?_
  refine lv_iand hx hb d_In_bitCount_7 ?_
  refine lv_isub hx hb d_In_bitCount_8 ?_
  obtain ⟨v1, ev1, h⟩ := k_let_e h
  refine k_top ev1 ?_
  refine lv_istore_n (lv' := [(0, .int v1)]) hx hb d_In_bitCount_9 rfl hl (by decide) rfl (fun ls hl => ?_)
  refine lv_iload_n hx hb d_In_bitCount_10 rfl (lv_at hl 0 rfl) ?_
  refine lv_ldcw (v := 858993459) hx hb hown (hts _ q_526) d_In_bitCount_11 ?_
  refine lv_iand hx hb d_In_bitCount_14 ?_
  refine lv_iload_n hx hb d_In_bitCount_15 rfl (lv_at hl 0 rfl) ?_
  refine lv_iconst (v := 2) hx hb d_In_bitCount_16 (by decide) ?_
  refine lv_iushr hx hb d_In_bitCount_17 rfl ?_
  refine lv_ldcw (v := 858993459) hx hb hown (hts _ q_526) d_In_bitCount_18 ?_
  refine lv_iand hx hb d_In_bitCount_21 ?_
  refine lv_iadd hx hb d_In_bitCount_22 ?_
  obtain ⟨v2, ev2, h⟩ := k_let_e h
  refine k_top ev2 ?_
  refine lv_istore_n (lv' := [(0, .int v2)]) hx hb d_In_bitCount_23 rfl hl (by decide) rfl (fun ls hl => ?_)
  refine lv_iload_n hx hb d_In_bitCount_24 rfl (lv_at hl 0 rfl) ?_
  refine lv_iload_n hx hb d_In_bitCount_25 rfl (lv_at hl 0 rfl) ?_
  refine lv_iconst (v := 4) hx hb d_In_bitCount_26 (by decide) ?_
  refine lv_iushr hx hb d_In_bitCount_27 rfl ?_
  refine lv_iadd hx hb d_In_bitCount_28 ?_
  refine lv_ldcw (v := 252645135) hx hb hown (hts _ q_527) d_In_bitCount_29 ?_
  refine lv_iand hx hb d_In_bitCount_32 ?_
  obtain ⟨v3, ev3, h⟩ := k_let_e h
  refine k_top ev3 ?_
  refine lv_istore_n (lv' := [(0, .int v3)]) hx hb d_In_bitCount_33 rfl hl (by decide) rfl (fun ls hl => ?_)
  refine lv_iload_n hx hb d_In_bitCount_34 rfl (lv_at hl 0 rfl) ?_
  refine lv_iload_n hx hb d_In_bitCount_35 rfl (lv_at hl 0 rfl) ?_
  refine lv_bipush (v := 8) hx hb d_In_bitCount_36 (by decide) ?_
  refine lv_iushr hx hb d_In_bitCount_38 rfl ?_
  refine lv_iadd hx hb d_In_bitCount_39 ?_
  obtain ⟨v4, ev4, h⟩ := k_let_e h
  refine k_top ev4 ?_
  refine lv_istore_n (lv' := [(0, .int v4)]) hx hb d_In_bitCount_40 rfl hl (by decide) rfl (fun ls hl => ?_)
  refine lv_iload_n hx hb d_In_bitCount_41 rfl (lv_at hl 0 rfl) ?_
  refine lv_iload_n hx hb d_In_bitCount_42 rfl (lv_at hl 0 rfl) ?_
  refine lv_bipush (v := 16) hx hb d_In_bitCount_43 (by decide) ?_
  refine lv_iushr hx hb d_In_bitCount_45 rfl ?_
  refine lv_iadd hx hb d_In_bitCount_46 ?_
  obtain ⟨v5, ev5, h⟩ := k_let_e h
  refine k_top ev5 ?_
  refine lv_istore_n (lv' := [(0, .int v5)]) hx hb d_In_bitCount_47 rfl hl (by decide) rfl (fun ls hl => ?_)
  refine lv_iload_n hx hb d_In_bitCount_48 rfl (lv_at hl 0 rfl) ?_
  refine lv_bipush (v := 63) hx hb d_In_bitCount_49 (by decide) ?_
  refine lv_iand hx hb d_In_bitCount_51 ?_
  cases h
  exact k_iret hx hb hr hlk hP hS d_In_bitCount_52
theorem K_In_bitCount (l : Launch) (D : va_G) (a : Nat → Nat) (c9 : Nat → ClassId) (sz : Nat) {σ : kS} {x0 : Int32} {r9 : Int32} {σo : kS} (h : M_In_bitCount σ x0 = some (r9, σo)) : Met l y_In_bitCount (Cond.code y_In_bitCount c_In_bitCount 1 (some .int) :: kG) rm_In_bitCount (k_Pc D a c9 sz σ [.int x0]) (k_Qi D a c9 r9 σo (k_A a c9 σ sz)) 0 0 (k_A a c9 σ sz) :=
  k_met (Qf := k_Qi D a c9 r9 σo) (by decide) (Nat.le_of_ble_eq_true rfl) (fun p e s m args below meth c A ls C0 hP hD hS hl => B_In_bitCount_0 C0 σ x0 s.heap [] ls hP hD hS hl h)
end
section
/-! mirrors and contracts, by program (wip/whole/run.py) -/
def rm_Se_matches : Room := { frames := 0, cells := 0, slots := 0, locals := 0 }
def M_Se_matches (σ : kS) : Option (Int32 × kS) := some (0, σ)
set_option maxHeartbeats 4000000 in
set_option maxRecDepth 100000 in
theorem B_Se_matches_0 {p : Program} {l : Launch} {e : Env} {s : State} {m : MethodId} {args : Array Value} {below : List Frame} {meth : Method} {c : Code} {D : va_G} {a : Nat → Nat} {c9 : Nat → ClassId} {A : Nat → Prop} {r9 : Int32} {σo : kS} (C0 : k_Cx D c9 p s m args meth c R_Se c_Se_matches 1 (some (.object "SequenceMatch$Matches")) A) (σ : kS) (H : Heap) (locs : List Loc) (ls : Array Slot) (hP : va_P D kcl (kw a c9 σ) H) (hD : va_D A (kw a c9 σ)) (hS : va_S A s.heap H locs) (hl : lv_has ls 1 [(0, .ref (a 2))]) (h : M_Se_matches σ  = some (r9, σo)) : W p l e rm_Se_matches s m args below meth c H locs 0 0 (MQ below (k_Qr D a c9 (a 5) σo A) args s 0 0 A) (F0 m 0 ls []) := by
  obtain ⟨hx, hb, hml, hown, hts, hr, hlk, hK, hN, hA⟩ := id C0
  unfold M_Se_matches at h
  refine lv_aload_n hx hb d_Se_matches_0 rfl (lv_at hl 0 rfl) ?_
  refine va_get (ci := 6) (C := R_Se) (T := T_Se) (N := 13) hx hb hts in_Se hown hK hP 2 kw_2 rfl 3 (by decide) (hts _ q_137) (fun _ h9 => h9) rfl d_Se_matches_1 ?_
  cases h
  exact k_aret hx hb hr hlk hP hS d_Se_matches_4
theorem K_Se_matches (l : Launch) (D : va_G) (a : Nat → Nat) (c9 : Nat → ClassId) (sz : Nat) {σ : kS} {r9 : Int32} {σo : kS} (h : M_Se_matches σ  = some (r9, σo)) : Met l y_Se_matches (Cond.code y_Se_matches c_Se_matches 1 (some (.object "SequenceMatch$Matches")) :: kG) rm_Se_matches (k_Pc D a c9 sz σ [.ref (a 2)]) (k_Qr D a c9 (a 5) σo (k_A a c9 σ sz)) 0 0 (k_A a c9 σ sz) :=
  k_met (Qf := k_Qr D a c9 (a 5) σo) (by decide) (Nat.le_of_ble_eq_true rfl) (fun p e s m args below meth c A ls C0 hP hD hS hl => B_Se_matches_0 C0 σ  s.heap [] ls hP hD hS hl h)
def rm_Se_triesMade : Room := { frames := 0, cells := 0, slots := 0, locals := 0 }
def M_Se_triesMade (σ : kS) : Option (Int32 × kS) := some (σ.1 5, σ)
set_option maxHeartbeats 4000000 in
set_option maxRecDepth 100000 in
theorem B_Se_triesMade_0 {p : Program} {l : Launch} {e : Env} {s : State} {m : MethodId} {args : Array Value} {below : List Frame} {meth : Method} {c : Code} {D : va_G} {a : Nat → Nat} {c9 : Nat → ClassId} {A : Nat → Prop} {r9 : Int32} {σo : kS} (C0 : k_Cx D c9 p s m args meth c R_Se c_Se_triesMade 1 (some .int) A) (σ : kS) (H : Heap) (locs : List Loc) (ls : Array Slot) (hP : va_P D kcl (kw a c9 σ) H) (hD : va_D A (kw a c9 σ)) (hS : va_S A s.heap H locs) (hl : lv_has ls 1 [(0, .ref (a 2))]) (h : M_Se_triesMade σ  = some (r9, σo)) : W p l e rm_Se_triesMade s m args below meth c H locs 0 0 (MQ below (k_Qi D a c9 r9 σo A) args s 0 0 A) (F0 m 0 ls []) := by
  obtain ⟨hx, hb, hml, hown, hts, hr, hlk, hK, hN, hA⟩ := id C0
  unfold M_Se_triesMade at h
  refine lv_aload_n hx hb d_Se_triesMade_0 rfl (lv_at hl 0 rfl) ?_
  refine va_get (ci := 6) (C := R_Se) (T := T_Se) (N := 13) hx hb hts in_Se hown hK hP 2 kw_2 rfl 10 (by decide) (hts _ q_144) (fun _ h9 => h9) rfl d_Se_triesMade_1 ?_
  cases h
  exact k_iret hx hb hr hlk hP hS d_Se_triesMade_4
theorem K_Se_triesMade (l : Launch) (D : va_G) (a : Nat → Nat) (c9 : Nat → ClassId) (sz : Nat) {σ : kS} {r9 : Int32} {σo : kS} (h : M_Se_triesMade σ  = some (r9, σo)) : Met l y_Se_triesMade (Cond.code y_Se_triesMade c_Se_triesMade 1 (some .int) :: kG) rm_Se_triesMade (k_Pc D a c9 sz σ [.ref (a 2)]) (k_Qi D a c9 r9 σo (k_A a c9 σ sz)) 0 0 (k_A a c9 σ sz) :=
  k_met (Qf := k_Qi D a c9 r9 σo) (by decide) (Nat.le_of_ble_eq_true rfl) (fun p e s m args below meth c A ls C0 hP hD hS hl => B_Se_triesMade_0 C0 σ  s.heap [] ls hP hD hS hl h)
def rm_Se_found : Room := { frames := 0, cells := 0, slots := 0, locals := 0 }
def M_Se_found (σ : kS) : Option (Int32 × kS) := some (σ.1 6, σ)
set_option maxHeartbeats 4000000 in
set_option maxRecDepth 100000 in
theorem B_Se_found_0 {p : Program} {l : Launch} {e : Env} {s : State} {m : MethodId} {args : Array Value} {below : List Frame} {meth : Method} {c : Code} {D : va_G} {a : Nat → Nat} {c9 : Nat → ClassId} {A : Nat → Prop} {r9 : Int32} {σo : kS} (C0 : k_Cx D c9 p s m args meth c R_Se c_Se_found 1 (some .int) A) (σ : kS) (H : Heap) (locs : List Loc) (ls : Array Slot) (hP : va_P D kcl (kw a c9 σ) H) (hD : va_D A (kw a c9 σ)) (hS : va_S A s.heap H locs) (hl : lv_has ls 1 [(0, .ref (a 2))]) (h : M_Se_found σ  = some (r9, σo)) : W p l e rm_Se_found s m args below meth c H locs 0 0 (MQ below (k_Qi D a c9 r9 σo A) args s 0 0 A) (F0 m 0 ls []) := by
  obtain ⟨hx, hb, hml, hown, hts, hr, hlk, hK, hN, hA⟩ := id C0
  unfold M_Se_found at h
  refine lv_aload_n hx hb d_Se_found_0 rfl (lv_at hl 0 rfl) ?_
  refine va_get (ci := 6) (C := R_Se) (T := T_Se) (N := 13) hx hb hts in_Se hown hK hP 2 kw_2 rfl 11 (by decide) (hts _ q_145) (fun _ h9 => h9) rfl d_Se_found_1 ?_
  cases h
  exact k_iret hx hb hr hlk hP hS d_Se_found_4
theorem K_Se_found (l : Launch) (D : va_G) (a : Nat → Nat) (c9 : Nat → ClassId) (sz : Nat) {σ : kS} {r9 : Int32} {σo : kS} (h : M_Se_found σ  = some (r9, σo)) : Met l y_Se_found (Cond.code y_Se_found c_Se_found 1 (some .int) :: kG) rm_Se_found (k_Pc D a c9 sz σ [.ref (a 2)]) (k_Qi D a c9 r9 σo (k_A a c9 σ sz)) 0 0 (k_A a c9 σ sz) :=
  k_met (Qf := k_Qi D a c9 r9 σo) (by decide) (Nat.le_of_ble_eq_true rfl) (fun p e s m args below meth c A ls C0 hP hD hS hl => B_Se_found_0 C0 σ  s.heap [] ls hP hD hS hl h)
def rm_Se_isSpent : Room := { frames := 0, cells := 0, slots := 0, locals := 0 }
def M_Se_isSpent (σ : kS) : Option (Int32 × kS) := k_z (σ.1 7) (some (σ.1 7, σ))
set_option maxHeartbeats 4000000 in
set_option maxRecDepth 100000 in
theorem B_Se_isSpent_0 {p : Program} {l : Launch} {e : Env} {s : State} {m : MethodId} {args : Array Value} {below : List Frame} {meth : Method} {c : Code} {D : va_G} {a : Nat → Nat} {c9 : Nat → ClassId} {A : Nat → Prop} {r9 : Int32} {σo : kS} (C0 : k_Cx D c9 p s m args meth c R_Se c_Se_isSpent 1 (some .boolean) A) (σ : kS) (H : Heap) (locs : List Loc) (ls : Array Slot) (hP : va_P D kcl (kw a c9 σ) H) (hD : va_D A (kw a c9 σ)) (hS : va_S A s.heap H locs) (hl : lv_has ls 1 [(0, .ref (a 2))]) (h : M_Se_isSpent σ  = some (r9, σo)) : W p l e rm_Se_isSpent s m args below meth c H locs 0 0 (MQ below (k_Qi D a c9 r9 σo A) args s 0 0 A) (F0 m 0 ls []) := by
  obtain ⟨hx, hb, hml, hown, hts, hr, hlk, hK, hN, hA⟩ := id C0
  unfold M_Se_isSpent at h
  refine lv_aload_n hx hb d_Se_isSpent_0 rfl (lv_at hl 0 rfl) ?_
  refine va_get (ci := 6) (C := R_Se) (T := T_Se) (N := 13) hx hb hts in_Se hown hK hP 2 kw_2 rfl 12 (by decide) (hts _ q_146) (fun _ h9 => h9) rfl d_Se_isSpent_1 ?_
  obtain ⟨hz, h⟩ := k_z_e h
  cases h
  exact k_zret hz hx hb hr hlk hP hS d_Se_isSpent_4
theorem K_Se_isSpent (l : Launch) (D : va_G) (a : Nat → Nat) (c9 : Nat → ClassId) (sz : Nat) {σ : kS} {r9 : Int32} {σo : kS} (h : M_Se_isSpent σ  = some (r9, σo)) : Met l y_Se_isSpent (Cond.code y_Se_isSpent c_Se_isSpent 1 (some .boolean) :: kG) rm_Se_isSpent (k_Pc D a c9 sz σ [.ref (a 2)]) (k_Qi D a c9 r9 σo (k_A a c9 σ sz)) 0 0 (k_A a c9 σ sz) :=
  k_met (Qf := k_Qi D a c9 r9 σo) (by decide) (Nat.le_of_ble_eq_true rfl) (fun p e s m args below meth c A ls C0 hP hD hS hl => B_Se_isSpent_0 C0 σ  s.heap [] ls hP hD hS hl h)
def rm_Se_clear : Room := { frames := 2, cells := 0, slots := 0, locals := 43 }
def M_Se_clear (σ : kS) : Option (Int32 × kS) := k_call (M_Mt_clear σ) fun _ σ2 => k_call (M_Nm_clear σ2) fun _ σ5 => k_set σ5 5 (0) fun σ7 => k_set σ7 6 (0) fun σ8 => k_set σ8 7 (0) fun σ9 => some (0, σ9)
set_option maxHeartbeats 4000000 in
set_option maxRecDepth 100000 in
theorem B_Se_clear_0 {p : Program} {l : Launch} {e : Env} {s : State} {m : MethodId} {args : Array Value} {below : List Frame} {meth : Method} {c : Code} {D : va_G} {a : Nat → Nat} {c9 : Nat → ClassId} {A : Nat → Prop} {r9 : Int32} {σo : kS} (C0 : k_Cx D c9 p s m args meth c R_Se c_Se_clear 1 none A) (σ : kS) (H : Heap) (locs : List Loc) (ls : Array Slot) (hP : va_P D kcl (kw a c9 σ) H) (hD : va_D A (kw a c9 σ)) (hS : va_S A s.heap H locs) (hl : lv_has ls 1 [(0, .ref (a 2))]) (h : M_Se_clear σ  = some (r9, σo)) : W p l e rm_Se_clear s m args below meth c H locs 0 0 (MQ below (k_Qv D a c9 σo A) args s 0 0 A) (F0 m 0 ls []) := by
  obtain ⟨hx, hb, hml, hown, hts, hr, hlk, hK, hN, hA⟩ := id C0
  unfold M_Se_clear at h
  refine lv_aload_n hx hb d_Se_clear_0 rfl (lv_at hl 0 rfl) ?_
  refine va_get (ci := 6) (C := R_Se) (T := T_Se) (N := 13) hx hb hts in_Se hown hK hP 2 kw_2 rfl 3 (by decide) (hts _ q_137) (fun _ h9 => h9) rfl d_Se_clear_1 ?_
  obtain ⟨v1, σ2, hc3, h⟩ := k_call_e h
  refine k_callv (va_runV (As := []) (rest := []) ⟨hx, hb, hml, hown, hts⟩ (K_Mt_clear l D a c9 H.size hc3) (cwV 0 hts (k_gV q_446 q_447 q_448 q_6 q_449) rfl rfl rfl h_Mt_clear ⟨Nat.le_of_ble_eq_true rfl, Nat.le_of_ble_eq_true rfl⟩) (k_preV (ci := 3) (q0 := 5) rfl kw_5 hP hK hN hD) rfl rfl hl.1 rfl (lv_room (Nat.le_of_ble_eq_true rfl)) d_Se_clear_4 ⟨Nat.zero_le _, Nat.zero_le _⟩) hD hS hA (fun H locs hP hD hS => ?_)
  refine lv_aload_n hx hb d_Se_clear_7 rfl (lv_at hl 0 rfl) ?_
  refine va_get (ci := 6) (C := R_Se) (T := T_Se) (N := 13) hx hb hts in_Se hown hK hP 2 kw_2 rfl 2 (by decide) (hts _ q_136) (fun _ h9 => h9) rfl d_Se_clear_8 ?_
  obtain ⟨v4, σ5, hc6, h⟩ := k_call_e h
  refine k_callv (va_runV (As := []) (rest := []) ⟨hx, hb, hml, hown, hts⟩ (K_Nm_clear l D a c9 H.size hc6) (cwV 0 hts (k_gV q_450 q_451 q_452 q_5 q_453) rfl rfl rfl h_Nm_clear ⟨Nat.le_of_ble_eq_true rfl, Nat.le_of_ble_eq_true rfl⟩) (k_preV (ci := 4) (q0 := 4) rfl kw_4 hP hK hN hD) rfl rfl hl.1 rfl (lv_room (Nat.le_of_ble_eq_true rfl)) d_Se_clear_11 ⟨Nat.zero_le _, Nat.zero_le _⟩) hD hS hA (fun H locs hP hD hS => ?_)
  refine lv_aload_n hx hb d_Se_clear_14 rfl (lv_at hl 0 rfl) ?_
  refine lv_iconst (v := 0) hx hb d_Se_clear_15 (by decide) ?_
  obtain ⟨σ7, eσ7, h⟩ := k_set_e h
  refine va_put (ci := 6) (v := .int 0) (ty := .int) (C := R_Se) (T := T_Se) (N := 13) hx hb hts in_Se t_Se t_Se_ok n_Se hown hK hP hD hS 2 kw_2 rfl 10 (by decide) (hts _ q_144) (fun _ h9 => h9) rfl (by decide +kernel) rfl rfl (Nat.le_of_ble_eq_true rfl) d_Se_clear_16 (fun H locs hP hD hS => ?_)
  replace hP := k_mvP (kw_f2_10.trans (congrArg _ eσ7.symm)) hP
  replace hD := k_mvD (kw_f2_10.trans (congrArg _ eσ7.symm)) hD
  refine lv_aload_n hx hb d_Se_clear_19 rfl (lv_at hl 0 rfl) ?_
  refine lv_iconst (v := 0) hx hb d_Se_clear_20 (by decide) ?_
  obtain ⟨σ8, eσ8, h⟩ := k_set_e h
  refine va_put (ci := 6) (v := .int 0) (ty := .int) (C := R_Se) (T := T_Se) (N := 13) hx hb hts in_Se t_Se t_Se_ok n_Se hown hK hP hD hS 2 kw_2 rfl 11 (by decide) (hts _ q_145) (fun _ h9 => h9) rfl (by decide +kernel) rfl rfl (Nat.le_of_ble_eq_true rfl) d_Se_clear_21 (fun H locs hP hD hS => ?_)
  replace hP := k_mvP (kw_f2_11.trans (congrArg _ eσ8.symm)) hP
  replace hD := k_mvD (kw_f2_11.trans (congrArg _ eσ8.symm)) hD
  refine lv_aload_n hx hb d_Se_clear_24 rfl (lv_at hl 0 rfl) ?_
  refine lv_iconst (v := 0) hx hb d_Se_clear_25 (by decide) ?_
  obtain ⟨σ9, eσ9, h⟩ := k_set_e h
  refine va_put (ci := 6) (v := .int 0) (ty := .boolean) (C := R_Se) (T := T_Se) (N := 13) hx hb hts in_Se t_Se t_Se_ok n_Se hown hK hP hD hS 2 kw_2 rfl 12 (by decide) (hts _ q_146) (fun _ h9 => h9) rfl (by decide +kernel) rfl rfl (Nat.le_of_ble_eq_true rfl) d_Se_clear_26 (fun H locs hP hD hS => ?_)
  replace hP := k_mvP (kw_f2_12.trans (congrArg _ eσ9.symm)) hP
  replace hD := k_mvD (kw_f2_12.trans (congrArg _ eσ9.symm)) hD
  cases h
  exact k_vret hx hb hr hlk hP hS d_Se_clear_29
theorem K_Se_clear (l : Launch) (D : va_G) (a : Nat → Nat) (c9 : Nat → ClassId) (sz : Nat) {σ : kS} {r9 : Int32} {σo : kS} (h : M_Se_clear σ  = some (r9, σo)) : Met l y_Se_clear (Cond.code y_Se_clear c_Se_clear 1 none :: kG) rm_Se_clear (k_Pc D a c9 sz σ [.ref (a 2)]) (k_Qv D a c9 σo (k_A a c9 σ sz)) 0 0 (k_A a c9 σ sz) :=
  k_met (Qf := k_Qv D a c9 σo) (by decide) (Nat.le_of_ble_eq_true rfl) (fun p e s m args below meth c A ls C0 hP hD hS hl => B_Se_clear_0 C0 σ  s.heap [] ls hP hD hS hl h)
def rm_Se_release : Room := { frames := 1, cells := 0, slots := 0, locals := 22 }
def M_Se_release_36 (σ : kS) (x1 : Int32) : Option (Int32 × kS) := k_call (M_Pl_treeAt σ x1) fun v1 σ2 => k_call (M_F_isHole σ2 v1) fun v4 σ5 => if v4 = 0 then (some (0, σ5)) else (k_call (M_F_nameOf σ5 v1) fun v8 σ9 => k_call (M_Nm_takeBack σ9 v8 x1) fun _ σ12 => some (0, σ12))
set_option maxHeartbeats 4000000 in
set_option maxRecDepth 100000 in
theorem B_Se_release_36 {p : Program} {l : Launch} {e : Env} {s : State} {m : MethodId} {args : Array Value} {below : List Frame} {meth : Method} {c : Code} {D : va_G} {a : Nat → Nat} {c9 : Nat → ClassId} {A : Nat → Prop} {r9 : Int32} {σo : kS} (C0 : k_Cx D c9 p s m args meth c R_Se c_Se_release 3 none A) (σ : kS) (x1 : Int32) (H : Heap) (locs : List Loc) (ls : Array Slot) (hP : va_P D kcl (kw a c9 σ) H) (hD : va_D A (kw a c9 σ)) (hS : va_S A s.heap H locs) (hl : lv_has ls 3 [(0, .ref (a 2)), (1, .int x1)]) (h : M_Se_release_36 σ x1 = some (r9, σo)) : W p l e rm_Se_release s m args below meth c H locs 0 0 (MQ below (k_Qv D a c9 σo A) args s 0 0 A) (F0 m 36 ls []) := by
  obtain ⟨hx, hb, hml, hown, hts, hr, hlk, hK, hN, hA⟩ := id C0
  unfold M_Se_release_36 at h
  refine lv_aload_n hx hb d_Se_release_36 rfl (lv_at hl 0 rfl) ?_
  refine va_get (ci := 6) (C := R_Se) (T := T_Se) (N := 13) hx hb hts in_Se hown hK hP 2 kw_2 rfl 1 (by decide) (hts _ q_135) (fun _ h9 => h9) rfl d_Se_release_37 ?_
  refine lv_iload_n hx hb d_Se_release_40 rfl (lv_at hl 1 rfl) ?_
  obtain ⟨v1, σ2, hc3, h⟩ := k_call_e h
  refine k_calli (va_runV (As := [.int x1]) (rest := []) ⟨hx, hb, hml, hown, hts⟩ (K_Pl_treeAt l D a c9 H.size hc3) (cwV 1 hts (k_gV q_477 q_478 q_479 q_4 q_480) rfl rfl rfl h_Pl_treeAt ⟨Nat.le_of_ble_eq_true rfl, Nat.le_of_ble_eq_true rfl⟩) (k_preV (ci := 5) (q0 := 3) rfl kw_3 hP hK hN hD) rfl rfl hl.1 rfl (lv_room (Nat.le_of_ble_eq_true rfl)) d_Se_release_41 ⟨Nat.zero_le _, Nat.zero_le _⟩) hD hS hA (fun H locs hP hD hS => ?_)
  refine lv_istore_n (lv' := [(2, .int v1), (0, .ref (a 2)), (1, .int x1)]) hx hb d_Se_release_44 rfl hl (by decide) rfl (fun ls hl => ?_)
  refine lv_aload_n hx hb d_Se_release_45 rfl (lv_at hl 1 rfl) ?_
  refine va_get (ci := 6) (C := R_Se) (T := T_Se) (N := 13) hx hb hts in_Se hown hK hP 2 kw_2 rfl 0 (by decide) (hts _ q_134) (fun _ h9 => h9) rfl d_Se_release_46 ?_
  refine lv_iload_n hx hb d_Se_release_49 rfl (lv_at hl 0 rfl) ?_
  obtain ⟨v4, σ5, hc6, h⟩ := k_call_e h
  refine k_calli (va_runV (As := [.int v1]) (rest := []) ⟨hx, hb, hml, hown, hts⟩ (K_F_isHole l D a c9 H.size hc6) (cwV 1 hts (k_gV q_481 q_414 q_415 q_2 q_416) rfl rfl rfl h_F_isHole ⟨Nat.le_of_ble_eq_true rfl, Nat.le_of_ble_eq_true rfl⟩) (k_preV (ci := 2) (q0 := 1) rfl kw_1 hP hK hN hD) rfl rfl hl.1 rfl (lv_room (Nat.le_of_ble_eq_true rfl)) d_Se_release_50 ⟨Nat.zero_le _, Nat.zero_le _⟩) hD hS hA (fun H locs hP hD hS => ?_)
  refine lv_if_eq (tgt := 72) hx hb d_Se_release_53 (by decide) (fun c7 => ?_) (fun c7 => ?_)
  · replace h := (if_pos c7).symm.trans h
    cases h
    exact k_vret hx hb hr hlk hP hS d_Se_release_72
  · replace h := (if_neg c7).symm.trans h
    refine lv_aload_n hx hb d_Se_release_56 rfl (lv_at hl 1 rfl) ?_
    refine va_get (ci := 6) (C := R_Se) (T := T_Se) (N := 13) hx hb hts in_Se hown hK hP 2 kw_2 rfl 2 (by decide) (hts _ q_136) (fun _ h9 => h9) rfl d_Se_release_57 ?_
    refine lv_aload_n hx hb d_Se_release_60 rfl (lv_at hl 1 rfl) ?_
    refine va_get (ci := 6) (C := R_Se) (T := T_Se) (N := 13) hx hb hts in_Se hown hK hP 2 kw_2 rfl 0 (by decide) (hts _ q_134) (fun _ h9 => h9) rfl d_Se_release_61 ?_
    refine lv_iload_n hx hb d_Se_release_64 rfl (lv_at hl 0 rfl) ?_
    obtain ⟨v8, σ9, hc10, h⟩ := k_call_e h
    refine k_calli (va_runV (As := [.int v1]) (rest := [.ref (a 4)]) ⟨hx, hb, hml, hown, hts⟩ (K_F_nameOf l D a c9 H.size hc10) (cwV 1 hts (k_gV q_482 q_483 q_484 q_2 q_485) rfl rfl rfl h_F_nameOf ⟨Nat.le_of_ble_eq_true rfl, Nat.le_of_ble_eq_true rfl⟩) (k_preV (ci := 2) (q0 := 1) rfl kw_1 hP hK hN hD) rfl rfl hl.1 rfl (lv_room (Nat.le_of_ble_eq_true rfl)) d_Se_release_65 ⟨Nat.zero_le _, Nat.zero_le _⟩) hD hS hA (fun H locs hP hD hS => ?_)
    refine lv_iload_n hx hb d_Se_release_68 rfl (lv_at hl 2 rfl) ?_
    obtain ⟨v11, σ12, hc13, h⟩ := k_call_e h
    refine k_callv (va_runV (As := [.int v8, .int x1]) (rest := []) ⟨hx, hb, hml, hown, hts⟩ (K_Nm_takeBack l D a c9 H.size hc13) (cwV 2 hts (k_gV q_486 q_487 q_488 q_5 q_489) rfl rfl rfl h_Nm_takeBack ⟨Nat.le_of_ble_eq_true rfl, Nat.le_of_ble_eq_true rfl⟩) (k_preV (ci := 4) (q0 := 4) rfl kw_4 hP hK hN hD) rfl rfl hl.1 rfl (lv_room (Nat.le_of_ble_eq_true rfl)) d_Se_release_69 ⟨Nat.zero_le _, Nat.zero_le _⟩) hD hS hA (fun H locs hP hD hS => ?_)
    cases h
    exact k_vret hx hb hr hlk hP hS d_Se_release_72
def M_Se_release (σ : kS) (x1 : Int32) : Option (Int32 × kS) := if x1 ≤ 0 then (M_Se_release_36 σ x1) else (k_ld (σ.2.1 14) 70 (x1) fun v2 => if v2 = (-1) then (M_Se_release_36 σ x1) else (k_call (M_Pl_parentOf σ x1) fun v4 σ5 => k_ld (σ5.2.1 16) 70 (v4) fun v7 => k_ld (σ5.2.1 14) 70 (x1) fun v8 => k_st σ5 16 70 (v4) ((v7 ||| v8)) fun σ9 => M_Se_release_36 σ9 x1))
set_option maxHeartbeats 4000000 in
set_option maxRecDepth 100000 in
theorem B_Se_release_0 {p : Program} {l : Launch} {e : Env} {s : State} {m : MethodId} {args : Array Value} {below : List Frame} {meth : Method} {c : Code} {D : va_G} {a : Nat → Nat} {c9 : Nat → ClassId} {A : Nat → Prop} {r9 : Int32} {σo : kS} (C0 : k_Cx D c9 p s m args meth c R_Se c_Se_release 3 none A) (σ : kS) (x1 : Int32) (H : Heap) (locs : List Loc) (ls : Array Slot) (hP : va_P D kcl (kw a c9 σ) H) (hD : va_D A (kw a c9 σ)) (hS : va_S A s.heap H locs) (hl : lv_has ls 3 [(0, .ref (a 2)), (1, .int x1)]) (h : M_Se_release σ x1 = some (r9, σo)) : W p l e rm_Se_release s m args below meth c H locs 0 0 (MQ below (k_Qv D a c9 σo A) args s 0 0 A) (F0 m 0 ls []) := by
  obtain ⟨hx, hb, hml, hown, hts, hr, hlk, hK, hN, hA⟩ := id C0
  unfold M_Se_release at h
  refine lv_iload_n hx hb d_Se_release_0 rfl (lv_at hl 1 rfl) ?_
  refine lv_if_le (tgt := 36) hx hb d_Se_release_1 (by decide) (fun c1 => ?_) (fun c1 => ?_)
  · replace h := (if_pos c1).symm.trans h
    exact B_Se_release_36 C0 _ _ H locs ls hP hD hS (lv_sub hl [0, 1] rfl) h
  · replace h := (if_neg c1).symm.trans h
    refine lv_aload_n hx hb d_Se_release_4 rfl (lv_at hl 0 rfl) ?_
    refine va_get (ci := 6) (C := R_Se) (T := T_Se) (N := 13) hx hb hts in_Se hown hK hP 2 kw_2 rfl 4 (by decide) (hts _ q_138) (fun _ h9 => h9) rfl d_Se_release_5 ?_
    refine lv_iload_n hx hb d_Se_release_8 rfl (lv_at hl 1 rfl) ?_
    obtain ⟨v2, ev2, hv2, h⟩ := k_ld_e h
    refine va_iald hx hb hK hP 21 0 kw_21 rfl hv2 d_Se_release_9 (k_top ev2 ?_)
    refine lv_iconst (v := (-1)) hx hb d_Se_release_10 (by decide) ?_
    refine lv_icmp_eq (tgt := 36) hx hb d_Se_release_11 (by decide) (fun c3 => ?_) (fun c3 => ?_)
    · replace h := (if_pos c3).symm.trans h
      exact B_Se_release_36 C0 _ _ H locs ls hP hD hS (lv_sub hl [0, 1] rfl) h
    · replace h := (if_neg c3).symm.trans h
      refine lv_aload_n hx hb d_Se_release_14 rfl (lv_at hl 0 rfl) ?_
      refine va_get (ci := 6) (C := R_Se) (T := T_Se) (N := 13) hx hb hts in_Se hown hK hP 2 kw_2 rfl 6 (by decide) (hts _ q_140) (fun _ h9 => h9) rfl d_Se_release_15 ?_
      refine lv_aload_n hx hb d_Se_release_18 rfl (lv_at hl 0 rfl) ?_
      refine va_get (ci := 6) (C := R_Se) (T := T_Se) (N := 13) hx hb hts in_Se hown hK hP 2 kw_2 rfl 1 (by decide) (hts _ q_135) (fun _ h9 => h9) rfl d_Se_release_19 ?_
      refine lv_iload_n hx hb d_Se_release_22 rfl (lv_at hl 1 rfl) ?_
      obtain ⟨v4, σ5, hc6, h⟩ := k_call_e h
      refine k_calli (va_runV (As := [.int x1]) (rest := [.ref (a 23)]) ⟨hx, hb, hml, hown, hts⟩ (K_Pl_parentOf l D a c9 H.size hc6) (cwV 1 hts (k_gV q_473 q_474 q_475 q_4 q_476) rfl rfl rfl h_Pl_parentOf ⟨Nat.le_of_ble_eq_true rfl, Nat.le_of_ble_eq_true rfl⟩) (k_preV (ci := 5) (q0 := 3) rfl kw_3 hP hK hN hD) rfl rfl hl.1 rfl (lv_room (Nat.le_of_ble_eq_true rfl)) d_Se_release_23 ⟨Nat.zero_le _, Nat.zero_le _⟩) hD hS hA (fun H locs hP hD hS => ?_)
      refine lv_dup2_11 hx hb d_Se_release_26 rfl rfl ?_
      obtain ⟨v7, ev7, hv7, h⟩ := k_ld_e h
      refine va_iald hx hb hK hP 23 0 kw_23 rfl hv7 d_Se_release_27 (k_top ev7 ?_)
      refine lv_aload_n hx hb d_Se_release_28 rfl (lv_at hl 0 rfl) ?_
      refine va_get (ci := 6) (C := R_Se) (T := T_Se) (N := 13) hx hb hts in_Se hown hK hP 2 kw_2 rfl 4 (by decide) (hts _ q_138) (fun _ h9 => h9) rfl d_Se_release_29 ?_
      refine lv_iload_n hx hb d_Se_release_32 rfl (lv_at hl 1 rfl) ?_
      obtain ⟨v8, ev8, hv8, h⟩ := k_ld_e h
      refine va_iald hx hb hK hP 21 0 kw_21 rfl hv8 d_Se_release_33 (k_top ev8 ?_)
      refine lv_ior hx hb d_Se_release_34 ?_
      obtain ⟨σ9, eσ9, hiσ9, h⟩ := k_st_e h
      refine va_iast hx hb hK hP hD hS 23 0 kw_23 rfl hiσ9 d_Se_release_35 (fun H locs hP hD hS => ?_)
      replace hP := k_mvP (kw_s23.trans (congrArg _ eσ9.symm)) hP
      replace hD := k_mvD (kw_s23.trans (congrArg _ eσ9.symm)) hD
      exact B_Se_release_36 C0 _ _ H locs ls hP hD hS (lv_sub hl [0, 1] rfl) h
theorem K_Se_release (l : Launch) (D : va_G) (a : Nat → Nat) (c9 : Nat → ClassId) (sz : Nat) {σ : kS} {x1 : Int32} {r9 : Int32} {σo : kS} (h : M_Se_release σ x1 = some (r9, σo)) : Met l y_Se_release (Cond.code y_Se_release c_Se_release 3 none :: kG) rm_Se_release (k_Pc D a c9 sz σ [.ref (a 2), .int x1]) (k_Qv D a c9 σo (k_A a c9 σ sz)) 0 0 (k_A a c9 σ sz) :=
  k_met (Qf := k_Qv D a c9 σo) (by decide) (Nat.le_of_ble_eq_true rfl) (fun p e s m args below meth c A ls C0 hP hD hS hl => B_Se_release_0 C0 σ x1 s.heap [] ls hP hD hS hl h)
def rm_Se_firstChoice : Room := { frames := 1, cells := 0, slots := 0, locals := 25 }
def M_Se_firstChoice_24 (σ : kS) (x1 y0 : Int32) : Option (Int32 × kS) := k_call (M_Pl_parentOf σ x1) fun v1 σ2 => k_ld (σ2.2.1 16) 70 (v1) fun v4 => k_call (M_Pc_lowest σ2 v4 y0) fun v5 σ6 => some (v5, σ6)
set_option maxHeartbeats 4000000 in
set_option maxRecDepth 100000 in
theorem B_Se_firstChoice_24 {p : Program} {l : Launch} {e : Env} {s : State} {m : MethodId} {args : Array Value} {below : List Frame} {meth : Method} {c : Code} {D : va_G} {a : Nat → Nat} {c9 : Nat → ClassId} {A : Nat → Prop} {r9 : Int32} {σo : kS} (C0 : k_Cx D c9 p s m args meth c R_Se c_Se_firstChoice 3 (some .int) A) (σ : kS) (x1 y0 : Int32) (H : Heap) (locs : List Loc) (ls : Array Slot) (hP : va_P D kcl (kw a c9 σ) H) (hD : va_D A (kw a c9 σ)) (hS : va_S A s.heap H locs) (hl : lv_has ls 3 [(0, .ref (a 2)), (1, .int x1)]) (h : M_Se_firstChoice_24 σ x1 y0 = some (r9, σo)) : W p l e rm_Se_firstChoice s m args below meth c H locs 0 0 (MQ below (k_Qi D a c9 r9 σo A) args s 0 0 A) (F0 m 24 ls [.int y0]) := by
  obtain ⟨hx, hb, hml, hown, hts, hr, hlk, hK, hN, hA⟩ := id C0
  unfold M_Se_firstChoice_24 at h
  refine lv_istore_n (lv' := [(2, .int y0), (0, .ref (a 2)), (1, .int x1)]) hx hb d_Se_firstChoice_24 rfl hl (by decide) rfl (fun ls hl => ?_)
  refine lv_aload_n hx hb d_Se_firstChoice_25 rfl (lv_at hl 1 rfl) ?_
  refine va_get (ci := 6) (C := R_Se) (T := T_Se) (N := 13) hx hb hts in_Se hown hK hP 2 kw_2 rfl 6 (by decide) (hts _ q_140) (fun _ h9 => h9) rfl d_Se_firstChoice_26 ?_
  refine lv_aload_n hx hb d_Se_firstChoice_29 rfl (lv_at hl 1 rfl) ?_
  refine va_get (ci := 6) (C := R_Se) (T := T_Se) (N := 13) hx hb hts in_Se hown hK hP 2 kw_2 rfl 1 (by decide) (hts _ q_135) (fun _ h9 => h9) rfl d_Se_firstChoice_30 ?_
  refine lv_iload_n hx hb d_Se_firstChoice_33 rfl (lv_at hl 2 rfl) ?_
  obtain ⟨v1, σ2, hc3, h⟩ := k_call_e h
  refine k_calli (va_runV (As := [.int x1]) (rest := [.ref (a 23)]) ⟨hx, hb, hml, hown, hts⟩ (K_Pl_parentOf l D a c9 H.size hc3) (cwV 1 hts (k_gV q_473 q_474 q_475 q_4 q_476) rfl rfl rfl h_Pl_parentOf ⟨Nat.le_of_ble_eq_true rfl, Nat.le_of_ble_eq_true rfl⟩) (k_preV (ci := 5) (q0 := 3) rfl kw_3 hP hK hN hD) rfl rfl hl.1 rfl (lv_room (Nat.le_of_ble_eq_true rfl)) d_Se_firstChoice_34 ⟨Nat.zero_le _, Nat.zero_le _⟩) hD hS hA (fun H locs hP hD hS => ?_)
  obtain ⟨v4, ev4, hv4, h⟩ := k_ld_e h
  refine va_iald hx hb hK hP 23 0 kw_23 rfl hv4 d_Se_firstChoice_37 (k_top ev4 ?_)
  refine lv_iload_n hx hb d_Se_firstChoice_38 rfl (lv_at hl 0 rfl) ?_
  obtain ⟨v5, σ6, hc7, h⟩ := k_call_e h
  refine k_calli (va_runS (As := [.int v4, .int y0]) (rest := []) ⟨hx, hb, hml, hown, hts⟩ (K_Pc_lowest l D a c9 H.size hc7) (va_cwS 2 hts (k_gS q_502 q_503 q_16 q_504) rfl rfl rfl h_Pc_lowest.2 ⟨Nat.le_of_ble_eq_true rfl, Nat.le_of_ble_eq_true rfl⟩) (k_preS hP hK hN hD) rfl rfl hl.1 rfl (lv_room (Nat.le_of_ble_eq_true rfl)) d_Se_firstChoice_39 ⟨Nat.zero_le _, Nat.zero_le _⟩) hD hS hA (fun H locs hP hD hS => ?_)
  cases h
  exact k_iret hx hb hr hlk hP hS d_Se_firstChoice_42
def M_Se_firstChoice (σ : kS) (x1 : Int32) : Option (Int32 × kS) := k_call (M_Pl_treeAt σ x1) fun v1 σ2 => k_call (M_F_isHoleOfKind σ2 v1 3) fun v4 σ5 => if v4 = 0 then (M_Se_firstChoice_24 σ5 x1 1) else (M_Se_firstChoice_24 σ5 x1 0)
set_option maxHeartbeats 4000000 in
set_option maxRecDepth 100000 in
theorem B_Se_firstChoice_0 {p : Program} {l : Launch} {e : Env} {s : State} {m : MethodId} {args : Array Value} {below : List Frame} {meth : Method} {c : Code} {D : va_G} {a : Nat → Nat} {c9 : Nat → ClassId} {A : Nat → Prop} {r9 : Int32} {σo : kS} (C0 : k_Cx D c9 p s m args meth c R_Se c_Se_firstChoice 3 (some .int) A) (σ : kS) (x1 : Int32) (H : Heap) (locs : List Loc) (ls : Array Slot) (hP : va_P D kcl (kw a c9 σ) H) (hD : va_D A (kw a c9 σ)) (hS : va_S A s.heap H locs) (hl : lv_has ls 3 [(0, .ref (a 2)), (1, .int x1)]) (h : M_Se_firstChoice σ x1 = some (r9, σo)) : W p l e rm_Se_firstChoice s m args below meth c H locs 0 0 (MQ below (k_Qi D a c9 r9 σo A) args s 0 0 A) (F0 m 0 ls []) := by
  obtain ⟨hx, hb, hml, hown, hts, hr, hlk, hK, hN, hA⟩ := id C0
  unfold M_Se_firstChoice at h
  refine lv_aload_n hx hb d_Se_firstChoice_0 rfl (lv_at hl 0 rfl) ?_
  refine va_get (ci := 6) (C := R_Se) (T := T_Se) (N := 13) hx hb hts in_Se hown hK hP 2 kw_2 rfl 0 (by decide) (hts _ q_134) (fun _ h9 => h9) rfl d_Se_firstChoice_1 ?_
  refine lv_aload_n hx hb d_Se_firstChoice_4 rfl (lv_at hl 0 rfl) ?_
  refine va_get (ci := 6) (C := R_Se) (T := T_Se) (N := 13) hx hb hts in_Se hown hK hP 2 kw_2 rfl 1 (by decide) (hts _ q_135) (fun _ h9 => h9) rfl d_Se_firstChoice_5 ?_
  refine lv_iload_n hx hb d_Se_firstChoice_8 rfl (lv_at hl 1 rfl) ?_
  obtain ⟨v1, σ2, hc3, h⟩ := k_call_e h
  refine k_calli (va_runV (As := [.int x1]) (rest := [.ref (a 1)]) ⟨hx, hb, hml, hown, hts⟩ (K_Pl_treeAt l D a c9 H.size hc3) (cwV 1 hts (k_gV q_477 q_478 q_479 q_4 q_480) rfl rfl rfl h_Pl_treeAt ⟨Nat.le_of_ble_eq_true rfl, Nat.le_of_ble_eq_true rfl⟩) (k_preV (ci := 5) (q0 := 3) rfl kw_3 hP hK hN hD) rfl rfl hl.1 rfl (lv_room (Nat.le_of_ble_eq_true rfl)) d_Se_firstChoice_9 ⟨Nat.zero_le _, Nat.zero_le _⟩) hD hS hA (fun H locs hP hD hS => ?_)
  refine lv_iconst (v := 3) hx hb d_Se_firstChoice_12 (by decide) ?_
  obtain ⟨v4, σ5, hc6, h⟩ := k_call_e h
  refine k_calli (va_runV (As := [.int v1, .int 3]) (rest := []) ⟨hx, hb, hml, hown, hts⟩ (K_F_isHoleOfKind l D a c9 H.size hc6) (cwV 2 hts (k_gV q_498 q_499 q_500 q_2 q_501) rfl rfl rfl h_F_isHoleOfKind ⟨Nat.le_of_ble_eq_true rfl, Nat.le_of_ble_eq_true rfl⟩) (k_preV (ci := 2) (q0 := 1) rfl kw_1 hP hK hN hD) rfl rfl hl.1 rfl (lv_room (Nat.le_of_ble_eq_true rfl)) d_Se_firstChoice_13 ⟨Nat.zero_le _, Nat.zero_le _⟩) hD hS hA (fun H locs hP hD hS => ?_)
  refine lv_if_eq (tgt := 23) hx hb d_Se_firstChoice_16 (by decide) (fun c7 => ?_) (fun c7 => ?_)
  · replace h := (if_pos c7).symm.trans h
    refine lv_iconst (v := 1) hx hb d_Se_firstChoice_23 (by decide) ?_
    exact B_Se_firstChoice_24 C0 _ _ _ H locs ls hP hD hS (lv_sub hl [0, 1] rfl) h
  · replace h := (if_neg c7).symm.trans h
    refine lv_iconst (v := 0) hx hb d_Se_firstChoice_19 (by decide) ?_
    refine lv_goto (tgt := 24) hx hb d_Se_firstChoice_20 (by decide) ?_
    exact B_Se_firstChoice_24 C0 _ _ _ H locs ls hP hD hS (lv_sub hl [0, 1] rfl) h
theorem K_Se_firstChoice (l : Launch) (D : va_G) (a : Nat → Nat) (c9 : Nat → ClassId) (sz : Nat) {σ : kS} {x1 : Int32} {r9 : Int32} {σo : kS} (h : M_Se_firstChoice σ x1 = some (r9, σo)) : Met l y_Se_firstChoice (Cond.code y_Se_firstChoice c_Se_firstChoice 3 (some .int) :: kG) rm_Se_firstChoice (k_Pc D a c9 sz σ [.ref (a 2), .int x1]) (k_Qi D a c9 r9 σo (k_A a c9 σ sz)) 0 0 (k_A a c9 σ sz) :=
  k_met (Qf := k_Qi D a c9 r9 σo) (by decide) (Nat.le_of_ble_eq_true rfl) (fun p e s m args below meth c A ls C0 hP hD hS hl => B_Se_firstChoice_0 C0 σ x1 s.heap [] ls hP hD hS hl h)
def rm_Se_laterChoice : Room := { frames := 2, cells := 0, slots := 0, locals := 50 }
def M_Se_laterChoice (σ : kS) (x1 : Int32) : Option (Int32 × kS) := k_call (M_Pl_parentOf σ x1) fun v1 σ2 => k_call (M_Pl_treeAt σ2 v1) fun v4 σ5 => k_call (M_F_isAnyOrder σ5 v4) fun v7 σ8 => k_call (M_Pl_treeAt σ8 x1) fun v10 σ11 => k_call (M_F_takesSeveral σ11 v10) fun v13 σ14 => if v13 = 0 then (if v7 = 0 then (some ((-1), σ14)) else (k_ld (σ14.2.1 16) 70 (v1) fun v18 => k_ld (σ14.2.1 14) 70 (x1) fun v19 => k_call (M_Pc_behind σ14 v18 v19) fun v20 σ21 => k_call (M_Pc_lowest σ21 v20 1) fun v23 σ24 => some (v23, σ24))) else (if v7 = 0 then (k_ld (σ14.2.1 16) 70 (v1) fun v27 => k_ld (σ14.2.1 14) 70 (x1) fun v28 => k_call (M_In_bitCount σ14 v28) fun v29 σ30 => k_call (M_Pc_lowest σ30 v27 ((v29 + 1))) fun v32 σ33 => some (v32, σ33)) else (k_ld (σ14.2.1 16) 70 (v1) fun v35 => k_ld (σ14.2.1 14) 70 (x1) fun v36 => k_call (M_Pc_nextChoice σ14 v35 v36) fun v37 σ38 => some (v37, σ38)))
set_option maxHeartbeats 4000000 in
set_option maxRecDepth 100000 in
theorem B_Se_laterChoice_0 {p : Program} {l : Launch} {e : Env} {s : State} {m : MethodId} {args : Array Value} {below : List Frame} {meth : Method} {c : Code} {D : va_G} {a : Nat → Nat} {c9 : Nat → ClassId} {A : Nat → Prop} {r9 : Int32} {σo : kS} (C0 : k_Cx D c9 p s m args meth c R_Se c_Se_laterChoice 4 (some .int) A) (σ : kS) (x1 : Int32) (H : Heap) (locs : List Loc) (ls : Array Slot) (hP : va_P D kcl (kw a c9 σ) H) (hD : va_D A (kw a c9 σ)) (hS : va_S A s.heap H locs) (hl : lv_has ls 4 [(0, .ref (a 2)), (1, .int x1)]) (h : M_Se_laterChoice σ x1 = some (r9, σo)) : W p l e rm_Se_laterChoice s m args below meth c H locs 0 0 (MQ below (k_Qi D a c9 r9 σo A) args s 0 0 A) (F0 m 0 ls []) := by
  obtain ⟨hx, hb, hml, hown, hts, hr, hlk, hK, hN, hA⟩ := id C0
  unfold M_Se_laterChoice at h
  refine lv_aload_n hx hb d_Se_laterChoice_0 rfl (lv_at hl 0 rfl) ?_
  refine va_get (ci := 6) (C := R_Se) (T := T_Se) (N := 13) hx hb hts in_Se hown hK hP 2 kw_2 rfl 1 (by decide) (hts _ q_135) (fun _ h9 => h9) rfl d_Se_laterChoice_1 ?_
  refine lv_iload_n hx hb d_Se_laterChoice_4 rfl (lv_at hl 1 rfl) ?_
  obtain ⟨v1, σ2, hc3, h⟩ := k_call_e h
  refine k_calli (va_runV (As := [.int x1]) (rest := []) ⟨hx, hb, hml, hown, hts⟩ (K_Pl_parentOf l D a c9 H.size hc3) (cwV 1 hts (k_gV q_473 q_474 q_475 q_4 q_476) rfl rfl rfl h_Pl_parentOf ⟨Nat.le_of_ble_eq_true rfl, Nat.le_of_ble_eq_true rfl⟩) (k_preV (ci := 5) (q0 := 3) rfl kw_3 hP hK hN hD) rfl rfl hl.1 rfl (lv_room (Nat.le_of_ble_eq_true rfl)) d_Se_laterChoice_5 ⟨Nat.zero_le _, Nat.zero_le _⟩) hD hS hA (fun H locs hP hD hS => ?_)
  refine lv_istore_n (lv' := [(2, .int v1), (0, .ref (a 2)), (1, .int x1)]) hx hb d_Se_laterChoice_8 rfl hl (by decide) rfl (fun ls hl => ?_)
  refine lv_aload_n hx hb d_Se_laterChoice_9 rfl (lv_at hl 1 rfl) ?_
  refine va_get (ci := 6) (C := R_Se) (T := T_Se) (N := 13) hx hb hts in_Se hown hK hP 2 kw_2 rfl 0 (by decide) (hts _ q_134) (fun _ h9 => h9) rfl d_Se_laterChoice_10 ?_
  refine lv_aload_n hx hb d_Se_laterChoice_13 rfl (lv_at hl 1 rfl) ?_
  refine va_get (ci := 6) (C := R_Se) (T := T_Se) (N := 13) hx hb hts in_Se hown hK hP 2 kw_2 rfl 1 (by decide) (hts _ q_135) (fun _ h9 => h9) rfl d_Se_laterChoice_14 ?_
  refine lv_iload_n hx hb d_Se_laterChoice_17 rfl (lv_at hl 0 rfl) ?_
  obtain ⟨v4, σ5, hc6, h⟩ := k_call_e h
  refine k_calli (va_runV (As := [.int v1]) (rest := [.ref (a 1)]) ⟨hx, hb, hml, hown, hts⟩ (K_Pl_treeAt l D a c9 H.size hc6) (cwV 1 hts (k_gV q_477 q_478 q_479 q_4 q_480) rfl rfl rfl h_Pl_treeAt ⟨Nat.le_of_ble_eq_true rfl, Nat.le_of_ble_eq_true rfl⟩) (k_preV (ci := 5) (q0 := 3) rfl kw_3 hP hK hN hD) rfl rfl hl.1 rfl (lv_room (Nat.le_of_ble_eq_true rfl)) d_Se_laterChoice_18 ⟨Nat.zero_le _, Nat.zero_le _⟩) hD hS hA (fun H locs hP hD hS => ?_)
  obtain ⟨v7, σ8, hc9, h⟩ := k_call_e h
  refine k_calli (va_runV (As := [.int v4]) (rest := []) ⟨hx, hb, hml, hown, hts⟩ (K_F_isAnyOrder l D a c9 H.size hc9) (cwV 1 hts (k_gV q_509 q_382 q_383 q_2 q_384) rfl rfl rfl h_F_isAnyOrder ⟨Nat.le_of_ble_eq_true rfl, Nat.le_of_ble_eq_true rfl⟩) (k_preV (ci := 2) (q0 := 1) rfl kw_1 hP hK hN hD) rfl rfl hl.1 rfl (lv_room (Nat.le_of_ble_eq_true rfl)) d_Se_laterChoice_21 ⟨Nat.zero_le _, Nat.zero_le _⟩) hD hS hA (fun H locs hP hD hS => ?_)
  refine lv_istore_n (lv' := [(3, .int v7), (2, .int v1), (0, .ref (a 2)), (1, .int x1)]) hx hb d_Se_laterChoice_24 rfl hl (by decide) rfl (fun ls hl => ?_)
  refine lv_aload_n hx hb d_Se_laterChoice_25 rfl (lv_at hl 2 rfl) ?_
  refine va_get (ci := 6) (C := R_Se) (T := T_Se) (N := 13) hx hb hts in_Se hown hK hP 2 kw_2 rfl 0 (by decide) (hts _ q_134) (fun _ h9 => h9) rfl d_Se_laterChoice_26 ?_
  refine lv_aload_n hx hb d_Se_laterChoice_29 rfl (lv_at hl 2 rfl) ?_
  refine va_get (ci := 6) (C := R_Se) (T := T_Se) (N := 13) hx hb hts in_Se hown hK hP 2 kw_2 rfl 1 (by decide) (hts _ q_135) (fun _ h9 => h9) rfl d_Se_laterChoice_30 ?_
  refine lv_iload_n hx hb d_Se_laterChoice_33 rfl (lv_at hl 3 rfl) ?_
  obtain ⟨v10, σ11, hc12, h⟩ := k_call_e h
  refine k_calli (va_runV (As := [.int x1]) (rest := [.ref (a 1)]) ⟨hx, hb, hml, hown, hts⟩ (K_Pl_treeAt l D a c9 H.size hc12) (cwV 1 hts (k_gV q_477 q_478 q_479 q_4 q_480) rfl rfl rfl h_Pl_treeAt ⟨Nat.le_of_ble_eq_true rfl, Nat.le_of_ble_eq_true rfl⟩) (k_preV (ci := 5) (q0 := 3) rfl kw_3 hP hK hN hD) rfl rfl hl.1 rfl (lv_room (Nat.le_of_ble_eq_true rfl)) d_Se_laterChoice_34 ⟨Nat.zero_le _, Nat.zero_le _⟩) hD hS hA (fun H locs hP hD hS => ?_)
  obtain ⟨v13, σ14, hc15, h⟩ := k_call_e h
  refine k_calli (va_runV (As := [.int v10]) (rest := []) ⟨hx, hb, hml, hown, hts⟩ (K_F_takesSeveral l D a c9 H.size hc15) (cwV 1 hts (k_gV q_510 q_511 q_512 q_2 q_513) rfl rfl rfl h_F_takesSeveral ⟨Nat.le_of_ble_eq_true rfl, Nat.le_of_ble_eq_true rfl⟩) (k_preV (ci := 2) (q0 := 1) rfl kw_1 hP hK hN hD) rfl rfl hl.1 rfl (lv_room (Nat.le_of_ble_eq_true rfl)) d_Se_laterChoice_37 ⟨Nat.zero_le _, Nat.zero_le _⟩) hD hS hA (fun H locs hP hD hS => ?_)
  refine lv_if_eq (tgt := 86) hx hb d_Se_laterChoice_40 (by decide) (fun c16 => ?_) (fun c16 => ?_)
  · replace h := (if_pos c16).symm.trans h
    refine lv_iload_n hx hb d_Se_laterChoice_86 rfl (lv_at hl 0 rfl) ?_
    refine lv_if_eq (tgt := 112) hx hb d_Se_laterChoice_87 (by decide) (fun c17 => ?_) (fun c17 => ?_)
    · replace h := (if_pos c17).symm.trans h
      refine lv_iconst (v := (-1)) hx hb d_Se_laterChoice_112 (by decide) ?_
      cases h
      exact k_iret hx hb hr hlk hP hS d_Se_laterChoice_113
    · replace h := (if_neg c17).symm.trans h
      refine lv_aload_n hx hb d_Se_laterChoice_90 rfl (lv_at hl 2 rfl) ?_
      refine va_get (ci := 6) (C := R_Se) (T := T_Se) (N := 13) hx hb hts in_Se hown hK hP 2 kw_2 rfl 6 (by decide) (hts _ q_140) (fun _ h9 => h9) rfl d_Se_laterChoice_91 ?_
      refine lv_iload_n hx hb d_Se_laterChoice_94 rfl (lv_at hl 1 rfl) ?_
      obtain ⟨v18, ev18, hv18, h⟩ := k_ld_e h
      refine va_iald hx hb hK hP 23 0 kw_23 rfl hv18 d_Se_laterChoice_95 (k_top ev18 ?_)
      refine lv_aload_n hx hb d_Se_laterChoice_96 rfl (lv_at hl 2 rfl) ?_
      refine va_get (ci := 6) (C := R_Se) (T := T_Se) (N := 13) hx hb hts in_Se hown hK hP 2 kw_2 rfl 4 (by decide) (hts _ q_138) (fun _ h9 => h9) rfl d_Se_laterChoice_97 ?_
      refine lv_iload_n hx hb d_Se_laterChoice_100 rfl (lv_at hl 3 rfl) ?_
      obtain ⟨v19, ev19, hv19, h⟩ := k_ld_e h
      refine va_iald hx hb hK hP 21 0 kw_21 rfl hv19 d_Se_laterChoice_101 (k_top ev19 ?_)
      obtain ⟨v20, σ21, hc22, h⟩ := k_call_e h
      refine k_calli (va_runS (As := [.int v18, .int v19]) (rest := []) ⟨hx, hb, hml, hown, hts⟩ (K_Pc_behind l D a c9 H.size hc22) (va_cwS 2 hts (k_gS q_528 q_519 q_16 q_520) rfl rfl rfl h_Pc_behind.2 ⟨Nat.le_of_ble_eq_true rfl, Nat.le_of_ble_eq_true rfl⟩) (k_preS hP hK hN hD) rfl rfl hl.1 rfl (lv_room (Nat.le_of_ble_eq_true rfl)) d_Se_laterChoice_102 ⟨Nat.zero_le _, Nat.zero_le _⟩) hD hS hA (fun H locs hP hD hS => ?_)
      refine lv_iconst (v := 1) hx hb d_Se_laterChoice_105 (by decide) ?_
      obtain ⟨v23, σ24, hc25, h⟩ := k_call_e h
      refine k_calli (va_runS (As := [.int v20, .int 1]) (rest := []) ⟨hx, hb, hml, hown, hts⟩ (K_Pc_lowest l D a c9 H.size hc25) (va_cwS 2 hts (k_gS q_502 q_503 q_16 q_504) rfl rfl rfl h_Pc_lowest.2 ⟨Nat.le_of_ble_eq_true rfl, Nat.le_of_ble_eq_true rfl⟩) (k_preS hP hK hN hD) rfl rfl hl.1 rfl (lv_room (Nat.le_of_ble_eq_true rfl)) d_Se_laterChoice_106 ⟨Nat.zero_le _, Nat.zero_le _⟩) hD hS hA (fun H locs hP hD hS => ?_)
      refine lv_goto (tgt := 113) hx hb d_Se_laterChoice_109 (by decide) ?_
      cases h
      exact k_iret hx hb hr hlk hP hS d_Se_laterChoice_113
  · replace h := (if_neg c16).symm.trans h
    refine lv_iload_n hx hb d_Se_laterChoice_43 rfl (lv_at hl 0 rfl) ?_
    refine lv_if_eq (tgt := 65) hx hb d_Se_laterChoice_44 (by decide) (fun c26 => ?_) (fun c26 => ?_)
    · replace h := (if_pos c26).symm.trans h
      refine lv_aload_n hx hb d_Se_laterChoice_65 rfl (lv_at hl 2 rfl) ?_
      refine va_get (ci := 6) (C := R_Se) (T := T_Se) (N := 13) hx hb hts in_Se hown hK hP 2 kw_2 rfl 6 (by decide) (hts _ q_140) (fun _ h9 => h9) rfl d_Se_laterChoice_66 ?_
      refine lv_iload_n hx hb d_Se_laterChoice_69 rfl (lv_at hl 1 rfl) ?_
      obtain ⟨v27, ev27, hv27, h⟩ := k_ld_e h
      refine va_iald hx hb hK hP 23 0 kw_23 rfl hv27 d_Se_laterChoice_70 (k_top ev27 ?_)
      refine lv_aload_n hx hb d_Se_laterChoice_71 rfl (lv_at hl 2 rfl) ?_
      refine va_get (ci := 6) (C := R_Se) (T := T_Se) (N := 13) hx hb hts in_Se hown hK hP 2 kw_2 rfl 4 (by decide) (hts _ q_138) (fun _ h9 => h9) rfl d_Se_laterChoice_72 ?_
      refine lv_iload_n hx hb d_Se_laterChoice_75 rfl (lv_at hl 3 rfl) ?_
      obtain ⟨v28, ev28, hv28, h⟩ := k_ld_e h
      refine va_iald hx hb hK hP 21 0 kw_21 rfl hv28 d_Se_laterChoice_76 (k_top ev28 ?_)
      obtain ⟨v29, σ30, hc31, h⟩ := k_call_e h
      refine k_calli (va_runS (As := [.int v28]) (rest := [.int v27]) ⟨hx, hb, hml, hown, hts⟩ (K_In_bitCount l D a c9 H.size hc31) (va_cwS 1 hts (k_gS q_522 q_523 q_17 q_524) rfl rfl rfl h_In_bitCount.2 ⟨Nat.le_of_ble_eq_true rfl, Nat.le_of_ble_eq_true rfl⟩) (k_preS hP hK hN hD) rfl rfl hl.1 rfl (lv_room (Nat.le_of_ble_eq_true rfl)) d_Se_laterChoice_77 ⟨Nat.zero_le _, Nat.zero_le _⟩) hD hS hA (fun H locs hP hD hS => ?_)
      refine lv_iconst (v := 1) hx hb d_Se_laterChoice_80 (by decide) ?_
      refine lv_iadd hx hb d_Se_laterChoice_81 ?_
      obtain ⟨v32, σ33, hc34, h⟩ := k_call_e h
      refine k_calli (va_runS (As := [.int v27, .int ((v29 + 1))]) (rest := []) ⟨hx, hb, hml, hown, hts⟩ (K_Pc_lowest l D a c9 H.size hc34) (va_cwS 2 hts (k_gS q_502 q_503 q_16 q_504) rfl rfl rfl h_Pc_lowest.2 ⟨Nat.le_of_ble_eq_true rfl, Nat.le_of_ble_eq_true rfl⟩) (k_preS hP hK hN hD) rfl rfl hl.1 rfl (lv_room (Nat.le_of_ble_eq_true rfl)) d_Se_laterChoice_82 ⟨Nat.zero_le _, Nat.zero_le _⟩) hD hS hA (fun H locs hP hD hS => ?_)
      cases h
      exact k_iret hx hb hr hlk hP hS d_Se_laterChoice_85
    · replace h := (if_neg c26).symm.trans h
      refine lv_aload_n hx hb d_Se_laterChoice_47 rfl (lv_at hl 2 rfl) ?_
      refine va_get (ci := 6) (C := R_Se) (T := T_Se) (N := 13) hx hb hts in_Se hown hK hP 2 kw_2 rfl 6 (by decide) (hts _ q_140) (fun _ h9 => h9) rfl d_Se_laterChoice_48 ?_
      refine lv_iload_n hx hb d_Se_laterChoice_51 rfl (lv_at hl 1 rfl) ?_
      obtain ⟨v35, ev35, hv35, h⟩ := k_ld_e h
      refine va_iald hx hb hK hP 23 0 kw_23 rfl hv35 d_Se_laterChoice_52 (k_top ev35 ?_)
      refine lv_aload_n hx hb d_Se_laterChoice_53 rfl (lv_at hl 2 rfl) ?_
      refine va_get (ci := 6) (C := R_Se) (T := T_Se) (N := 13) hx hb hts in_Se hown hK hP 2 kw_2 rfl 4 (by decide) (hts _ q_138) (fun _ h9 => h9) rfl d_Se_laterChoice_54 ?_
      refine lv_iload_n hx hb d_Se_laterChoice_57 rfl (lv_at hl 3 rfl) ?_
      obtain ⟨v36, ev36, hv36, h⟩ := k_ld_e h
      refine va_iald hx hb hK hP 21 0 kw_21 rfl hv36 d_Se_laterChoice_58 (k_top ev36 ?_)
      obtain ⟨v37, σ38, hc39, h⟩ := k_call_e h
      refine k_calli (va_runS (As := [.int v35, .int v36]) (rest := []) ⟨hx, hb, hml, hown, hts⟩ (K_Pc_nextChoice l D a c9 H.size hc39) (va_cwS 2 hts (k_gS q_515 q_516 q_16 q_517) rfl rfl rfl h_Pc_nextChoice.2 ⟨Nat.le_of_ble_eq_true rfl, Nat.le_of_ble_eq_true rfl⟩) (k_preS hP hK hN hD) rfl rfl hl.1 rfl (lv_room (Nat.le_of_ble_eq_true rfl)) d_Se_laterChoice_59 ⟨Nat.zero_le _, Nat.zero_le _⟩) hD hS hA (fun H locs hP hD hS => ?_)
      refine lv_goto (tgt := 85) hx hb d_Se_laterChoice_62 (by decide) ?_
      cases h
      exact k_iret hx hb hr hlk hP hS d_Se_laterChoice_85
theorem K_Se_laterChoice (l : Launch) (D : va_G) (a : Nat → Nat) (c9 : Nat → ClassId) (sz : Nat) {σ : kS} {x1 : Int32} {r9 : Int32} {σo : kS} (h : M_Se_laterChoice σ x1 = some (r9, σo)) : Met l y_Se_laterChoice (Cond.code y_Se_laterChoice c_Se_laterChoice 4 (some .int) :: kG) rm_Se_laterChoice (k_Pc D a c9 sz σ [.ref (a 2), .int x1]) (k_Qi D a c9 r9 σo (k_A a c9 σ sz)) 0 0 (k_A a c9 σ sz) :=
  k_met (Qf := k_Qi D a c9 r9 σo) (by decide) (Nat.le_of_ble_eq_true rfl) (fun p e s m args below meth c A ls C0 hP hD hS hl => B_Se_laterChoice_0 C0 σ x1 s.heap [] ls hP hD hS hl h)
def rm_Se_choose : Room := { frames := 3, cells := 0, slots := 0, locals := 73 }
def M_Se_choose_19 (σ : kS) (x1 y0 : Int32) : Option (Int32 × kS) := if y0 = 0 then (k_st σ 14 70 (0) ((-1)) fun σ2 => k_z (y0) (some (y0, σ2))) else (k_st σ 14 70 (0) (1) fun σ3 => k_z (y0) (some (y0, σ3)))
set_option maxHeartbeats 4000000 in
set_option maxRecDepth 100000 in
theorem B_Se_choose_19 {p : Program} {l : Launch} {e : Env} {s : State} {m : MethodId} {args : Array Value} {below : List Frame} {meth : Method} {c : Code} {D : va_G} {a : Nat → Nat} {c9 : Nat → ClassId} {A : Nat → Prop} {r9 : Int32} {σo : kS} (C0 : k_Cx D c9 p s m args meth c R_Se c_Se_choose 3 (some .boolean) A) (σ : kS) (x1 y0 : Int32) (H : Heap) (locs : List Loc) (ls : Array Slot) (hP : va_P D kcl (kw a c9 σ) H) (hD : va_D A (kw a c9 σ)) (hS : va_S A s.heap H locs) (hl : lv_has ls 3 [(0, .ref (a 2)), (1, .int x1)]) (h : M_Se_choose_19 σ x1 y0 = some (r9, σo)) : W p l e rm_Se_choose s m args below meth c H locs 0 0 (MQ below (k_Qi D a c9 r9 σo A) args s 0 0 A) (F0 m 19 ls [.int y0]) := by
  obtain ⟨hx, hb, hml, hown, hts, hr, hlk, hK, hN, hA⟩ := id C0
  unfold M_Se_choose_19 at h
  refine lv_istore_n (lv' := [(2, .int y0), (0, .ref (a 2)), (1, .int x1)]) hx hb d_Se_choose_19 rfl hl (by decide) rfl (fun ls hl => ?_)
  refine lv_aload_n hx hb d_Se_choose_20 rfl (lv_at hl 1 rfl) ?_
  refine va_get (ci := 6) (C := R_Se) (T := T_Se) (N := 13) hx hb hts in_Se hown hK hP 2 kw_2 rfl 4 (by decide) (hts _ q_138) (fun _ h9 => h9) rfl d_Se_choose_21 ?_
  refine lv_iconst (v := 0) hx hb d_Se_choose_24 (by decide) ?_
  refine lv_iload_n hx hb d_Se_choose_25 rfl (lv_at hl 0 rfl) ?_
  refine lv_if_eq (tgt := 33) hx hb d_Se_choose_26 (by decide) (fun c1 => ?_) (fun c1 => ?_)
  · replace h := (if_pos c1).symm.trans h
    refine lv_iconst (v := (-1)) hx hb d_Se_choose_33 (by decide) ?_
    obtain ⟨σ2, eσ2, hiσ2, h⟩ := k_st_e h
    refine va_iast hx hb hK hP hD hS 21 0 kw_21 rfl hiσ2 d_Se_choose_34 (fun H locs hP hD hS => ?_)
    replace hP := k_mvP (kw_s21.trans (congrArg _ eσ2.symm)) hP
    replace hD := k_mvD (kw_s21.trans (congrArg _ eσ2.symm)) hD
    refine lv_iload_n hx hb d_Se_choose_35 rfl (lv_at hl 0 rfl) ?_
    obtain ⟨hz, h⟩ := k_z_e h
    cases h
    exact k_zret hz hx hb hr hlk hP hS d_Se_choose_36
  · replace h := (if_neg c1).symm.trans h
    refine lv_iconst (v := 1) hx hb d_Se_choose_29 (by decide) ?_
    refine lv_goto (tgt := 34) hx hb d_Se_choose_30 (by decide) ?_
    obtain ⟨σ3, eσ3, hiσ3, h⟩ := k_st_e h
    refine va_iast hx hb hK hP hD hS 21 0 kw_21 rfl hiσ3 d_Se_choose_34 (fun H locs hP hD hS => ?_)
    replace hP := k_mvP (kw_s21.trans (congrArg _ eσ3.symm)) hP
    replace hD := k_mvD (kw_s21.trans (congrArg _ eσ3.symm)) hD
    refine lv_iload_n hx hb d_Se_choose_35 rfl (lv_at hl 0 rfl) ?_
    obtain ⟨hz, h⟩ := k_z_e h
    cases h
    exact k_zret hz hx hb hr hlk hP hS d_Se_choose_36
def M_Se_choose_60 (σ : kS) (x1 y0 : Int32) : Option (Int32 × kS) := k_st σ 14 70 (x1) (y0) fun σ1 => if y0 = (-1) then (some (0, σ1)) else (k_call (M_Pl_parentOf σ1 x1) fun v3 σ4 => k_ld (σ4.2.1 16) 70 (v3) fun v6 => k_st σ4 16 70 (v3) ((v6 &&& (y0 ^^^ (-1)))) fun σ7 => some (1, σ7))
set_option maxHeartbeats 4000000 in
set_option maxRecDepth 100000 in
theorem B_Se_choose_60 {p : Program} {l : Launch} {e : Env} {s : State} {m : MethodId} {args : Array Value} {below : List Frame} {meth : Method} {c : Code} {D : va_G} {a : Nat → Nat} {c9 : Nat → ClassId} {A : Nat → Prop} {r9 : Int32} {σo : kS} (C0 : k_Cx D c9 p s m args meth c R_Se c_Se_choose 3 (some .boolean) A) (σ : kS) (x1 y0 : Int32) (H : Heap) (locs : List Loc) (ls : Array Slot) (hP : va_P D kcl (kw a c9 σ) H) (hD : va_D A (kw a c9 σ)) (hS : va_S A s.heap H locs) (hl : lv_has ls 3 [(0, .ref (a 2)), (1, .int x1)]) (h : M_Se_choose_60 σ x1 y0 = some (r9, σo)) : W p l e rm_Se_choose s m args below meth c H locs 0 0 (MQ below (k_Qi D a c9 r9 σo A) args s 0 0 A) (F0 m 60 ls [.int y0]) := by
  obtain ⟨hx, hb, hml, hown, hts, hr, hlk, hK, hN, hA⟩ := id C0
  unfold M_Se_choose_60 at h
  refine lv_istore_n (lv' := [(2, .int y0), (0, .ref (a 2)), (1, .int x1)]) hx hb d_Se_choose_60 rfl hl (by decide) rfl (fun ls hl => ?_)
  refine lv_aload_n hx hb d_Se_choose_61 rfl (lv_at hl 1 rfl) ?_
  refine va_get (ci := 6) (C := R_Se) (T := T_Se) (N := 13) hx hb hts in_Se hown hK hP 2 kw_2 rfl 4 (by decide) (hts _ q_138) (fun _ h9 => h9) rfl d_Se_choose_62 ?_
  refine lv_iload_n hx hb d_Se_choose_65 rfl (lv_at hl 2 rfl) ?_
  refine lv_iload_n hx hb d_Se_choose_66 rfl (lv_at hl 0 rfl) ?_
  obtain ⟨σ1, eσ1, hiσ1, h⟩ := k_st_e h
  refine va_iast hx hb hK hP hD hS 21 0 kw_21 rfl hiσ1 d_Se_choose_67 (fun H locs hP hD hS => ?_)
  replace hP := k_mvP (kw_s21.trans (congrArg _ eσ1.symm)) hP
  replace hD := k_mvD (kw_s21.trans (congrArg _ eσ1.symm)) hD
  refine lv_iload_n hx hb d_Se_choose_68 rfl (lv_at hl 0 rfl) ?_
  refine lv_iconst (v := (-1)) hx hb d_Se_choose_69 (by decide) ?_
  refine lv_icmp_ne (tgt := 75) hx hb d_Se_choose_70 (by decide) (fun c2 => ?_) (fun c2 => ?_)
  · replace h := (if_neg c2).symm.trans h
    refine lv_aload_n hx hb d_Se_choose_75 rfl (lv_at hl 1 rfl) ?_
    refine va_get (ci := 6) (C := R_Se) (T := T_Se) (N := 13) hx hb hts in_Se hown hK hP 2 kw_2 rfl 6 (by decide) (hts _ q_140) (fun _ h9 => h9) rfl d_Se_choose_76 ?_
    refine lv_aload_n hx hb d_Se_choose_79 rfl (lv_at hl 1 rfl) ?_
    refine va_get (ci := 6) (C := R_Se) (T := T_Se) (N := 13) hx hb hts in_Se hown hK hP 2 kw_2 rfl 1 (by decide) (hts _ q_135) (fun _ h9 => h9) rfl d_Se_choose_80 ?_
    refine lv_iload_n hx hb d_Se_choose_83 rfl (lv_at hl 2 rfl) ?_
    obtain ⟨v3, σ4, hc5, h⟩ := k_call_e h
    refine k_calli (va_runV (As := [.int x1]) (rest := [.ref (a 23)]) ⟨hx, hb, hml, hown, hts⟩ (K_Pl_parentOf l D a c9 H.size hc5) (cwV 1 hts (k_gV q_473 q_474 q_475 q_4 q_476) rfl rfl rfl h_Pl_parentOf ⟨Nat.le_of_ble_eq_true rfl, Nat.le_of_ble_eq_true rfl⟩) (k_preV (ci := 5) (q0 := 3) rfl kw_3 hP hK hN hD) rfl rfl hl.1 rfl (lv_room (Nat.le_of_ble_eq_true rfl)) d_Se_choose_84 ⟨Nat.zero_le _, Nat.zero_le _⟩) hD hS hA (fun H locs hP hD hS => ?_)
    refine lv_dup2_11 hx hb d_Se_choose_87 rfl rfl ?_
    obtain ⟨v6, ev6, hv6, h⟩ := k_ld_e h
    refine va_iald hx hb hK hP 23 0 kw_23 rfl hv6 d_Se_choose_88 (k_top ev6 ?_)
    refine lv_iload_n hx hb d_Se_choose_89 rfl (lv_at hl 0 rfl) ?_
    refine lv_iconst (v := (-1)) hx hb d_Se_choose_90 (by decide) ?_
    refine lv_ixor hx hb d_Se_choose_91 ?_
    refine lv_iand hx hb d_Se_choose_92 ?_
    obtain ⟨σ7, eσ7, hiσ7, h⟩ := k_st_e h
    refine va_iast hx hb hK hP hD hS 23 0 kw_23 rfl hiσ7 d_Se_choose_93 (fun H locs hP hD hS => ?_)
    replace hP := k_mvP (kw_s23.trans (congrArg _ eσ7.symm)) hP
    replace hD := k_mvD (kw_s23.trans (congrArg _ eσ7.symm)) hD
    refine lv_iconst (v := 1) hx hb d_Se_choose_94 (by decide) ?_
    cases h
    exact k_zret (Or.inr rfl) hx hb hr hlk hP hS d_Se_choose_95
  · replace h := (if_pos c2).symm.trans h
    refine lv_iconst (v := 0) hx hb d_Se_choose_73 (by decide) ?_
    cases h
    exact k_zret (Or.inl rfl) hx hb hr hlk hP hS d_Se_choose_74
def M_Se_choose (σ : kS) (x1 : Int32) : Option (Int32 × kS) := if x1 = 0 then (k_ld (σ.2.1 14) 70 (0) fun v10 => if v10 = (-1) then (M_Se_choose_19 σ x1 1) else (M_Se_choose_19 σ x1 0)) else (k_ld (σ.2.1 14) 70 (x1) fun v2 => if v2 = (-1) then (k_call (M_Se_firstChoice σ x1) fun v7 σ8 => M_Se_choose_60 σ8 x1 v7) else (k_call (M_Se_laterChoice σ x1) fun v4 σ5 => M_Se_choose_60 σ5 x1 v4))
set_option maxHeartbeats 4000000 in
set_option maxRecDepth 100000 in
theorem B_Se_choose_0 {p : Program} {l : Launch} {e : Env} {s : State} {m : MethodId} {args : Array Value} {below : List Frame} {meth : Method} {c : Code} {D : va_G} {a : Nat → Nat} {c9 : Nat → ClassId} {A : Nat → Prop} {r9 : Int32} {σo : kS} (C0 : k_Cx D c9 p s m args meth c R_Se c_Se_choose 3 (some .boolean) A) (σ : kS) (x1 : Int32) (H : Heap) (locs : List Loc) (ls : Array Slot) (hP : va_P D kcl (kw a c9 σ) H) (hD : va_D A (kw a c9 σ)) (hS : va_S A s.heap H locs) (hl : lv_has ls 3 [(0, .ref (a 2)), (1, .int x1)]) (h : M_Se_choose σ x1 = some (r9, σo)) : W p l e rm_Se_choose s m args below meth c H locs 0 0 (MQ below (k_Qi D a c9 r9 σo A) args s 0 0 A) (F0 m 0 ls []) := by
  obtain ⟨hx, hb, hml, hown, hts, hr, hlk, hK, hN, hA⟩ := id C0
  unfold M_Se_choose at h
  refine lv_iload_n hx hb d_Se_choose_0 rfl (lv_at hl 1 rfl) ?_
  refine lv_if_ne (tgt := 37) hx hb d_Se_choose_1 (by decide) (fun c1 => ?_) (fun c1 => ?_)
  · replace h := (if_neg c1).symm.trans h
    refine lv_aload_n hx hb d_Se_choose_37 rfl (lv_at hl 0 rfl) ?_
    refine va_get (ci := 6) (C := R_Se) (T := T_Se) (N := 13) hx hb hts in_Se hown hK hP 2 kw_2 rfl 4 (by decide) (hts _ q_138) (fun _ h9 => h9) rfl d_Se_choose_38 ?_
    refine lv_iload_n hx hb d_Se_choose_41 rfl (lv_at hl 1 rfl) ?_
    obtain ⟨v2, ev2, hv2, h⟩ := k_ld_e h
    refine va_iald hx hb hK hP 21 0 kw_21 rfl hv2 d_Se_choose_42 (k_top ev2 ?_)
    refine lv_iconst (v := (-1)) hx hb d_Se_choose_43 (by decide) ?_
    refine lv_icmp_ne (tgt := 55) hx hb d_Se_choose_44 (by decide) (fun c3 => ?_) (fun c3 => ?_)
    · replace h := (if_neg c3).symm.trans h
      refine lv_aload_n hx hb d_Se_choose_55 rfl (lv_at hl 0 rfl) ?_
      refine lv_iload_n hx hb d_Se_choose_56 rfl (lv_at hl 1 rfl) ?_
      obtain ⟨v4, σ5, hc6, h⟩ := k_call_e h
      refine k_calli (va_runV (As := [.int x1]) (rest := []) ⟨hx, hb, hml, hown, hts⟩ (K_Se_laterChoice l D a c9 H.size hc6) (cwV 1 hts (k_gV q_505 q_507 s_8 q_3 q_508) rfl rfl rfl h_Se_laterChoice ⟨Nat.le_of_ble_eq_true rfl, Nat.le_of_ble_eq_true rfl⟩) (k_preV (ci := 6) (q0 := 2) rfl kw_2 hP hK hN hD) rfl rfl hl.1 rfl (lv_room (Nat.le_of_ble_eq_true rfl)) d_Se_choose_57 ⟨Nat.zero_le _, Nat.zero_le _⟩) hD hS hA (fun H locs hP hD hS => ?_)
      exact B_Se_choose_60 C0 _ _ _ H locs ls hP hD hS (lv_sub hl [0, 1] rfl) h
    · replace h := (if_pos c3).symm.trans h
      refine lv_aload_n hx hb d_Se_choose_47 rfl (lv_at hl 0 rfl) ?_
      refine lv_iload_n hx hb d_Se_choose_48 rfl (lv_at hl 1 rfl) ?_
      obtain ⟨v7, σ8, hc9, h⟩ := k_call_e h
      refine k_calli (va_runV (As := [.int x1]) (rest := []) ⟨hx, hb, hml, hown, hts⟩ (K_Se_firstChoice l D a c9 H.size hc9) (cwV 1 hts (k_gV q_494 q_496 s_7 q_3 q_497) rfl rfl rfl h_Se_firstChoice ⟨Nat.le_of_ble_eq_true rfl, Nat.le_of_ble_eq_true rfl⟩) (k_preV (ci := 6) (q0 := 2) rfl kw_2 hP hK hN hD) rfl rfl hl.1 rfl (lv_room (Nat.le_of_ble_eq_true rfl)) d_Se_choose_49 ⟨Nat.zero_le _, Nat.zero_le _⟩) hD hS hA (fun H locs hP hD hS => ?_)
      refine lv_goto (tgt := 60) hx hb d_Se_choose_52 (by decide) ?_
      exact B_Se_choose_60 C0 _ _ _ H locs ls hP hD hS (lv_sub hl [0, 1] rfl) h
  · replace h := (if_pos c1).symm.trans h
    refine lv_aload_n hx hb d_Se_choose_4 rfl (lv_at hl 0 rfl) ?_
    refine va_get (ci := 6) (C := R_Se) (T := T_Se) (N := 13) hx hb hts in_Se hown hK hP 2 kw_2 rfl 4 (by decide) (hts _ q_138) (fun _ h9 => h9) rfl d_Se_choose_5 ?_
    refine lv_iconst (v := 0) hx hb d_Se_choose_8 (by decide) ?_
    obtain ⟨v10, ev10, hv10, h⟩ := k_ld_e h
    refine va_iald hx hb hK hP 21 0 kw_21 rfl hv10 d_Se_choose_9 (k_top ev10 ?_)
    refine lv_iconst (v := (-1)) hx hb d_Se_choose_10 (by decide) ?_
    refine lv_icmp_ne (tgt := 18) hx hb d_Se_choose_11 (by decide) (fun c11 => ?_) (fun c11 => ?_)
    · replace h := (if_neg c11).symm.trans h
      refine lv_iconst (v := 0) hx hb d_Se_choose_18 (by decide) ?_
      exact B_Se_choose_19 C0 _ _ _ H locs ls hP hD hS (lv_sub hl [0, 1] rfl) h
    · replace h := (if_pos c11).symm.trans h
      refine lv_iconst (v := 1) hx hb d_Se_choose_14 (by decide) ?_
      refine lv_goto (tgt := 19) hx hb d_Se_choose_15 (by decide) ?_
      exact B_Se_choose_19 C0 _ _ _ H locs ls hP hD hS (lv_sub hl [0, 1] rfl) h
theorem K_Se_choose (l : Launch) (D : va_G) (a : Nat → Nat) (c9 : Nat → ClassId) (sz : Nat) {σ : kS} {x1 : Int32} {r9 : Int32} {σo : kS} (h : M_Se_choose σ x1 = some (r9, σo)) : Met l y_Se_choose (Cond.code y_Se_choose c_Se_choose 3 (some .boolean) :: kG) rm_Se_choose (k_Pc D a c9 sz σ [.ref (a 2), .int x1]) (k_Qi D a c9 r9 σo (k_A a c9 σ sz)) 0 0 (k_A a c9 σ sz) :=
  k_met (Qf := k_Qi D a c9 r9 σo) (by decide) (Nat.le_of_ble_eq_true rfl) (fun p e s m args below meth c A ls C0 hP hD hS hl => B_Se_choose_0 C0 σ x1 s.heap [] ls hP hD hS hl h)
def rm_Se_gatherRow : Room := { frames := 1, cells := 0, slots := 0, locals := 22 }
def M_Se_gatherRow_41_b (self9 : kS → Int32 → Int32 → Int32 → Option (Int32 × kS)) (σ : kS) (x1 x2 x3 : Int32) : Option (Int32 × kS) := k_call (M_F_partCount σ x2) fun v1 σ2 => if v1 ≤ x3 then (some (0, σ2)) else (k_ld (σ2.2.1 14) 70 (x1) fun v5 => if (v5 &&& (1 <<< (x3 &&& 31))) = 0 then (k_let (x3 + 1) fun v7 => self9 σ2 x1 x2 v7) else (k_call (M_F_partAt σ2 x2 x3) fun v8 σ9 => k_st σ9 17 12 (σ2.1 3) (v8) fun σ11 => k_set σ11 3 ((σ11.1 3 + 1)) fun σ12 => k_let (x3 + 1) fun v13 => self9 σ12 x1 x2 v13))
def M_Se_gatherRow_41 : Nat → kS → Int32 → Int32 → Int32 → Option (Int32 × kS)
  | 0 => fun _ _ _ _ => none
  | n + 1 => M_Se_gatherRow_41_b (M_Se_gatherRow_41 n)
set_option maxHeartbeats 4000000 in
set_option maxRecDepth 100000 in
theorem B_Se_gatherRow_41 {p : Program} {l : Launch} {e : Env} {s : State} {m : MethodId} {args : Array Value} {below : List Frame} {meth : Method} {c : Code} {D : va_G} {a : Nat → Nat} {c9 : Nat → ClassId} {A : Nat → Prop} {r9 : Int32} {σo : kS} (C0 : k_Cx D c9 p s m args meth c R_Se c_Se_gatherRow 4 none A) : ∀ (n : Nat) (σ : kS) (x1 x2 x3 : Int32) (H : Heap) (locs : List Loc) (ls : Array Slot), va_P D kcl (kw a c9 σ) H → va_D A (kw a c9 σ) → va_S A s.heap H locs → lv_has ls 4 [(0, .ref (a 2)), (1, .int x1), (2, .int x2), (3, .int x3)] → M_Se_gatherRow_41 n σ x1 x2 x3 = some (r9, σo) → W p l e rm_Se_gatherRow s m args below meth c H locs 0 0 (MQ below (k_Qv D a c9 σo A) args s 0 0 A) (F0 m 41 ls []) := by
  obtain ⟨hx, hb, hml, hown, hts, hr, hlk, hK, hN, hA⟩ := id C0
  intro n
  induction n with
  | zero =>
    intro σ x1 x2 x3 H locs ls hP hD hS hl h
    replace h : (none : Option (Int32 × kS)) = some (r9, σo) := h
    cases h
  | succ n ih =>
    intro σ x1 x2 x3 H locs ls hP hD hS hl h
    replace h : M_Se_gatherRow_41_b (M_Se_gatherRow_41 n) σ x1 x2 x3 = some (r9, σo) := h
    unfold M_Se_gatherRow_41_b at h
    refine lv_iload_n hx hb d_Se_gatherRow_41 rfl (lv_at hl 3 rfl) ?_
    refine lv_aload_n hx hb d_Se_gatherRow_42 rfl (lv_at hl 0 rfl) ?_
    refine va_get (ci := 6) (C := R_Se) (T := T_Se) (N := 13) hx hb hts in_Se hown hK hP 2 kw_2 rfl 0 (by decide) (hts _ q_134) (fun _ h9 => h9) rfl d_Se_gatherRow_43 ?_
    refine lv_iload_n hx hb d_Se_gatherRow_46 rfl (lv_at hl 2 rfl) ?_
    obtain ⟨v1, σ2, hc3, h⟩ := k_call_e h
    refine k_calli (va_runV (As := [.int x2]) (rest := [.int x3]) ⟨hx, hb, hml, hown, hts⟩ (K_F_partCount l D a c9 H.size hc3) (cwV 1 hts (k_gV q_537 q_465 q_466 q_2 q_467) rfl rfl rfl h_F_partCount ⟨Nat.le_of_ble_eq_true rfl, Nat.le_of_ble_eq_true rfl⟩) (k_preV (ci := 2) (q0 := 1) rfl kw_1 hP hK hN hD) rfl rfl hl.1 rfl (lv_room (Nat.le_of_ble_eq_true rfl)) d_Se_gatherRow_47 ⟨Nat.zero_le _, Nat.zero_le _⟩) hD hS hA (fun H locs hP hD hS => ?_)
    refine lv_icmp_ge (tgt := 100) hx hb d_Se_gatherRow_50 (by decide) (fun c4 => ?_) (fun c4 => ?_)
    · replace h := (if_pos c4).symm.trans h
      cases h
      exact k_vret hx hb hr hlk hP hS d_Se_gatherRow_100
    · replace h := (if_neg c4).symm.trans h
      refine lv_aload_n hx hb d_Se_gatherRow_53 rfl (lv_at hl 0 rfl) ?_
      refine va_get (ci := 6) (C := R_Se) (T := T_Se) (N := 13) hx hb hts in_Se hown hK hP 2 kw_2 rfl 4 (by decide) (hts _ q_138) (fun _ h9 => h9) rfl d_Se_gatherRow_54 ?_
      refine lv_iload_n hx hb d_Se_gatherRow_57 rfl (lv_at hl 1 rfl) ?_
      obtain ⟨v5, ev5, hv5, h⟩ := k_ld_e h
      refine va_iald hx hb hK hP 21 0 kw_21 rfl hv5 d_Se_gatherRow_58 (k_top ev5 ?_)
      refine lv_iconst (v := 1) hx hb d_Se_gatherRow_59 (by decide) ?_
      refine lv_iload_n hx hb d_Se_gatherRow_60 rfl (lv_at hl 3 rfl) ?_
      refine lv_ishl hx hb d_Se_gatherRow_61 ?_
      refine lv_iand hx hb d_Se_gatherRow_62 ?_
      refine lv_if_eq (tgt := 94) hx hb d_Se_gatherRow_63 (by decide) (fun c6 => ?_) (fun c6 => ?_)
      · replace h := (if_pos c6).symm.trans h
        obtain ⟨v7, ev7, h⟩ := k_let_e h
        refine lv_iinc (v := v7) (lv' := [(3, .int v7), (0, .ref (a 2)), (1, .int x1), (2, .int x2)]) hx hb d_Se_gatherRow_94 hl (k := 3) rfl (by rw [ev7]; rfl) (by decide) rfl (fun ls hl => ?_)
        refine lv_goto (tgt := 41) hx hb d_Se_gatherRow_97 (by decide) ?_
        exact ih _ _ _ _ H locs ls hP hD hS (lv_sub hl [1, 2, 3, 0] rfl) h
      · replace h := (if_neg c6).symm.trans h
        refine lv_aload_n hx hb d_Se_gatherRow_66 rfl (lv_at hl 0 rfl) ?_
        refine va_get (ci := 6) (C := R_Se) (T := T_Se) (N := 13) hx hb hts in_Se hown hK hP 2 kw_2 rfl 7 (by decide) (hts _ q_141) (fun _ h9 => h9) rfl d_Se_gatherRow_67 ?_
        refine lv_aload_n hx hb d_Se_gatherRow_70 rfl (lv_at hl 0 rfl) ?_
        refine va_get (ci := 6) (C := R_Se) (T := T_Se) (N := 13) hx hb hts in_Se hown hK hP 2 kw_2 rfl 8 (by decide) (hts _ q_142) (fun _ h9 => h9) rfl d_Se_gatherRow_71 ?_
        refine lv_aload_n hx hb d_Se_gatherRow_74 rfl (lv_at hl 0 rfl) ?_
        refine va_get (ci := 6) (C := R_Se) (T := T_Se) (N := 13) hx hb hts in_Se hown hK hP 2 kw_2 rfl 0 (by decide) (hts _ q_134) (fun _ h9 => h9) rfl d_Se_gatherRow_75 ?_
        refine lv_iload_n hx hb d_Se_gatherRow_78 rfl (lv_at hl 2 rfl) ?_
        refine lv_iload_n hx hb d_Se_gatherRow_79 rfl (lv_at hl 3 rfl) ?_
        obtain ⟨v8, σ9, hc10, h⟩ := k_call_e h
        refine k_calli (va_runV (As := [.int x2, .int x3]) (rest := [.int (σ2.1 3), .ref (a 24)]) ⟨hx, hb, hml, hown, hts⟩ (K_F_partAt l D a c9 H.size hc10) (cwV 2 hts (k_gV q_538 q_386 q_387 q_2 q_388) rfl rfl rfl h_F_partAt ⟨Nat.le_of_ble_eq_true rfl, Nat.le_of_ble_eq_true rfl⟩) (k_preV (ci := 2) (q0 := 1) rfl kw_1 hP hK hN hD) rfl rfl hl.1 rfl (lv_room (Nat.le_of_ble_eq_true rfl)) d_Se_gatherRow_80 ⟨Nat.zero_le _, Nat.zero_le _⟩) hD hS hA (fun H locs hP hD hS => ?_)
        obtain ⟨σ11, eσ11, hiσ11, h⟩ := k_st_e h
        refine va_iast hx hb hK hP hD hS 24 0 kw_24 rfl hiσ11 d_Se_gatherRow_83 (fun H locs hP hD hS => ?_)
        replace hP := k_mvP (kw_s24.trans (congrArg _ eσ11.symm)) hP
        replace hD := k_mvD (kw_s24.trans (congrArg _ eσ11.symm)) hD
        refine lv_aload_n hx hb d_Se_gatherRow_84 rfl (lv_at hl 0 rfl) ?_
        refine lv_dup hx hb d_Se_gatherRow_85 rfl ?_
        refine va_get (ci := 6) (C := R_Se) (T := T_Se) (N := 13) hx hb hts in_Se hown hK hP 2 kw_2 rfl 8 (by decide) (hts _ q_142) (fun _ h9 => h9) rfl d_Se_gatherRow_86 ?_
        refine lv_iconst (v := 1) hx hb d_Se_gatherRow_89 (by decide) ?_
        refine lv_iadd hx hb d_Se_gatherRow_90 ?_
        obtain ⟨σ12, eσ12, h⟩ := k_set_e h
        refine va_put (ci := 6) (v := .int ((σ11.1 3 + 1))) (ty := .int) (C := R_Se) (T := T_Se) (N := 13) hx hb hts in_Se t_Se t_Se_ok n_Se hown hK hP hD hS 2 kw_2 rfl 8 (by decide) (hts _ q_142) (fun _ h9 => h9) rfl (by decide +kernel) rfl rfl (Nat.le_of_ble_eq_true rfl) d_Se_gatherRow_91 (fun H locs hP hD hS => ?_)
        replace hP := k_mvP (kw_f2_8.trans (congrArg _ eσ12.symm)) hP
        replace hD := k_mvD (kw_f2_8.trans (congrArg _ eσ12.symm)) hD
        obtain ⟨v13, ev13, h⟩ := k_let_e h
        refine lv_iinc (v := v13) (lv' := [(3, .int v13), (0, .ref (a 2)), (1, .int x1), (2, .int x2)]) hx hb d_Se_gatherRow_94 hl (k := 3) rfl (by rw [ev13]; rfl) (by decide) rfl (fun ls hl => ?_)
        refine lv_goto (tgt := 41) hx hb d_Se_gatherRow_97 (by decide) ?_
        exact ih _ _ _ _ H locs ls hP hD hS (lv_sub hl [1, 2, 3, 0] rfl) h
def M_Se_gatherRow (σ : kS) (x1 : Int32) : Option (Int32 × kS) := if x1 = 0 then (k_st σ 17 12 (0) (σ.1 4) fun σ7 => k_set σ7 3 (1) fun σ8 => some (0, σ8)) else (k_call (M_Pl_parentOf σ x1) fun v2 σ3 => k_ld (σ3.2.1 15) 70 (v2) fun v5 => k_set σ3 3 (0) fun σ6 => M_Se_gatherRow_41 k_fu σ6 x1 v5 0)
set_option maxHeartbeats 4000000 in
set_option maxRecDepth 100000 in
theorem B_Se_gatherRow_0 {p : Program} {l : Launch} {e : Env} {s : State} {m : MethodId} {args : Array Value} {below : List Frame} {meth : Method} {c : Code} {D : va_G} {a : Nat → Nat} {c9 : Nat → ClassId} {A : Nat → Prop} {r9 : Int32} {σo : kS} (C0 : k_Cx D c9 p s m args meth c R_Se c_Se_gatherRow 4 none A) (σ : kS) (x1 : Int32) (H : Heap) (locs : List Loc) (ls : Array Slot) (hP : va_P D kcl (kw a c9 σ) H) (hD : va_D A (kw a c9 σ)) (hS : va_S A s.heap H locs) (hl : lv_has ls 4 [(0, .ref (a 2)), (1, .int x1)]) (h : M_Se_gatherRow σ x1 = some (r9, σo)) : W p l e rm_Se_gatherRow s m args below meth c H locs 0 0 (MQ below (k_Qv D a c9 σo A) args s 0 0 A) (F0 m 0 ls []) := by
  obtain ⟨hx, hb, hml, hown, hts, hr, hlk, hK, hN, hA⟩ := id C0
  unfold M_Se_gatherRow at h
  refine lv_iload_n hx hb d_Se_gatherRow_0 rfl (lv_at hl 1 rfl) ?_
  refine lv_if_ne (tgt := 20) hx hb d_Se_gatherRow_1 (by decide) (fun c1 => ?_) (fun c1 => ?_)
  · replace h := (if_neg c1).symm.trans h
    refine lv_aload_n hx hb d_Se_gatherRow_20 rfl (lv_at hl 0 rfl) ?_
    refine va_get (ci := 6) (C := R_Se) (T := T_Se) (N := 13) hx hb hts in_Se hown hK hP 2 kw_2 rfl 5 (by decide) (hts _ q_139) (fun _ h9 => h9) rfl d_Se_gatherRow_21 ?_
    refine lv_aload_n hx hb d_Se_gatherRow_24 rfl (lv_at hl 0 rfl) ?_
    refine va_get (ci := 6) (C := R_Se) (T := T_Se) (N := 13) hx hb hts in_Se hown hK hP 2 kw_2 rfl 1 (by decide) (hts _ q_135) (fun _ h9 => h9) rfl d_Se_gatherRow_25 ?_
    refine lv_iload_n hx hb d_Se_gatherRow_28 rfl (lv_at hl 1 rfl) ?_
    obtain ⟨v2, σ3, hc4, h⟩ := k_call_e h
    refine k_calli (va_runV (As := [.int x1]) (rest := [.ref (a 22)]) ⟨hx, hb, hml, hown, hts⟩ (K_Pl_parentOf l D a c9 H.size hc4) (cwV 1 hts (k_gV q_473 q_474 q_475 q_4 q_476) rfl rfl rfl h_Pl_parentOf ⟨Nat.le_of_ble_eq_true rfl, Nat.le_of_ble_eq_true rfl⟩) (k_preV (ci := 5) (q0 := 3) rfl kw_3 hP hK hN hD) rfl rfl hl.1 rfl (lv_room (Nat.le_of_ble_eq_true rfl)) d_Se_gatherRow_29 ⟨Nat.zero_le _, Nat.zero_le _⟩) hD hS hA (fun H locs hP hD hS => ?_)
    obtain ⟨v5, ev5, hv5, h⟩ := k_ld_e h
    refine va_iald hx hb hK hP 22 0 kw_22 rfl hv5 d_Se_gatherRow_32 (k_top ev5 ?_)
    refine lv_istore_n (lv' := [(2, .int v5), (0, .ref (a 2)), (1, .int x1)]) hx hb d_Se_gatherRow_33 rfl hl (by decide) rfl (fun ls hl => ?_)
    refine lv_aload_n hx hb d_Se_gatherRow_34 rfl (lv_at hl 1 rfl) ?_
    refine lv_iconst (v := 0) hx hb d_Se_gatherRow_35 (by decide) ?_
    obtain ⟨σ6, eσ6, h⟩ := k_set_e h
    refine va_put (ci := 6) (v := .int 0) (ty := .int) (C := R_Se) (T := T_Se) (N := 13) hx hb hts in_Se t_Se t_Se_ok n_Se hown hK hP hD hS 2 kw_2 rfl 8 (by decide) (hts _ q_142) (fun _ h9 => h9) rfl (by decide +kernel) rfl rfl (Nat.le_of_ble_eq_true rfl) d_Se_gatherRow_36 (fun H locs hP hD hS => ?_)
    replace hP := k_mvP (kw_f2_8.trans (congrArg _ eσ6.symm)) hP
    replace hD := k_mvD (kw_f2_8.trans (congrArg _ eσ6.symm)) hD
    refine lv_iconst (v := 0) hx hb d_Se_gatherRow_39 (by decide) ?_
    refine lv_istore_n (lv' := [(3, .int 0), (2, .int v5), (0, .ref (a 2)), (1, .int x1)]) hx hb d_Se_gatherRow_40 rfl hl (by decide) rfl (fun ls hl => ?_)
    exact B_Se_gatherRow_41 C0 k_fu _ _ _ _ H locs ls hP hD hS (lv_sub hl [2, 3, 1, 0] rfl) h
  · replace h := (if_pos c1).symm.trans h
    refine lv_aload_n hx hb d_Se_gatherRow_4 rfl (lv_at hl 0 rfl) ?_
    refine va_get (ci := 6) (C := R_Se) (T := T_Se) (N := 13) hx hb hts in_Se hown hK hP 2 kw_2 rfl 7 (by decide) (hts _ q_141) (fun _ h9 => h9) rfl d_Se_gatherRow_5 ?_
    refine lv_iconst (v := 0) hx hb d_Se_gatherRow_8 (by decide) ?_
    refine lv_aload_n hx hb d_Se_gatherRow_9 rfl (lv_at hl 0 rfl) ?_
    refine va_get (ci := 6) (C := R_Se) (T := T_Se) (N := 13) hx hb hts in_Se hown hK hP 2 kw_2 rfl 9 (by decide) (hts _ q_143) (fun _ h9 => h9) rfl d_Se_gatherRow_10 ?_
    obtain ⟨σ7, eσ7, hiσ7, h⟩ := k_st_e h
    refine va_iast hx hb hK hP hD hS 24 0 kw_24 rfl hiσ7 d_Se_gatherRow_13 (fun H locs hP hD hS => ?_)
    replace hP := k_mvP (kw_s24.trans (congrArg _ eσ7.symm)) hP
    replace hD := k_mvD (kw_s24.trans (congrArg _ eσ7.symm)) hD
    refine lv_aload_n hx hb d_Se_gatherRow_14 rfl (lv_at hl 0 rfl) ?_
    refine lv_iconst (v := 1) hx hb d_Se_gatherRow_15 (by decide) ?_
    obtain ⟨σ8, eσ8, h⟩ := k_set_e h
    refine va_put (ci := 6) (v := .int 1) (ty := .int) (C := R_Se) (T := T_Se) (N := 13) hx hb hts in_Se t_Se t_Se_ok n_Se hown hK hP hD hS 2 kw_2 rfl 8 (by decide) (hts _ q_142) (fun _ h9 => h9) rfl (by decide +kernel) rfl rfl (Nat.le_of_ble_eq_true rfl) d_Se_gatherRow_16 (fun H locs hP hD hS => ?_)
    replace hP := k_mvP (kw_f2_8.trans (congrArg _ eσ8.symm)) hP
    replace hD := k_mvD (kw_f2_8.trans (congrArg _ eσ8.symm)) hD
    cases h
    exact k_vret hx hb hr hlk hP hS d_Se_gatherRow_19
theorem K_Se_gatherRow (l : Launch) (D : va_G) (a : Nat → Nat) (c9 : Nat → ClassId) (sz : Nat) {σ : kS} {x1 : Int32} {r9 : Int32} {σo : kS} (h : M_Se_gatherRow σ x1 = some (r9, σo)) : Met l y_Se_gatherRow (Cond.code y_Se_gatherRow c_Se_gatherRow 4 none :: kG) rm_Se_gatherRow (k_Pc D a c9 sz σ [.ref (a 2), .int x1]) (k_Qv D a c9 σo (k_A a c9 σ sz)) 0 0 (k_A a c9 σ sz) :=
  k_met (Qf := k_Qv D a c9 σo) (by decide) (Nat.le_of_ble_eq_true rfl) (fun p e s m args below meth c A ls C0 hP hD hS hl => B_Se_gatherRow_0 C0 σ x1 s.heap [] ls hP hD hS hl h)
def rm_Se_fitsLeafOrNode : Room := { frames := 1, cells := 0, slots := 0, locals := 22 }
def M_Se_fitsLeafOrNode (σ : kS) (x1 x2 : Int32) : Option (Int32 × kS) := k_ld (σ.2.1 17) 12 (0) fun v1 => k_call (M_F_looksLike σ x2 v1) fun v2 σ3 => if v2 = 0 then (some (0, σ3)) else (k_ld (σ3.2.1 17) 12 (0) fun v6 => k_st σ3 15 70 (x1) (v6) fun σ7 => k_ld (σ7.2.1 17) 12 (0) fun v8 => k_call (M_F_partCount σ7 v8) fun v9 σ10 => k_call (M_Pc_all σ10 v9) fun v12 σ13 => k_st σ13 16 70 (x1) (v12) fun σ15 => some (1, σ15))
set_option maxHeartbeats 4000000 in
set_option maxRecDepth 100000 in
theorem B_Se_fitsLeafOrNode_0 {p : Program} {l : Launch} {e : Env} {s : State} {m : MethodId} {args : Array Value} {below : List Frame} {meth : Method} {c : Code} {D : va_G} {a : Nat → Nat} {c9 : Nat → ClassId} {A : Nat → Prop} {r9 : Int32} {σo : kS} (C0 : k_Cx D c9 p s m args meth c R_Se c_Se_fitsLeafOrNode 3 (some .boolean) A) (σ : kS) (x1 x2 : Int32) (H : Heap) (locs : List Loc) (ls : Array Slot) (hP : va_P D kcl (kw a c9 σ) H) (hD : va_D A (kw a c9 σ)) (hS : va_S A s.heap H locs) (hl : lv_has ls 3 [(0, .ref (a 2)), (1, .int x1), (2, .int x2)]) (h : M_Se_fitsLeafOrNode σ x1 x2 = some (r9, σo)) : W p l e rm_Se_fitsLeafOrNode s m args below meth c H locs 0 0 (MQ below (k_Qi D a c9 r9 σo A) args s 0 0 A) (F0 m 0 ls []) := by
  obtain ⟨hx, hb, hml, hown, hts, hr, hlk, hK, hN, hA⟩ := id C0
  unfold M_Se_fitsLeafOrNode at h
  refine lv_aload_n hx hb d_Se_fitsLeafOrNode_0 rfl (lv_at hl 0 rfl) ?_
  refine va_get (ci := 6) (C := R_Se) (T := T_Se) (N := 13) hx hb hts in_Se hown hK hP 2 kw_2 rfl 0 (by decide) (hts _ q_134) (fun _ h9 => h9) rfl d_Se_fitsLeafOrNode_1 ?_
  refine lv_iload_n hx hb d_Se_fitsLeafOrNode_4 rfl (lv_at hl 2 rfl) ?_
  refine lv_aload_n hx hb d_Se_fitsLeafOrNode_5 rfl (lv_at hl 0 rfl) ?_
  refine va_get (ci := 6) (C := R_Se) (T := T_Se) (N := 13) hx hb hts in_Se hown hK hP 2 kw_2 rfl 7 (by decide) (hts _ q_141) (fun _ h9 => h9) rfl d_Se_fitsLeafOrNode_6 ?_
  refine lv_iconst (v := 0) hx hb d_Se_fitsLeafOrNode_9 (by decide) ?_
  obtain ⟨v1, ev1, hv1, h⟩ := k_ld_e h
  refine va_iald hx hb hK hP 24 0 kw_24 rfl hv1 d_Se_fitsLeafOrNode_10 (k_top ev1 ?_)
  obtain ⟨v2, σ3, hc4, h⟩ := k_call_e h
  refine k_calli (va_runV (As := [.int x2, .int v1]) (rest := []) ⟨hx, hb, hml, hown, hts⟩ (K_F_looksLike l D a c9 H.size hc4) (cwV 2 hts (k_gV q_580 q_581 q_582 q_2 q_583) rfl rfl rfl h_F_looksLike ⟨Nat.le_of_ble_eq_true rfl, Nat.le_of_ble_eq_true rfl⟩) (k_preV (ci := 2) (q0 := 1) rfl kw_1 hP hK hN hD) rfl rfl hl.1 rfl (lv_room (Nat.le_of_ble_eq_true rfl)) d_Se_fitsLeafOrNode_11 ⟨Nat.zero_le _, Nat.zero_le _⟩) hD hS hA (fun H locs hP hD hS => ?_)
  refine lv_if_ne (tgt := 19) hx hb d_Se_fitsLeafOrNode_14 (by decide) (fun c5 => ?_) (fun c5 => ?_)
  · replace h := (if_neg c5).symm.trans h
    refine lv_aload_n hx hb d_Se_fitsLeafOrNode_19 rfl (lv_at hl 0 rfl) ?_
    refine va_get (ci := 6) (C := R_Se) (T := T_Se) (N := 13) hx hb hts in_Se hown hK hP 2 kw_2 rfl 5 (by decide) (hts _ q_139) (fun _ h9 => h9) rfl d_Se_fitsLeafOrNode_20 ?_
    refine lv_iload_n hx hb d_Se_fitsLeafOrNode_23 rfl (lv_at hl 1 rfl) ?_
    refine lv_aload_n hx hb d_Se_fitsLeafOrNode_24 rfl (lv_at hl 0 rfl) ?_
    refine va_get (ci := 6) (C := R_Se) (T := T_Se) (N := 13) hx hb hts in_Se hown hK hP 2 kw_2 rfl 7 (by decide) (hts _ q_141) (fun _ h9 => h9) rfl d_Se_fitsLeafOrNode_25 ?_
    refine lv_iconst (v := 0) hx hb d_Se_fitsLeafOrNode_28 (by decide) ?_
    obtain ⟨v6, ev6, hv6, h⟩ := k_ld_e h
    refine va_iald hx hb hK hP 24 0 kw_24 rfl hv6 d_Se_fitsLeafOrNode_29 (k_top ev6 ?_)
    obtain ⟨σ7, eσ7, hiσ7, h⟩ := k_st_e h
    refine va_iast hx hb hK hP hD hS 22 0 kw_22 rfl hiσ7 d_Se_fitsLeafOrNode_30 (fun H locs hP hD hS => ?_)
    replace hP := k_mvP (kw_s22.trans (congrArg _ eσ7.symm)) hP
    replace hD := k_mvD (kw_s22.trans (congrArg _ eσ7.symm)) hD
    refine lv_aload_n hx hb d_Se_fitsLeafOrNode_31 rfl (lv_at hl 0 rfl) ?_
    refine va_get (ci := 6) (C := R_Se) (T := T_Se) (N := 13) hx hb hts in_Se hown hK hP 2 kw_2 rfl 6 (by decide) (hts _ q_140) (fun _ h9 => h9) rfl d_Se_fitsLeafOrNode_32 ?_
    refine lv_iload_n hx hb d_Se_fitsLeafOrNode_35 rfl (lv_at hl 1 rfl) ?_
    refine lv_aload_n hx hb d_Se_fitsLeafOrNode_36 rfl (lv_at hl 0 rfl) ?_
    refine va_get (ci := 6) (C := R_Se) (T := T_Se) (N := 13) hx hb hts in_Se hown hK hP 2 kw_2 rfl 0 (by decide) (hts _ q_134) (fun _ h9 => h9) rfl d_Se_fitsLeafOrNode_37 ?_
    refine lv_aload_n hx hb d_Se_fitsLeafOrNode_40 rfl (lv_at hl 0 rfl) ?_
    refine va_get (ci := 6) (C := R_Se) (T := T_Se) (N := 13) hx hb hts in_Se hown hK hP 2 kw_2 rfl 7 (by decide) (hts _ q_141) (fun _ h9 => h9) rfl d_Se_fitsLeafOrNode_41 ?_
    refine lv_iconst (v := 0) hx hb d_Se_fitsLeafOrNode_44 (by decide) ?_
    obtain ⟨v8, ev8, hv8, h⟩ := k_ld_e h
    refine va_iald hx hb hK hP 24 0 kw_24 rfl hv8 d_Se_fitsLeafOrNode_45 (k_top ev8 ?_)
    obtain ⟨v9, σ10, hc11, h⟩ := k_call_e h
    refine k_calli (va_runV (As := [.int v8]) (rest := [.int x1, .ref (a 23)]) ⟨hx, hb, hml, hown, hts⟩ (K_F_partCount l D a c9 H.size hc11) (cwV 1 hts (k_gV q_537 q_465 q_466 q_2 q_467) rfl rfl rfl h_F_partCount ⟨Nat.le_of_ble_eq_true rfl, Nat.le_of_ble_eq_true rfl⟩) (k_preV (ci := 2) (q0 := 1) rfl kw_1 hP hK hN hD) rfl rfl hl.1 rfl (lv_room (Nat.le_of_ble_eq_true rfl)) d_Se_fitsLeafOrNode_46 ⟨Nat.zero_le _, Nat.zero_le _⟩) hD hS hA (fun H locs hP hD hS => ?_)
    obtain ⟨v12, σ13, hc14, h⟩ := k_call_e h
    refine k_calli (va_runS (As := [.int v9]) (rest := [.int x1, .ref (a 23)]) ⟨hx, hb, hml, hown, hts⟩ (K_Pc_all l D a c9 H.size hc14) (va_cwS 1 hts (k_gS q_584 q_585 q_16 q_586) rfl rfl rfl h_Pc_all.2 ⟨Nat.le_of_ble_eq_true rfl, Nat.le_of_ble_eq_true rfl⟩) (k_preS hP hK hN hD) rfl rfl hl.1 rfl (lv_room (Nat.le_of_ble_eq_true rfl)) d_Se_fitsLeafOrNode_49 ⟨Nat.zero_le _, Nat.zero_le _⟩) hD hS hA (fun H locs hP hD hS => ?_)
    obtain ⟨σ15, eσ15, hiσ15, h⟩ := k_st_e h
    refine va_iast hx hb hK hP hD hS 23 0 kw_23 rfl hiσ15 d_Se_fitsLeafOrNode_52 (fun H locs hP hD hS => ?_)
    replace hP := k_mvP (kw_s23.trans (congrArg _ eσ15.symm)) hP
    replace hD := k_mvD (kw_s23.trans (congrArg _ eσ15.symm)) hD
    refine lv_iconst (v := 1) hx hb d_Se_fitsLeafOrNode_53 (by decide) ?_
    cases h
    exact k_zret (Or.inr rfl) hx hb hr hlk hP hS d_Se_fitsLeafOrNode_54
  · replace h := (if_pos c5).symm.trans h
    refine lv_iconst (v := 0) hx hb d_Se_fitsLeafOrNode_17 (by decide) ?_
    cases h
    exact k_zret (Or.inl rfl) hx hb hr hlk hP hS d_Se_fitsLeafOrNode_18
theorem K_Se_fitsLeafOrNode (l : Launch) (D : va_G) (a : Nat → Nat) (c9 : Nat → ClassId) (sz : Nat) {σ : kS} {x1 x2 : Int32} {r9 : Int32} {σo : kS} (h : M_Se_fitsLeafOrNode σ x1 x2 = some (r9, σo)) : Met l y_Se_fitsLeafOrNode (Cond.code y_Se_fitsLeafOrNode c_Se_fitsLeafOrNode 3 (some .boolean) :: kG) rm_Se_fitsLeafOrNode (k_Pc D a c9 sz σ [.ref (a 2), .int x1, .int x2]) (k_Qi D a c9 r9 σo (k_A a c9 σ sz)) 0 0 (k_A a c9 σ sz) :=
  k_met (Qf := k_Qi D a c9 r9 σo) (by decide) (Nat.le_of_ble_eq_true rfl) (fun p e s m args below meth c A ls C0 hP hD hS hl => B_Se_fitsLeafOrNode_0 C0 σ x1 x2 s.heap [] ls hP hD hS hl h)
def rm_Se_fitsHole : Room := { frames := 25, cells := 0, slots := 0, locals := 691 }
def M_Se_fitsHole_30 (σ : kS) (x1 x2 : Int32) : Option (Int32 × kS) := k_call (M_F_passesTests σ x2 (σ.1 3)) fun v1 σ2 => if v1 = 0 then (some (0, σ2)) else (k_call (M_F_nameOf σ2 x2) fun v5 σ6 => k_call (M_Nm_hasNothing σ6 v5) fun v8 σ9 => if v8 = 0 then (k_call (M_Nm_hasSame σ9 v5 (σ9.1 3)) fun v12 σ13 => k_z (v12) (some (v12, σ13))) else (k_call (M_Nm_give σ9 v5 (σ9.1 3) x1) fun _ σ16 => some (1, σ16)))
set_option maxHeartbeats 4000000 in
set_option maxRecDepth 100000 in
theorem B_Se_fitsHole_30 {p : Program} {l : Launch} {e : Env} {s : State} {m : MethodId} {args : Array Value} {below : List Frame} {meth : Method} {c : Code} {D : va_G} {a : Nat → Nat} {c9 : Nat → ClassId} {A : Nat → Prop} {r9 : Int32} {σo : kS} (C0 : k_Cx D c9 p s m args meth c R_Se c_Se_fitsHole 4 (some .boolean) A) (σ : kS) (x1 x2 : Int32) (H : Heap) (locs : List Loc) (ls : Array Slot) (hP : va_P D kcl (kw a c9 σ) H) (hD : va_D A (kw a c9 σ)) (hS : va_S A s.heap H locs) (hl : lv_has ls 4 [(0, .ref (a 2)), (1, .int x1), (2, .int x2)]) (h : M_Se_fitsHole_30 σ x1 x2 = some (r9, σo)) : W p l e rm_Se_fitsHole s m args below meth c H locs 0 0 (MQ below (k_Qi D a c9 r9 σo A) args s 0 0 A) (F0 m 30 ls []) := by
  obtain ⟨hx, hb, hml, hown, hts, hr, hlk, hK, hN, hA⟩ := id C0
  unfold M_Se_fitsHole_30 at h
  refine lv_aload_n hx hb d_Se_fitsHole_30 rfl (lv_at hl 0 rfl) ?_
  refine va_get (ci := 6) (C := R_Se) (T := T_Se) (N := 13) hx hb hts in_Se hown hK hP 2 kw_2 rfl 0 (by decide) (hts _ q_134) (fun _ h9 => h9) rfl d_Se_fitsHole_31 ?_
  refine lv_iload_n hx hb d_Se_fitsHole_34 rfl (lv_at hl 2 rfl) ?_
  refine lv_aload_n hx hb d_Se_fitsHole_35 rfl (lv_at hl 0 rfl) ?_
  refine va_get (ci := 6) (C := R_Se) (T := T_Se) (N := 13) hx hb hts in_Se hown hK hP 2 kw_2 rfl 7 (by decide) (hts _ q_141) (fun _ h9 => h9) rfl d_Se_fitsHole_36 ?_
  refine lv_aload_n hx hb d_Se_fitsHole_39 rfl (lv_at hl 0 rfl) ?_
  refine va_get (ci := 6) (C := R_Se) (T := T_Se) (N := 13) hx hb hts in_Se hown hK hP 2 kw_2 rfl 8 (by decide) (hts _ q_142) (fun _ h9 => h9) rfl d_Se_fitsHole_40 ?_
  obtain ⟨v1, σ2, hc3, h⟩ := k_call_e h
  refine k_calli (va_runV (As := [.int x2, .ref (a 24), .int (σ.1 3)]) (rest := []) ⟨hx, hb, hml, hown, hts⟩ (K_F_passesTests l D a c9 H.size hc3) (cwV 3 hts (k_gV q_547 q_548 q_549 q_2 q_550) rfl rfl rfl h_F_passesTests ⟨Nat.le_of_ble_eq_true rfl, Nat.le_of_ble_eq_true rfl⟩) (k_preV (ci := 2) (q0 := 1) rfl kw_1 hP hK hN hD) rfl rfl hl.1 rfl (lv_room (Nat.le_of_ble_eq_true rfl)) d_Se_fitsHole_43 ⟨Nat.zero_le _, Nat.zero_le _⟩) hD hS hA (fun H locs hP hD hS => ?_)
  refine lv_if_ne (tgt := 51) hx hb d_Se_fitsHole_46 (by decide) (fun c4 => ?_) (fun c4 => ?_)
  · replace h := (if_neg c4).symm.trans h
    refine lv_aload_n hx hb d_Se_fitsHole_51 rfl (lv_at hl 0 rfl) ?_
    refine va_get (ci := 6) (C := R_Se) (T := T_Se) (N := 13) hx hb hts in_Se hown hK hP 2 kw_2 rfl 0 (by decide) (hts _ q_134) (fun _ h9 => h9) rfl d_Se_fitsHole_52 ?_
    refine lv_iload_n hx hb d_Se_fitsHole_55 rfl (lv_at hl 2 rfl) ?_
    obtain ⟨v5, σ6, hc7, h⟩ := k_call_e h
    refine k_calli (va_runV (As := [.int x2]) (rest := []) ⟨hx, hb, hml, hown, hts⟩ (K_F_nameOf l D a c9 H.size hc7) (cwV 1 hts (k_gV q_482 q_483 q_484 q_2 q_485) rfl rfl rfl h_F_nameOf ⟨Nat.le_of_ble_eq_true rfl, Nat.le_of_ble_eq_true rfl⟩) (k_preV (ci := 2) (q0 := 1) rfl kw_1 hP hK hN hD) rfl rfl hl.1 rfl (lv_room (Nat.le_of_ble_eq_true rfl)) d_Se_fitsHole_56 ⟨Nat.zero_le _, Nat.zero_le _⟩) hD hS hA (fun H locs hP hD hS => ?_)
    refine lv_istore_n (lv' := [(3, .int v5), (0, .ref (a 2)), (1, .int x1), (2, .int x2)]) hx hb d_Se_fitsHole_59 rfl hl (by decide) rfl (fun ls hl => ?_)
    refine lv_aload_n hx hb d_Se_fitsHole_60 rfl (lv_at hl 1 rfl) ?_
    refine va_get (ci := 6) (C := R_Se) (T := T_Se) (N := 13) hx hb hts in_Se hown hK hP 2 kw_2 rfl 2 (by decide) (hts _ q_136) (fun _ h9 => h9) rfl d_Se_fitsHole_61 ?_
    refine lv_iload_n hx hb d_Se_fitsHole_64 rfl (lv_at hl 0 rfl) ?_
    obtain ⟨v8, σ9, hc10, h⟩ := k_call_e h
    refine k_calli (va_runV (As := [.int v5]) (rest := []) ⟨hx, hb, hml, hown, hts⟩ (K_Nm_hasNothing l D a c9 H.size hc10) (cwV 1 hts (k_gV q_560 q_561 q_562 q_5 q_563) rfl rfl rfl h_Nm_hasNothing ⟨Nat.le_of_ble_eq_true rfl, Nat.le_of_ble_eq_true rfl⟩) (k_preV (ci := 4) (q0 := 4) rfl kw_4 hP hK hN hD) rfl rfl hl.1 rfl (lv_room (Nat.le_of_ble_eq_true rfl)) d_Se_fitsHole_65 ⟨Nat.zero_le _, Nat.zero_le _⟩) hD hS hA (fun H locs hP hD hS => ?_)
    refine lv_if_eq (tgt := 90) hx hb d_Se_fitsHole_68 (by decide) (fun c11 => ?_) (fun c11 => ?_)
    · replace h := (if_pos c11).symm.trans h
      refine lv_aload_n hx hb d_Se_fitsHole_90 rfl (lv_at hl 1 rfl) ?_
      refine va_get (ci := 6) (C := R_Se) (T := T_Se) (N := 13) hx hb hts in_Se hown hK hP 2 kw_2 rfl 2 (by decide) (hts _ q_136) (fun _ h9 => h9) rfl d_Se_fitsHole_91 ?_
      refine lv_aload_n hx hb d_Se_fitsHole_94 rfl (lv_at hl 1 rfl) ?_
      refine va_get (ci := 6) (C := R_Se) (T := T_Se) (N := 13) hx hb hts in_Se hown hK hP 2 kw_2 rfl 0 (by decide) (hts _ q_134) (fun _ h9 => h9) rfl d_Se_fitsHole_95 ?_
      refine lv_iload_n hx hb d_Se_fitsHole_98 rfl (lv_at hl 0 rfl) ?_
      refine lv_aload_n hx hb d_Se_fitsHole_99 rfl (lv_at hl 1 rfl) ?_
      refine va_get (ci := 6) (C := R_Se) (T := T_Se) (N := 13) hx hb hts in_Se hown hK hP 2 kw_2 rfl 7 (by decide) (hts _ q_141) (fun _ h9 => h9) rfl d_Se_fitsHole_100 ?_
      refine lv_aload_n hx hb d_Se_fitsHole_103 rfl (lv_at hl 1 rfl) ?_
      refine va_get (ci := 6) (C := R_Se) (T := T_Se) (N := 13) hx hb hts in_Se hown hK hP 2 kw_2 rfl 8 (by decide) (hts _ q_142) (fun _ h9 => h9) rfl d_Se_fitsHole_104 ?_
      obtain ⟨v12, σ13, hc14, h⟩ := k_call_e h
      refine k_calli (va_runV (As := [.ref (a 1), .int v5, .ref (a 24), .int (σ9.1 3)]) (rest := []) ⟨hx, hb, hml, hown, hts⟩ (K_Nm_hasSame l D a c9 H.size hc14) (cwV 4 hts (k_gV q_571 q_572 q_573 q_5 q_574) rfl rfl rfl h_Nm_hasSame ⟨Nat.le_of_ble_eq_true rfl, Nat.le_of_ble_eq_true rfl⟩) (k_preV (ci := 4) (q0 := 4) rfl kw_4 hP hK hN hD) rfl rfl hl.1 rfl (lv_room (Nat.le_of_ble_eq_true rfl)) d_Se_fitsHole_107 ⟨Nat.zero_le _, Nat.zero_le _⟩) hD hS hA (fun H locs hP hD hS => ?_)
      obtain ⟨hz, h⟩ := k_z_e h
      cases h
      exact k_zret hz hx hb hr hlk hP hS d_Se_fitsHole_110
    · replace h := (if_neg c11).symm.trans h
      refine lv_aload_n hx hb d_Se_fitsHole_71 rfl (lv_at hl 1 rfl) ?_
      refine va_get (ci := 6) (C := R_Se) (T := T_Se) (N := 13) hx hb hts in_Se hown hK hP 2 kw_2 rfl 2 (by decide) (hts _ q_136) (fun _ h9 => h9) rfl d_Se_fitsHole_72 ?_
      refine lv_iload_n hx hb d_Se_fitsHole_75 rfl (lv_at hl 0 rfl) ?_
      refine lv_aload_n hx hb d_Se_fitsHole_76 rfl (lv_at hl 1 rfl) ?_
      refine va_get (ci := 6) (C := R_Se) (T := T_Se) (N := 13) hx hb hts in_Se hown hK hP 2 kw_2 rfl 7 (by decide) (hts _ q_141) (fun _ h9 => h9) rfl d_Se_fitsHole_77 ?_
      refine lv_aload_n hx hb d_Se_fitsHole_80 rfl (lv_at hl 1 rfl) ?_
      refine va_get (ci := 6) (C := R_Se) (T := T_Se) (N := 13) hx hb hts in_Se hown hK hP 2 kw_2 rfl 8 (by decide) (hts _ q_142) (fun _ h9 => h9) rfl d_Se_fitsHole_81 ?_
      refine lv_iload_n hx hb d_Se_fitsHole_84 rfl (lv_at hl 2 rfl) ?_
      obtain ⟨v15, σ16, hc17, h⟩ := k_call_e h
      refine k_callv (va_runV (As := [.int v5, .ref (a 24), .int (σ9.1 3), .int x1]) (rest := []) ⟨hx, hb, hml, hown, hts⟩ (K_Nm_give l D a c9 H.size hc17) (cwV 4 hts (k_gV q_564 q_565 q_566 q_5 q_567) rfl rfl rfl h_Nm_give ⟨Nat.le_of_ble_eq_true rfl, Nat.le_of_ble_eq_true rfl⟩) (k_preV (ci := 4) (q0 := 4) rfl kw_4 hP hK hN hD) rfl rfl hl.1 rfl (lv_room (Nat.le_of_ble_eq_true rfl)) d_Se_fitsHole_85 ⟨Nat.zero_le _, Nat.zero_le _⟩) hD hS hA (fun H locs hP hD hS => ?_)
      refine lv_iconst (v := 1) hx hb d_Se_fitsHole_88 (by decide) ?_
      cases h
      exact k_zret (Or.inr rfl) hx hb hr hlk hP hS d_Se_fitsHole_89
  · replace h := (if_pos c4).symm.trans h
    refine lv_iconst (v := 0) hx hb d_Se_fitsHole_49 (by decide) ?_
    cases h
    exact k_zret (Or.inl rfl) hx hb hr hlk hP hS d_Se_fitsHole_50
def M_Se_fitsHole (σ : kS) (x1 x2 : Int32) : Option (Int32 × kS) := k_call (M_F_isHoleOfKind σ x2 1) fun v1 σ2 => if v1 = 0 then (M_Se_fitsHole_30 σ2 x1 x2) else (k_ld (σ2.2.1 17) 12 (0) fun v5 => k_call (M_F_isLeaf σ2 v5) fun v6 σ7 => if v6 = 0 then (some (0, σ7)) else (M_Se_fitsHole_30 σ7 x1 x2))
set_option maxHeartbeats 4000000 in
set_option maxRecDepth 100000 in
theorem B_Se_fitsHole_0 {p : Program} {l : Launch} {e : Env} {s : State} {m : MethodId} {args : Array Value} {below : List Frame} {meth : Method} {c : Code} {D : va_G} {a : Nat → Nat} {c9 : Nat → ClassId} {A : Nat → Prop} {r9 : Int32} {σo : kS} (C0 : k_Cx D c9 p s m args meth c R_Se c_Se_fitsHole 4 (some .boolean) A) (σ : kS) (x1 x2 : Int32) (H : Heap) (locs : List Loc) (ls : Array Slot) (hP : va_P D kcl (kw a c9 σ) H) (hD : va_D A (kw a c9 σ)) (hS : va_S A s.heap H locs) (hl : lv_has ls 4 [(0, .ref (a 2)), (1, .int x1), (2, .int x2)]) (h : M_Se_fitsHole σ x1 x2 = some (r9, σo)) : W p l e rm_Se_fitsHole s m args below meth c H locs 0 0 (MQ below (k_Qi D a c9 r9 σo A) args s 0 0 A) (F0 m 0 ls []) := by
  obtain ⟨hx, hb, hml, hown, hts, hr, hlk, hK, hN, hA⟩ := id C0
  unfold M_Se_fitsHole at h
  refine lv_aload_n hx hb d_Se_fitsHole_0 rfl (lv_at hl 0 rfl) ?_
  refine va_get (ci := 6) (C := R_Se) (T := T_Se) (N := 13) hx hb hts in_Se hown hK hP 2 kw_2 rfl 0 (by decide) (hts _ q_134) (fun _ h9 => h9) rfl d_Se_fitsHole_1 ?_
  refine lv_iload_n hx hb d_Se_fitsHole_4 rfl (lv_at hl 2 rfl) ?_
  refine lv_iconst (v := 1) hx hb d_Se_fitsHole_5 (by decide) ?_
  obtain ⟨v1, σ2, hc3, h⟩ := k_call_e h
  refine k_calli (va_runV (As := [.int x2, .int 1]) (rest := []) ⟨hx, hb, hml, hown, hts⟩ (K_F_isHoleOfKind l D a c9 H.size hc3) (cwV 2 hts (k_gV q_498 q_499 q_500 q_2 q_501) rfl rfl rfl h_F_isHoleOfKind ⟨Nat.le_of_ble_eq_true rfl, Nat.le_of_ble_eq_true rfl⟩) (k_preV (ci := 2) (q0 := 1) rfl kw_1 hP hK hN hD) rfl rfl hl.1 rfl (lv_room (Nat.le_of_ble_eq_true rfl)) d_Se_fitsHole_6 ⟨Nat.zero_le _, Nat.zero_le _⟩) hD hS hA (fun H locs hP hD hS => ?_)
  refine lv_if_eq (tgt := 30) hx hb d_Se_fitsHole_9 (by decide) (fun c4 => ?_) (fun c4 => ?_)
  · replace h := (if_pos c4).symm.trans h
    exact B_Se_fitsHole_30 C0 _ _ _ H locs ls hP hD hS (lv_sub hl [0, 1, 2] rfl) h
  · replace h := (if_neg c4).symm.trans h
    refine lv_aload_n hx hb d_Se_fitsHole_12 rfl (lv_at hl 0 rfl) ?_
    refine va_get (ci := 6) (C := R_Se) (T := T_Se) (N := 13) hx hb hts in_Se hown hK hP 2 kw_2 rfl 0 (by decide) (hts _ q_134) (fun _ h9 => h9) rfl d_Se_fitsHole_13 ?_
    refine lv_aload_n hx hb d_Se_fitsHole_16 rfl (lv_at hl 0 rfl) ?_
    refine va_get (ci := 6) (C := R_Se) (T := T_Se) (N := 13) hx hb hts in_Se hown hK hP 2 kw_2 rfl 7 (by decide) (hts _ q_141) (fun _ h9 => h9) rfl d_Se_fitsHole_17 ?_
    refine lv_iconst (v := 0) hx hb d_Se_fitsHole_20 (by decide) ?_
    obtain ⟨v5, ev5, hv5, h⟩ := k_ld_e h
    refine va_iald hx hb hK hP 24 0 kw_24 rfl hv5 d_Se_fitsHole_21 (k_top ev5 ?_)
    obtain ⟨v6, σ7, hc8, h⟩ := k_call_e h
    refine k_calli (va_runV (As := [.int v5]) (rest := []) ⟨hx, hb, hml, hown, hts⟩ (K_F_isLeaf l D a c9 H.size hc8) (cwV 1 hts (k_gV q_543 q_544 q_545 q_2 q_546) rfl rfl rfl h_F_isLeaf ⟨Nat.le_of_ble_eq_true rfl, Nat.le_of_ble_eq_true rfl⟩) (k_preV (ci := 2) (q0 := 1) rfl kw_1 hP hK hN hD) rfl rfl hl.1 rfl (lv_room (Nat.le_of_ble_eq_true rfl)) d_Se_fitsHole_22 ⟨Nat.zero_le _, Nat.zero_le _⟩) hD hS hA (fun H locs hP hD hS => ?_)
    refine lv_if_ne (tgt := 30) hx hb d_Se_fitsHole_25 (by decide) (fun c9 => ?_) (fun c9 => ?_)
    · replace h := (if_neg c9).symm.trans h
      exact B_Se_fitsHole_30 C0 _ _ _ H locs ls hP hD hS (lv_sub hl [0, 1, 2] rfl) h
    · replace h := (if_pos c9).symm.trans h
      refine lv_iconst (v := 0) hx hb d_Se_fitsHole_28 (by decide) ?_
      cases h
      exact k_zret (Or.inl rfl) hx hb hr hlk hP hS d_Se_fitsHole_29
theorem K_Se_fitsHole (l : Launch) (D : va_G) (a : Nat → Nat) (c9 : Nat → ClassId) (sz : Nat) {σ : kS} {x1 x2 : Int32} {r9 : Int32} {σo : kS} (h : M_Se_fitsHole σ x1 x2 = some (r9, σo)) : Met l y_Se_fitsHole (Cond.code y_Se_fitsHole c_Se_fitsHole 4 (some .boolean) :: kG) rm_Se_fitsHole (k_Pc D a c9 sz σ [.ref (a 2), .int x1, .int x2]) (k_Qi D a c9 r9 σo (k_A a c9 σ sz)) 0 0 (k_A a c9 σ sz) :=
  k_met (Qf := k_Qi D a c9 r9 σo) (by decide) (Nat.le_of_ble_eq_true rfl) (fun p e s m args below meth c A ls C0 hP hD hS hl => B_Se_fitsHole_0 C0 σ x1 x2 s.heap [] ls hP hD hS hl h)
def rm_Se_rowsEndHere : Room := { frames := 1, cells := 0, slots := 0, locals := 21 }
def M_Se_rowsEndHere_49_b (self9 : kS → Int32 → Int32 → Int32 → Int32 → Option (Int32 × kS)) (σ : kS) (x1 x2 x3 x4 : Int32) : Option (Int32 × kS) := if 20 < x4 then (some (1, σ)) else (if x3 ≤ 0 then (some (1, σ)) else (k_call (M_Pl_isLastInRow σ x3) fun v3 σ4 => if v3 = 0 then (some (1, σ4)) else (k_call (M_Pl_parentOf σ4 x3) fun v7 σ8 => k_ld (σ8.2.1 16) 70 (v7) fun v10 => if v10 = 0 then (k_let (x4 + 1) fun v12 => self9 σ8 x1 x2 v7 v12) else (some (0, σ8)))))
def M_Se_rowsEndHere_49 : Nat → kS → Int32 → Int32 → Int32 → Int32 → Option (Int32 × kS)
  | 0 => fun _ _ _ _ _ => none
  | n + 1 => M_Se_rowsEndHere_49_b (M_Se_rowsEndHere_49 n)
set_option maxHeartbeats 4000000 in
set_option maxRecDepth 100000 in
theorem B_Se_rowsEndHere_49 {p : Program} {l : Launch} {e : Env} {s : State} {m : MethodId} {args : Array Value} {below : List Frame} {meth : Method} {c : Code} {D : va_G} {a : Nat → Nat} {c9 : Nat → ClassId} {A : Nat → Prop} {r9 : Int32} {σo : kS} (C0 : k_Cx D c9 p s m args meth c R_Se c_Se_rowsEndHere 5 (some .boolean) A) : ∀ (n : Nat) (σ : kS) (x1 x2 x3 x4 : Int32) (H : Heap) (locs : List Loc) (ls : Array Slot), va_P D kcl (kw a c9 σ) H → va_D A (kw a c9 σ) → va_S A s.heap H locs → lv_has ls 5 [(0, .ref (a 2)), (1, .int x1), (2, .int x2), (3, .int x3), (4, .int x4)] → M_Se_rowsEndHere_49 n σ x1 x2 x3 x4 = some (r9, σo) → W p l e rm_Se_rowsEndHere s m args below meth c H locs 0 0 (MQ below (k_Qi D a c9 r9 σo A) args s 0 0 A) (F0 m 49 ls []) := by
  obtain ⟨hx, hb, hml, hown, hts, hr, hlk, hK, hN, hA⟩ := id C0
  intro n
  induction n with
  | zero =>
    intro σ x1 x2 x3 x4 H locs ls hP hD hS hl h
    replace h : (none : Option (Int32 × kS)) = some (r9, σo) := h
    cases h
  | succ n ih =>
    intro σ x1 x2 x3 x4 H locs ls hP hD hS hl h
    replace h : M_Se_rowsEndHere_49_b (M_Se_rowsEndHere_49 n) σ x1 x2 x3 x4 = some (r9, σo) := h
    unfold M_Se_rowsEndHere_49_b at h
    refine lv_iload hx hb d_Se_rowsEndHere_49 (lv_at hl 4 rfl) ?_
    refine lv_bipush (v := 20) hx hb d_Se_rowsEndHere_51 (by decide) ?_
    refine lv_icmp_gt (tgt := 97) hx hb d_Se_rowsEndHere_53 (by decide) (fun c1 => ?_) (fun c1 => ?_)
    · replace h := (if_pos c1).symm.trans h
      refine lv_iconst (v := 1) hx hb d_Se_rowsEndHere_97 (by decide) ?_
      cases h
      exact k_zret (Or.inr rfl) hx hb hr hlk hP hS d_Se_rowsEndHere_98
    · replace h := (if_neg c1).symm.trans h
      refine lv_iload_n hx hb d_Se_rowsEndHere_56 rfl (lv_at hl 3 rfl) ?_
      refine lv_if_le (tgt := 97) hx hb d_Se_rowsEndHere_57 (by decide) (fun c2 => ?_) (fun c2 => ?_)
      · replace h := (if_pos c2).symm.trans h
        refine lv_iconst (v := 1) hx hb d_Se_rowsEndHere_97 (by decide) ?_
        cases h
        exact k_zret (Or.inr rfl) hx hb hr hlk hP hS d_Se_rowsEndHere_98
      · replace h := (if_neg c2).symm.trans h
        refine lv_aload_n hx hb d_Se_rowsEndHere_60 rfl (lv_at hl 0 rfl) ?_
        refine va_get (ci := 6) (C := R_Se) (T := T_Se) (N := 13) hx hb hts in_Se hown hK hP 2 kw_2 rfl 1 (by decide) (hts _ q_135) (fun _ h9 => h9) rfl d_Se_rowsEndHere_61 ?_
        refine lv_iload_n hx hb d_Se_rowsEndHere_64 rfl (lv_at hl 3 rfl) ?_
        obtain ⟨v3, σ4, hc5, h⟩ := k_call_e h
        refine k_calli (va_runV (As := [.int x3]) (rest := []) ⟨hx, hb, hml, hown, hts⟩ (K_Pl_isLastInRow l D a c9 H.size hc5) (cwV 1 hts (k_gV q_592 q_593 q_594 q_4 q_595) rfl rfl rfl h_Pl_isLastInRow ⟨Nat.le_of_ble_eq_true rfl, Nat.le_of_ble_eq_true rfl⟩) (k_preV (ci := 5) (q0 := 3) rfl kw_3 hP hK hN hD) rfl rfl hl.1 rfl (lv_room (Nat.le_of_ble_eq_true rfl)) d_Se_rowsEndHere_65 ⟨Nat.zero_le _, Nat.zero_le _⟩) hD hS hA (fun H locs hP hD hS => ?_)
        refine lv_if_eq (tgt := 97) hx hb d_Se_rowsEndHere_68 (by decide) (fun c6 => ?_) (fun c6 => ?_)
        · replace h := (if_pos c6).symm.trans h
          refine lv_iconst (v := 1) hx hb d_Se_rowsEndHere_97 (by decide) ?_
          cases h
          exact k_zret (Or.inr rfl) hx hb hr hlk hP hS d_Se_rowsEndHere_98
        · replace h := (if_neg c6).symm.trans h
          refine lv_aload_n hx hb d_Se_rowsEndHere_71 rfl (lv_at hl 0 rfl) ?_
          refine va_get (ci := 6) (C := R_Se) (T := T_Se) (N := 13) hx hb hts in_Se hown hK hP 2 kw_2 rfl 1 (by decide) (hts _ q_135) (fun _ h9 => h9) rfl d_Se_rowsEndHere_72 ?_
          refine lv_iload_n hx hb d_Se_rowsEndHere_75 rfl (lv_at hl 3 rfl) ?_
          obtain ⟨v7, σ8, hc9, h⟩ := k_call_e h
          refine k_calli (va_runV (As := [.int x3]) (rest := []) ⟨hx, hb, hml, hown, hts⟩ (K_Pl_parentOf l D a c9 H.size hc9) (cwV 1 hts (k_gV q_473 q_474 q_475 q_4 q_476) rfl rfl rfl h_Pl_parentOf ⟨Nat.le_of_ble_eq_true rfl, Nat.le_of_ble_eq_true rfl⟩) (k_preV (ci := 5) (q0 := 3) rfl kw_3 hP hK hN hD) rfl rfl hl.1 rfl (lv_room (Nat.le_of_ble_eq_true rfl)) d_Se_rowsEndHere_76 ⟨Nat.zero_le _, Nat.zero_le _⟩) hD hS hA (fun H locs hP hD hS => ?_)
          refine lv_istore_n (lv' := [(3, .int v7), (0, .ref (a 2)), (1, .int x1), (2, .int x2), (4, .int x4)]) hx hb d_Se_rowsEndHere_79 rfl hl (by decide) rfl (fun ls hl => ?_)
          refine lv_aload_n hx hb d_Se_rowsEndHere_80 rfl (lv_at hl 1 rfl) ?_
          refine va_get (ci := 6) (C := R_Se) (T := T_Se) (N := 13) hx hb hts in_Se hown hK hP 2 kw_2 rfl 6 (by decide) (hts _ q_140) (fun _ h9 => h9) rfl d_Se_rowsEndHere_81 ?_
          refine lv_iload_n hx hb d_Se_rowsEndHere_84 rfl (lv_at hl 0 rfl) ?_
          obtain ⟨v10, ev10, hv10, h⟩ := k_ld_e h
          refine va_iald hx hb hK hP 23 0 kw_23 rfl hv10 d_Se_rowsEndHere_85 (k_top ev10 ?_)
          refine lv_if_eq (tgt := 91) hx hb d_Se_rowsEndHere_86 (by decide) (fun c11 => ?_) (fun c11 => ?_)
          · replace h := (if_pos c11).symm.trans h
            obtain ⟨v12, ev12, h⟩ := k_let_e h
            refine lv_iinc (v := v12) (lv' := [(4, .int v12), (3, .int v7), (0, .ref (a 2)), (1, .int x1), (2, .int x2)]) hx hb d_Se_rowsEndHere_91 hl (k := 4) rfl (by rw [ev12]; rfl) (by decide) rfl (fun ls hl => ?_)
            refine lv_goto (tgt := 49) hx hb d_Se_rowsEndHere_94 (by decide) ?_
            exact ih _ _ _ _ _ H locs ls hP hD hS (lv_sub hl [2, 3, 4, 1, 0] rfl) h
          · replace h := (if_neg c11).symm.trans h
            refine lv_iconst (v := 0) hx hb d_Se_rowsEndHere_89 (by decide) ?_
            cases h
            exact k_zret (Or.inl rfl) hx hb hr hlk hP hS d_Se_rowsEndHere_90
def M_Se_rowsEndHere (σ : kS) (x1 : Int32) : Option (Int32 × kS) := k_call (M_Pl_treeAt σ x1) fun v1 σ2 => k_call (M_F_isNode σ2 v1) fun v4 σ5 => if v4 = 0 then (M_Se_rowsEndHere_49 k_fu σ5 x1 v1 x1 0) else (k_call (M_F_partCount σ5 v1) fun v8 σ9 => if v8 ≤ 0 then (k_ld (σ9.2.1 16) 70 (x1) fun v12 => if v12 = 0 then (M_Se_rowsEndHere_49 k_fu σ9 x1 v1 x1 0) else (some (0, σ9))) else (some (1, σ9)))
set_option maxHeartbeats 4000000 in
set_option maxRecDepth 100000 in
theorem B_Se_rowsEndHere_0 {p : Program} {l : Launch} {e : Env} {s : State} {m : MethodId} {args : Array Value} {below : List Frame} {meth : Method} {c : Code} {D : va_G} {a : Nat → Nat} {c9 : Nat → ClassId} {A : Nat → Prop} {r9 : Int32} {σo : kS} (C0 : k_Cx D c9 p s m args meth c R_Se c_Se_rowsEndHere 5 (some .boolean) A) (σ : kS) (x1 : Int32) (H : Heap) (locs : List Loc) (ls : Array Slot) (hP : va_P D kcl (kw a c9 σ) H) (hD : va_D A (kw a c9 σ)) (hS : va_S A s.heap H locs) (hl : lv_has ls 5 [(0, .ref (a 2)), (1, .int x1)]) (h : M_Se_rowsEndHere σ x1 = some (r9, σo)) : W p l e rm_Se_rowsEndHere s m args below meth c H locs 0 0 (MQ below (k_Qi D a c9 r9 σo A) args s 0 0 A) (F0 m 0 ls []) := by
  obtain ⟨hx, hb, hml, hown, hts, hr, hlk, hK, hN, hA⟩ := id C0
  unfold M_Se_rowsEndHere at h
  refine lv_aload_n hx hb d_Se_rowsEndHere_0 rfl (lv_at hl 0 rfl) ?_
  refine va_get (ci := 6) (C := R_Se) (T := T_Se) (N := 13) hx hb hts in_Se hown hK hP 2 kw_2 rfl 1 (by decide) (hts _ q_135) (fun _ h9 => h9) rfl d_Se_rowsEndHere_1 ?_
  refine lv_iload_n hx hb d_Se_rowsEndHere_4 rfl (lv_at hl 1 rfl) ?_
  obtain ⟨v1, σ2, hc3, h⟩ := k_call_e h
  refine k_calli (va_runV (As := [.int x1]) (rest := []) ⟨hx, hb, hml, hown, hts⟩ (K_Pl_treeAt l D a c9 H.size hc3) (cwV 1 hts (k_gV q_477 q_478 q_479 q_4 q_480) rfl rfl rfl h_Pl_treeAt ⟨Nat.le_of_ble_eq_true rfl, Nat.le_of_ble_eq_true rfl⟩) (k_preV (ci := 5) (q0 := 3) rfl kw_3 hP hK hN hD) rfl rfl hl.1 rfl (lv_room (Nat.le_of_ble_eq_true rfl)) d_Se_rowsEndHere_5 ⟨Nat.zero_le _, Nat.zero_le _⟩) hD hS hA (fun H locs hP hD hS => ?_)
  refine lv_istore_n (lv' := [(2, .int v1), (0, .ref (a 2)), (1, .int x1)]) hx hb d_Se_rowsEndHere_8 rfl hl (by decide) rfl (fun ls hl => ?_)
  refine lv_aload_n hx hb d_Se_rowsEndHere_9 rfl (lv_at hl 1 rfl) ?_
  refine va_get (ci := 6) (C := R_Se) (T := T_Se) (N := 13) hx hb hts in_Se hown hK hP 2 kw_2 rfl 0 (by decide) (hts _ q_134) (fun _ h9 => h9) rfl d_Se_rowsEndHere_10 ?_
  refine lv_iload_n hx hb d_Se_rowsEndHere_13 rfl (lv_at hl 0 rfl) ?_
  obtain ⟨v4, σ5, hc6, h⟩ := k_call_e h
  refine k_calli (va_runV (As := [.int v1]) (rest := []) ⟨hx, hb, hml, hown, hts⟩ (K_F_isNode l D a c9 H.size hc6) (cwV 1 hts (k_gV q_591 q_557 q_558 q_2 q_559) rfl rfl rfl h_F_isNode ⟨Nat.le_of_ble_eq_true rfl, Nat.le_of_ble_eq_true rfl⟩) (k_preV (ci := 2) (q0 := 1) rfl kw_1 hP hK hN hD) rfl rfl hl.1 rfl (lv_room (Nat.le_of_ble_eq_true rfl)) d_Se_rowsEndHere_14 ⟨Nat.zero_le _, Nat.zero_le _⟩) hD hS hA (fun H locs hP hD hS => ?_)
  refine lv_if_eq (tgt := 44) hx hb d_Se_rowsEndHere_17 (by decide) (fun c7 => ?_) (fun c7 => ?_)
  · replace h := (if_pos c7).symm.trans h
    refine lv_iload_n hx hb d_Se_rowsEndHere_44 rfl (lv_at hl 2 rfl) ?_
    refine lv_istore_n (lv' := [(3, .int x1), (2, .int v1), (0, .ref (a 2)), (1, .int x1)]) hx hb d_Se_rowsEndHere_45 rfl hl (by decide) rfl (fun ls hl => ?_)
    refine lv_iconst (v := 0) hx hb d_Se_rowsEndHere_46 (by decide) ?_
    refine lv_istore (lv' := [(4, .int 0), (3, .int x1), (2, .int v1), (0, .ref (a 2)), (1, .int x1)]) hx hb d_Se_rowsEndHere_47 hl (by decide) rfl (fun ls hl => ?_)
    exact B_Se_rowsEndHere_49 C0 k_fu _ _ _ _ _ H locs ls hP hD hS (lv_sub hl [3, 4, 2, 1, 0] rfl) h
  · replace h := (if_neg c7).symm.trans h
    refine lv_aload_n hx hb d_Se_rowsEndHere_20 rfl (lv_at hl 1 rfl) ?_
    refine va_get (ci := 6) (C := R_Se) (T := T_Se) (N := 13) hx hb hts in_Se hown hK hP 2 kw_2 rfl 0 (by decide) (hts _ q_134) (fun _ h9 => h9) rfl d_Se_rowsEndHere_21 ?_
    refine lv_iload_n hx hb d_Se_rowsEndHere_24 rfl (lv_at hl 0 rfl) ?_
    obtain ⟨v8, σ9, hc10, h⟩ := k_call_e h
    refine k_calli (va_runV (As := [.int v1]) (rest := []) ⟨hx, hb, hml, hown, hts⟩ (K_F_partCount l D a c9 H.size hc10) (cwV 1 hts (k_gV q_537 q_465 q_466 q_2 q_467) rfl rfl rfl h_F_partCount ⟨Nat.le_of_ble_eq_true rfl, Nat.le_of_ble_eq_true rfl⟩) (k_preV (ci := 2) (q0 := 1) rfl kw_1 hP hK hN hD) rfl rfl hl.1 rfl (lv_room (Nat.le_of_ble_eq_true rfl)) d_Se_rowsEndHere_25 ⟨Nat.zero_le _, Nat.zero_le _⟩) hD hS hA (fun H locs hP hD hS => ?_)
    refine lv_if_le (tgt := 33) hx hb d_Se_rowsEndHere_28 (by decide) (fun c11 => ?_) (fun c11 => ?_)
    · replace h := (if_pos c11).symm.trans h
      refine lv_aload_n hx hb d_Se_rowsEndHere_33 rfl (lv_at hl 1 rfl) ?_
      refine va_get (ci := 6) (C := R_Se) (T := T_Se) (N := 13) hx hb hts in_Se hown hK hP 2 kw_2 rfl 6 (by decide) (hts _ q_140) (fun _ h9 => h9) rfl d_Se_rowsEndHere_34 ?_
      refine lv_iload_n hx hb d_Se_rowsEndHere_37 rfl (lv_at hl 2 rfl) ?_
      obtain ⟨v12, ev12, hv12, h⟩ := k_ld_e h
      refine va_iald hx hb hK hP 23 0 kw_23 rfl hv12 d_Se_rowsEndHere_38 (k_top ev12 ?_)
      refine lv_if_eq (tgt := 44) hx hb d_Se_rowsEndHere_39 (by decide) (fun c13 => ?_) (fun c13 => ?_)
      · replace h := (if_pos c13).symm.trans h
        refine lv_iload_n hx hb d_Se_rowsEndHere_44 rfl (lv_at hl 2 rfl) ?_
        refine lv_istore_n (lv' := [(3, .int x1), (2, .int v1), (0, .ref (a 2)), (1, .int x1)]) hx hb d_Se_rowsEndHere_45 rfl hl (by decide) rfl (fun ls hl => ?_)
        refine lv_iconst (v := 0) hx hb d_Se_rowsEndHere_46 (by decide) ?_
        refine lv_istore (lv' := [(4, .int 0), (3, .int x1), (2, .int v1), (0, .ref (a 2)), (1, .int x1)]) hx hb d_Se_rowsEndHere_47 hl (by decide) rfl (fun ls hl => ?_)
        exact B_Se_rowsEndHere_49 C0 k_fu _ _ _ _ _ H locs ls hP hD hS (lv_sub hl [3, 4, 2, 1, 0] rfl) h
      · replace h := (if_neg c13).symm.trans h
        refine lv_iconst (v := 0) hx hb d_Se_rowsEndHere_42 (by decide) ?_
        cases h
        exact k_zret (Or.inl rfl) hx hb hr hlk hP hS d_Se_rowsEndHere_43
    · replace h := (if_neg c11).symm.trans h
      refine lv_iconst (v := 1) hx hb d_Se_rowsEndHere_31 (by decide) ?_
      cases h
      exact k_zret (Or.inr rfl) hx hb hr hlk hP hS d_Se_rowsEndHere_32
theorem K_Se_rowsEndHere (l : Launch) (D : va_G) (a : Nat → Nat) (c9 : Nat → ClassId) (sz : Nat) {σ : kS} {x1 : Int32} {r9 : Int32} {σo : kS} (h : M_Se_rowsEndHere σ x1 = some (r9, σo)) : Met l y_Se_rowsEndHere (Cond.code y_Se_rowsEndHere c_Se_rowsEndHere 5 (some .boolean) :: kG) rm_Se_rowsEndHere (k_Pc D a c9 sz σ [.ref (a 2), .int x1]) (k_Qi D a c9 r9 σo (k_A a c9 σ sz)) 0 0 (k_A a c9 σ sz) :=
  k_met (Qf := k_Qi D a c9 r9 σo) (by decide) (Nat.le_of_ble_eq_true rfl) (fun p e s m args below meth c A ls C0 hP hD hS hl => B_Se_rowsEndHere_0 C0 σ x1 s.heap [] ls hP hD hS hl h)
def rm_Se_makeTry : Room := { frames := 26, cells := 0, slots := 0, locals := 714 }
def M_Se_makeTry_50 (σ : kS) (x1 x2 y0 : Int32) : Option (Int32 × kS) := if y0 = 0 then (some (x1, σ)) else (k_call (M_Se_rowsEndHere σ x1) fun v2 σ3 => if v2 = 0 then (some (x1, σ3)) else (k_call (M_Pl_slotCount σ3) fun v6 σ7 => if (x1 + 1) < v6 then (k_st σ7 14 70 ((x1 + 1)) ((-1)) fun σ10 => some ((x1 + 1), σ10)) else (k_set σ7 6 ((σ7.1 6 + 1)) fun σ11 => k_call (M_Mt_keep σ11) fun _ σ13 => some (x1, σ13))))
set_option maxHeartbeats 4000000 in
set_option maxRecDepth 100000 in
theorem B_Se_makeTry_50 {p : Program} {l : Launch} {e : Env} {s : State} {m : MethodId} {args : Array Value} {below : List Frame} {meth : Method} {c : Code} {D : va_G} {a : Nat → Nat} {c9 : Nat → ClassId} {A : Nat → Prop} {r9 : Int32} {σo : kS} (C0 : k_Cx D c9 p s m args meth c R_Se c_Se_makeTry 4 (some .int) A) (σ : kS) (x1 x2 y0 : Int32) (H : Heap) (locs : List Loc) (ls : Array Slot) (hP : va_P D kcl (kw a c9 σ) H) (hD : va_D A (kw a c9 σ)) (hS : va_S A s.heap H locs) (hl : lv_has ls 4 [(0, .ref (a 2)), (1, .int x1), (2, .int x2)]) (h : M_Se_makeTry_50 σ x1 x2 y0 = some (r9, σo)) : W p l e rm_Se_makeTry s m args below meth c H locs 0 0 (MQ below (k_Qi D a c9 r9 σo A) args s 0 0 A) (F0 m 50 ls [.int y0]) := by
  obtain ⟨hx, hb, hml, hown, hts, hr, hlk, hK, hN, hA⟩ := id C0
  unfold M_Se_makeTry_50 at h
  refine lv_istore_n (lv' := [(3, .int y0), (0, .ref (a 2)), (1, .int x1), (2, .int x2)]) hx hb d_Se_makeTry_50 rfl hl (by decide) rfl (fun ls hl => ?_)
  refine lv_iload_n hx hb d_Se_makeTry_51 rfl (lv_at hl 0 rfl) ?_
  refine lv_if_eq (tgt := 63) hx hb d_Se_makeTry_52 (by decide) (fun c1 => ?_) (fun c1 => ?_)
  · replace h := (if_pos c1).symm.trans h
    refine lv_iload_n hx hb d_Se_makeTry_63 rfl (lv_at hl 2 rfl) ?_
    cases h
    exact k_iret hx hb hr hlk hP hS d_Se_makeTry_64
  · replace h := (if_neg c1).symm.trans h
    refine lv_aload_n hx hb d_Se_makeTry_55 rfl (lv_at hl 1 rfl) ?_
    refine lv_iload_n hx hb d_Se_makeTry_56 rfl (lv_at hl 2 rfl) ?_
    obtain ⟨v2, σ3, hc4, h⟩ := k_call_e h
    refine k_calli (va_runV (As := [.int x1]) (rest := []) ⟨hx, hb, hml, hown, hts⟩ (K_Se_rowsEndHere l D a c9 H.size hc4) (cwV 1 hts (k_gV q_587 q_589 s_14 q_3 q_590) rfl rfl rfl h_Se_rowsEndHere ⟨Nat.le_of_ble_eq_true rfl, Nat.le_of_ble_eq_true rfl⟩) (k_preV (ci := 6) (q0 := 2) rfl kw_2 hP hK hN hD) rfl rfl hl.1 rfl (lv_room (Nat.le_of_ble_eq_true rfl)) d_Se_makeTry_57 ⟨Nat.zero_le _, Nat.zero_le _⟩) hD hS hA (fun H locs hP hD hS => ?_)
    refine lv_if_ne (tgt := 65) hx hb d_Se_makeTry_60 (by decide) (fun c5 => ?_) (fun c5 => ?_)
    · replace h := (if_neg c5).symm.trans h
      refine lv_iload_n hx hb d_Se_makeTry_65 rfl (lv_at hl 2 rfl) ?_
      refine lv_iconst (v := 1) hx hb d_Se_makeTry_66 (by decide) ?_
      refine lv_iadd hx hb d_Se_makeTry_67 ?_
      refine lv_aload_n hx hb d_Se_makeTry_68 rfl (lv_at hl 1 rfl) ?_
      refine va_get (ci := 6) (C := R_Se) (T := T_Se) (N := 13) hx hb hts in_Se hown hK hP 2 kw_2 rfl 1 (by decide) (hts _ q_135) (fun _ h9 => h9) rfl d_Se_makeTry_69 ?_
      obtain ⟨v6, σ7, hc8, h⟩ := k_call_e h
      refine k_calli (va_runV (As := []) (rest := [.int ((x1 + 1))]) ⟨hx, hb, hml, hown, hts⟩ (K_Pl_slotCount l D a c9 H.size hc8) (cwV 0 hts (k_gV q_596 q_597 q_598 q_4 q_599) rfl rfl rfl h_Pl_slotCount ⟨Nat.le_of_ble_eq_true rfl, Nat.le_of_ble_eq_true rfl⟩) (k_preV (ci := 5) (q0 := 3) rfl kw_3 hP hK hN hD) rfl rfl hl.1 rfl (lv_room (Nat.le_of_ble_eq_true rfl)) d_Se_makeTry_72 ⟨Nat.zero_le _, Nat.zero_le _⟩) hD hS hA (fun H locs hP hD hS => ?_)
      refine lv_icmp_lt (tgt := 101) hx hb d_Se_makeTry_75 (by decide) (fun c9 => ?_) (fun c9 => ?_)
      · replace h := (if_pos c9).symm.trans h
        refine lv_aload_n hx hb d_Se_makeTry_101 rfl (lv_at hl 1 rfl) ?_
        refine va_get (ci := 6) (C := R_Se) (T := T_Se) (N := 13) hx hb hts in_Se hown hK hP 2 kw_2 rfl 4 (by decide) (hts _ q_138) (fun _ h9 => h9) rfl d_Se_makeTry_102 ?_
        refine lv_iload_n hx hb d_Se_makeTry_105 rfl (lv_at hl 2 rfl) ?_
        refine lv_iconst (v := 1) hx hb d_Se_makeTry_106 (by decide) ?_
        refine lv_iadd hx hb d_Se_makeTry_107 ?_
        refine lv_iconst (v := (-1)) hx hb d_Se_makeTry_108 (by decide) ?_
        obtain ⟨σ10, eσ10, hiσ10, h⟩ := k_st_e h
        refine va_iast hx hb hK hP hD hS 21 0 kw_21 rfl hiσ10 d_Se_makeTry_109 (fun H locs hP hD hS => ?_)
        replace hP := k_mvP (kw_s21.trans (congrArg _ eσ10.symm)) hP
        replace hD := k_mvD (kw_s21.trans (congrArg _ eσ10.symm)) hD
        refine lv_iload_n hx hb d_Se_makeTry_110 rfl (lv_at hl 2 rfl) ?_
        refine lv_iconst (v := 1) hx hb d_Se_makeTry_111 (by decide) ?_
        refine lv_iadd hx hb d_Se_makeTry_112 ?_
        cases h
        exact k_iret hx hb hr hlk hP hS d_Se_makeTry_113
      · replace h := (if_neg c9).symm.trans h
        refine lv_aload_n hx hb d_Se_makeTry_78 rfl (lv_at hl 1 rfl) ?_
        refine lv_dup hx hb d_Se_makeTry_79 rfl ?_
        refine va_get (ci := 6) (C := R_Se) (T := T_Se) (N := 13) hx hb hts in_Se hown hK hP 2 kw_2 rfl 11 (by decide) (hts _ q_145) (fun _ h9 => h9) rfl d_Se_makeTry_80 ?_
        refine lv_iconst (v := 1) hx hb d_Se_makeTry_83 (by decide) ?_
        refine lv_iadd hx hb d_Se_makeTry_84 ?_
        obtain ⟨σ11, eσ11, h⟩ := k_set_e h
        refine va_put (ci := 6) (v := .int ((σ7.1 6 + 1))) (ty := .int) (C := R_Se) (T := T_Se) (N := 13) hx hb hts in_Se t_Se t_Se_ok n_Se hown hK hP hD hS 2 kw_2 rfl 11 (by decide) (hts _ q_145) (fun _ h9 => h9) rfl (by decide +kernel) rfl rfl (Nat.le_of_ble_eq_true rfl) d_Se_makeTry_85 (fun H locs hP hD hS => ?_)
        replace hP := k_mvP (kw_f2_11.trans (congrArg _ eσ11.symm)) hP
        replace hD := k_mvD (kw_f2_11.trans (congrArg _ eσ11.symm)) hD
        refine lv_aload_n hx hb d_Se_makeTry_88 rfl (lv_at hl 1 rfl) ?_
        refine va_get (ci := 6) (C := R_Se) (T := T_Se) (N := 13) hx hb hts in_Se hown hK hP 2 kw_2 rfl 3 (by decide) (hts _ q_137) (fun _ h9 => h9) rfl d_Se_makeTry_89 ?_
        refine lv_aload_n hx hb d_Se_makeTry_92 rfl (lv_at hl 1 rfl) ?_
        refine va_get (ci := 6) (C := R_Se) (T := T_Se) (N := 13) hx hb hts in_Se hown hK hP 2 kw_2 rfl 2 (by decide) (hts _ q_136) (fun _ h9 => h9) rfl d_Se_makeTry_93 ?_
        obtain ⟨v12, σ13, hc14, h⟩ := k_call_e h
        refine k_callv (va_runV (As := [.ref (a 4)]) (rest := []) ⟨hx, hb, hml, hown, hts⟩ (K_Mt_keep l D a c9 H.size hc14) (cwV 1 hts (k_gV q_600 q_601 q_602 q_6 q_603) rfl rfl rfl h_Mt_keep ⟨Nat.le_of_ble_eq_true rfl, Nat.le_of_ble_eq_true rfl⟩) (k_preV (ci := 3) (q0 := 5) rfl kw_5 hP hK hN hD) rfl rfl hl.1 rfl (lv_room (Nat.le_of_ble_eq_true rfl)) d_Se_makeTry_96 ⟨Nat.zero_le _, Nat.zero_le _⟩) hD hS hA (fun H locs hP hD hS => ?_)
        refine lv_iload_n hx hb d_Se_makeTry_99 rfl (lv_at hl 2 rfl) ?_
        cases h
        exact k_iret hx hb hr hlk hP hS d_Se_makeTry_100
    · replace h := (if_pos c5).symm.trans h
      refine lv_iload_n hx hb d_Se_makeTry_63 rfl (lv_at hl 2 rfl) ?_
      cases h
      exact k_iret hx hb hr hlk hP hS d_Se_makeTry_64
def M_Se_makeTry (σ : kS) (x1 : Int32) : Option (Int32 × kS) := k_set σ 5 ((σ.1 5 + 1)) fun σ1 => k_call (M_Se_gatherRow σ1 x1) fun _ σ3 => k_call (M_Pl_treeAt σ3 x1) fun v5 σ6 => k_call (M_F_isHole σ6 v5) fun v8 σ9 => if v8 = 0 then (k_call (M_Se_fitsLeafOrNode σ9 x1 v5) fun v12 σ13 => M_Se_makeTry_50 σ13 x1 v5 v12) else (k_call (M_Se_fitsHole σ9 x1 v5) fun v15 σ16 => M_Se_makeTry_50 σ16 x1 v5 v15)
set_option maxHeartbeats 4000000 in
set_option maxRecDepth 100000 in
theorem B_Se_makeTry_0 {p : Program} {l : Launch} {e : Env} {s : State} {m : MethodId} {args : Array Value} {below : List Frame} {meth : Method} {c : Code} {D : va_G} {a : Nat → Nat} {c9 : Nat → ClassId} {A : Nat → Prop} {r9 : Int32} {σo : kS} (C0 : k_Cx D c9 p s m args meth c R_Se c_Se_makeTry 4 (some .int) A) (σ : kS) (x1 : Int32) (H : Heap) (locs : List Loc) (ls : Array Slot) (hP : va_P D kcl (kw a c9 σ) H) (hD : va_D A (kw a c9 σ)) (hS : va_S A s.heap H locs) (hl : lv_has ls 4 [(0, .ref (a 2)), (1, .int x1)]) (h : M_Se_makeTry σ x1 = some (r9, σo)) : W p l e rm_Se_makeTry s m args below meth c H locs 0 0 (MQ below (k_Qi D a c9 r9 σo A) args s 0 0 A) (F0 m 0 ls []) := by
  obtain ⟨hx, hb, hml, hown, hts, hr, hlk, hK, hN, hA⟩ := id C0
  unfold M_Se_makeTry at h
  refine lv_aload_n hx hb d_Se_makeTry_0 rfl (lv_at hl 0 rfl) ?_
  refine lv_dup hx hb d_Se_makeTry_1 rfl ?_
  refine va_get (ci := 6) (C := R_Se) (T := T_Se) (N := 13) hx hb hts in_Se hown hK hP 2 kw_2 rfl 10 (by decide) (hts _ q_144) (fun _ h9 => h9) rfl d_Se_makeTry_2 ?_
  refine lv_iconst (v := 1) hx hb d_Se_makeTry_5 (by decide) ?_
  refine lv_iadd hx hb d_Se_makeTry_6 ?_
  obtain ⟨σ1, eσ1, h⟩ := k_set_e h
  refine va_put (ci := 6) (v := .int ((σ.1 5 + 1))) (ty := .int) (C := R_Se) (T := T_Se) (N := 13) hx hb hts in_Se t_Se t_Se_ok n_Se hown hK hP hD hS 2 kw_2 rfl 10 (by decide) (hts _ q_144) (fun _ h9 => h9) rfl (by decide +kernel) rfl rfl (Nat.le_of_ble_eq_true rfl) d_Se_makeTry_7 (fun H locs hP hD hS => ?_)
  replace hP := k_mvP (kw_f2_10.trans (congrArg _ eσ1.symm)) hP
  replace hD := k_mvD (kw_f2_10.trans (congrArg _ eσ1.symm)) hD
  refine lv_aload_n hx hb d_Se_makeTry_10 rfl (lv_at hl 0 rfl) ?_
  refine lv_iload_n hx hb d_Se_makeTry_11 rfl (lv_at hl 1 rfl) ?_
  obtain ⟨v2, σ3, hc4, h⟩ := k_call_e h
  refine k_callv (va_runV (As := [.int x1]) (rest := []) ⟨hx, hb, hml, hown, hts⟩ (K_Se_gatherRow l D a c9 H.size hc4) (cwV 1 hts (k_gV q_533 q_535 s_10 q_3 q_536) rfl rfl rfl h_Se_gatherRow ⟨Nat.le_of_ble_eq_true rfl, Nat.le_of_ble_eq_true rfl⟩) (k_preV (ci := 6) (q0 := 2) rfl kw_2 hP hK hN hD) rfl rfl hl.1 rfl (lv_room (Nat.le_of_ble_eq_true rfl)) d_Se_makeTry_12 ⟨Nat.zero_le _, Nat.zero_le _⟩) hD hS hA (fun H locs hP hD hS => ?_)
  refine lv_aload_n hx hb d_Se_makeTry_15 rfl (lv_at hl 0 rfl) ?_
  refine va_get (ci := 6) (C := R_Se) (T := T_Se) (N := 13) hx hb hts in_Se hown hK hP 2 kw_2 rfl 1 (by decide) (hts _ q_135) (fun _ h9 => h9) rfl d_Se_makeTry_16 ?_
  refine lv_iload_n hx hb d_Se_makeTry_19 rfl (lv_at hl 1 rfl) ?_
  obtain ⟨v5, σ6, hc7, h⟩ := k_call_e h
  refine k_calli (va_runV (As := [.int x1]) (rest := []) ⟨hx, hb, hml, hown, hts⟩ (K_Pl_treeAt l D a c9 H.size hc7) (cwV 1 hts (k_gV q_477 q_478 q_479 q_4 q_480) rfl rfl rfl h_Pl_treeAt ⟨Nat.le_of_ble_eq_true rfl, Nat.le_of_ble_eq_true rfl⟩) (k_preV (ci := 5) (q0 := 3) rfl kw_3 hP hK hN hD) rfl rfl hl.1 rfl (lv_room (Nat.le_of_ble_eq_true rfl)) d_Se_makeTry_20 ⟨Nat.zero_le _, Nat.zero_le _⟩) hD hS hA (fun H locs hP hD hS => ?_)
  refine lv_istore_n (lv' := [(2, .int v5), (0, .ref (a 2)), (1, .int x1)]) hx hb d_Se_makeTry_23 rfl hl (by decide) rfl (fun ls hl => ?_)
  refine lv_aload_n hx hb d_Se_makeTry_24 rfl (lv_at hl 1 rfl) ?_
  refine va_get (ci := 6) (C := R_Se) (T := T_Se) (N := 13) hx hb hts in_Se hown hK hP 2 kw_2 rfl 0 (by decide) (hts _ q_134) (fun _ h9 => h9) rfl d_Se_makeTry_25 ?_
  refine lv_iload_n hx hb d_Se_makeTry_28 rfl (lv_at hl 0 rfl) ?_
  obtain ⟨v8, σ9, hc10, h⟩ := k_call_e h
  refine k_calli (va_runV (As := [.int v5]) (rest := []) ⟨hx, hb, hml, hown, hts⟩ (K_F_isHole l D a c9 H.size hc10) (cwV 1 hts (k_gV q_481 q_414 q_415 q_2 q_416) rfl rfl rfl h_F_isHole ⟨Nat.le_of_ble_eq_true rfl, Nat.le_of_ble_eq_true rfl⟩) (k_preV (ci := 2) (q0 := 1) rfl kw_1 hP hK hN hD) rfl rfl hl.1 rfl (lv_room (Nat.le_of_ble_eq_true rfl)) d_Se_makeTry_29 ⟨Nat.zero_le _, Nat.zero_le _⟩) hD hS hA (fun H locs hP hD hS => ?_)
  refine lv_if_eq (tgt := 44) hx hb d_Se_makeTry_32 (by decide) (fun c11 => ?_) (fun c11 => ?_)
  · replace h := (if_pos c11).symm.trans h
    refine lv_aload_n hx hb d_Se_makeTry_44 rfl (lv_at hl 1 rfl) ?_
    refine lv_iload_n hx hb d_Se_makeTry_45 rfl (lv_at hl 2 rfl) ?_
    refine lv_iload_n hx hb d_Se_makeTry_46 rfl (lv_at hl 0 rfl) ?_
    obtain ⟨v12, σ13, hc14, h⟩ := k_call_e h
    refine k_calli (va_runV (As := [.int x1, .int v5]) (rest := []) ⟨hx, hb, hml, hown, hts⟩ (K_Se_fitsLeafOrNode l D a c9 H.size hc14) (cwV 2 hts (k_gV q_576 q_578 s_13 q_3 q_579) rfl rfl rfl h_Se_fitsLeafOrNode ⟨Nat.le_of_ble_eq_true rfl, Nat.le_of_ble_eq_true rfl⟩) (k_preV (ci := 6) (q0 := 2) rfl kw_2 hP hK hN hD) rfl rfl hl.1 rfl (lv_room (Nat.le_of_ble_eq_true rfl)) d_Se_makeTry_47 ⟨Nat.zero_le _, Nat.zero_le _⟩) hD hS hA (fun H locs hP hD hS => ?_)
    exact B_Se_makeTry_50 C0 _ _ _ _ H locs ls hP hD hS (lv_sub hl [1, 2, 0] rfl) h
  · replace h := (if_neg c11).symm.trans h
    refine lv_aload_n hx hb d_Se_makeTry_35 rfl (lv_at hl 1 rfl) ?_
    refine lv_iload_n hx hb d_Se_makeTry_36 rfl (lv_at hl 2 rfl) ?_
    refine lv_iload_n hx hb d_Se_makeTry_37 rfl (lv_at hl 0 rfl) ?_
    obtain ⟨v15, σ16, hc17, h⟩ := k_call_e h
    refine k_calli (va_runV (As := [.int x1, .int v5]) (rest := []) ⟨hx, hb, hml, hown, hts⟩ (K_Se_fitsHole l D a c9 H.size hc17) (cwV 2 hts (k_gV q_539 q_541 s_11 q_3 q_542) rfl rfl rfl h_Se_fitsHole ⟨Nat.le_of_ble_eq_true rfl, Nat.le_of_ble_eq_true rfl⟩) (k_preV (ci := 6) (q0 := 2) rfl kw_2 hP hK hN hD) rfl rfl hl.1 rfl (lv_room (Nat.le_of_ble_eq_true rfl)) d_Se_makeTry_38 ⟨Nat.zero_le _, Nat.zero_le _⟩) hD hS hA (fun H locs hP hD hS => ?_)
    refine lv_goto (tgt := 50) hx hb d_Se_makeTry_41 (by decide) ?_
    exact B_Se_makeTry_50 C0 _ _ _ _ H locs ls hP hD hS (lv_sub hl [1, 2, 0] rfl) h
theorem K_Se_makeTry (l : Launch) (D : va_G) (a : Nat → Nat) (c9 : Nat → ClassId) (sz : Nat) {σ : kS} {x1 : Int32} {r9 : Int32} {σo : kS} (h : M_Se_makeTry σ x1 = some (r9, σo)) : Met l y_Se_makeTry (Cond.code y_Se_makeTry c_Se_makeTry 4 (some .int) :: kG) rm_Se_makeTry (k_Pc D a c9 sz σ [.ref (a 2), .int x1]) (k_Qi D a c9 r9 σo (k_A a c9 σ sz)) 0 0 (k_A a c9 σ sz) :=
  k_met (Qf := k_Qi D a c9 r9 σo) (by decide) (Nat.le_of_ble_eq_true rfl) (fun p e s m args below meth c A ls C0 hP hD hS hl => B_Se_makeTry_0 C0 σ x1 s.heap [] ls hP hD hS hl h)
def rm_Se_run : Room := { frames := 27, cells := 0, slots := 0, locals := 737 }
def M_Se_run_34_b (self9 : kS → Int32 → Int32 → Int32 → Int32 → Int32 → Option (Int32 × kS)) (σ : kS) (x1 x2 x3 x4 x5 : Int32) : Option (Int32 × kS) := if 802 ≤ x5 then (some (0, σ)) else (if x4 < 0 then (some (0, σ)) else (k_call (M_Se_release σ x4) fun _ σ4 => k_call (M_Se_choose σ4 x4) fun v6 σ7 => if v6 = 0 then (k_let (x4 + (-1)) fun v16 => k_let (x5 + 1) fun v17 => self9 σ7 x1 x2 x3 v16 v17) else (if σ7.1 5 < x3 then (k_call (M_Se_makeTry σ7 x4) fun v11 σ12 => k_let (x5 + 1) fun v14 => self9 σ12 x1 x2 x3 v11 v14) else (k_set σ7 7 (1) fun σ15 => some (0, σ15)))))
def M_Se_run_34 : Nat → kS → Int32 → Int32 → Int32 → Int32 → Int32 → Option (Int32 × kS)
  | 0 => fun _ _ _ _ _ _ => none
  | n + 1 => M_Se_run_34_b (M_Se_run_34 n)
set_option maxHeartbeats 4000000 in
set_option maxRecDepth 100000 in
theorem B_Se_run_34 {p : Program} {l : Launch} {e : Env} {s : State} {m : MethodId} {args : Array Value} {below : List Frame} {meth : Method} {c : Code} {D : va_G} {a : Nat → Nat} {c9 : Nat → ClassId} {A : Nat → Prop} {r9 : Int32} {σo : kS} (C0 : k_Cx D c9 p s m args meth c R_Se c_Se_run 6 none A) : ∀ (n : Nat) (σ : kS) (x1 x2 x3 x4 x5 : Int32) (H : Heap) (locs : List Loc) (ls : Array Slot), va_P D kcl (kw a c9 σ) H → va_D A (kw a c9 σ) → va_S A s.heap H locs → lv_has ls 6 [(0, .ref (a 2)), (1, .int x1), (2, .int x2), (3, .int x3), (4, .int x4), (5, .int x5)] → M_Se_run_34 n σ x1 x2 x3 x4 x5 = some (r9, σo) → W p l e rm_Se_run s m args below meth c H locs 0 0 (MQ below (k_Qv D a c9 σo A) args s 0 0 A) (F0 m 34 ls []) := by
  obtain ⟨hx, hb, hml, hown, hts, hr, hlk, hK, hN, hA⟩ := id C0
  intro n
  induction n with
  | zero =>
    intro σ x1 x2 x3 x4 x5 H locs ls hP hD hS hl h
    replace h : (none : Option (Int32 × kS)) = some (r9, σo) := h
    cases h
  | succ n ih =>
    intro σ x1 x2 x3 x4 x5 H locs ls hP hD hS hl h
    replace h : M_Se_run_34_b (M_Se_run_34 n) σ x1 x2 x3 x4 x5 = some (r9, σo) := h
    unfold M_Se_run_34_b at h
    refine lv_iload hx hb d_Se_run_34 (lv_at hl 5 rfl) ?_
    refine lv_sipush (v := 802) hx hb d_Se_run_36 (by decide) ?_
    refine lv_icmp_ge (tgt := 96) hx hb d_Se_run_39 (by decide) (fun c1 => ?_) (fun c1 => ?_)
    · replace h := (if_pos c1).symm.trans h
      cases h
      exact k_vret hx hb hr hlk hP hS d_Se_run_96
    · replace h := (if_neg c1).symm.trans h
      refine lv_iload hx hb d_Se_run_42 (lv_at hl 4 rfl) ?_
      refine lv_if_lt (tgt := 96) hx hb d_Se_run_44 (by decide) (fun c2 => ?_) (fun c2 => ?_)
      · replace h := (if_pos c2).symm.trans h
        cases h
        exact k_vret hx hb hr hlk hP hS d_Se_run_96
      · replace h := (if_neg c2).symm.trans h
        refine lv_aload_n hx hb d_Se_run_47 rfl (lv_at hl 0 rfl) ?_
        refine lv_iload hx hb d_Se_run_48 (lv_at hl 4 rfl) ?_
        obtain ⟨v3, σ4, hc5, h⟩ := k_call_e h
        refine k_callv (va_runV (As := [.int x4]) (rest := []) ⟨hx, hb, hml, hown, hts⟩ (K_Se_release l D a c9 H.size hc5) (cwV 1 hts (k_gV q_469 q_471 s_5 q_3 q_472) rfl rfl rfl h_Se_release ⟨Nat.le_of_ble_eq_true rfl, Nat.le_of_ble_eq_true rfl⟩) (k_preV (ci := 6) (q0 := 2) rfl kw_2 hP hK hN hD) rfl rfl hl.1 rfl (lv_room (Nat.le_of_ble_eq_true rfl)) d_Se_run_50 ⟨Nat.zero_le _, Nat.zero_le _⟩) hD hS hA (fun H locs hP hD hS => ?_)
        refine lv_aload_n hx hb d_Se_run_53 rfl (lv_at hl 0 rfl) ?_
        refine lv_iload hx hb d_Se_run_54 (lv_at hl 4 rfl) ?_
        obtain ⟨v6, σ7, hc8, h⟩ := k_call_e h
        refine k_calli (va_runV (As := [.int x4]) (rest := []) ⟨hx, hb, hml, hown, hts⟩ (K_Se_choose l D a c9 H.size hc8) (cwV 1 hts (k_gV q_490 q_492 s_6 q_3 q_493) rfl rfl rfl h_Se_choose ⟨Nat.le_of_ble_eq_true rfl, Nat.le_of_ble_eq_true rfl⟩) (k_preV (ci := 6) (q0 := 2) rfl kw_2 hP hK hN hD) rfl rfl hl.1 rfl (lv_room (Nat.le_of_ble_eq_true rfl)) d_Se_run_56 ⟨Nat.zero_le _, Nat.zero_le _⟩) hD hS hA (fun H locs hP hD hS => ?_)
        refine lv_if_ne (tgt := 68) hx hb d_Se_run_59 (by decide) (fun c9 => ?_) (fun c9 => ?_)
        · replace h := (if_neg c9).symm.trans h
          refine lv_aload_n hx hb d_Se_run_68 rfl (lv_at hl 0 rfl) ?_
          refine va_get (ci := 6) (C := R_Se) (T := T_Se) (N := 13) hx hb hts in_Se hown hK hP 2 kw_2 rfl 10 (by decide) (hts _ q_144) (fun _ h9 => h9) rfl d_Se_run_69 ?_
          refine lv_iload_n hx hb d_Se_run_72 rfl (lv_at hl 3 rfl) ?_
          refine lv_icmp_lt (tgt := 82) hx hb d_Se_run_73 (by decide) (fun c10 => ?_) (fun c10 => ?_)
          · replace h := (if_pos c10).symm.trans h
            refine lv_aload_n hx hb d_Se_run_82 rfl (lv_at hl 0 rfl) ?_
            refine lv_iload hx hb d_Se_run_83 (lv_at hl 4 rfl) ?_
            obtain ⟨v11, σ12, hc13, h⟩ := k_call_e h
            refine k_calli (va_runV (As := [.int x4]) (rest := []) ⟨hx, hb, hml, hown, hts⟩ (K_Se_makeTry l D a c9 H.size hc13) (cwV 1 hts (k_gV q_529 q_531 s_9 q_3 q_532) rfl rfl rfl h_Se_makeTry ⟨Nat.le_of_ble_eq_true rfl, Nat.le_of_ble_eq_true rfl⟩) (k_preV (ci := 6) (q0 := 2) rfl kw_2 hP hK hN hD) rfl rfl hl.1 rfl (lv_room (Nat.le_of_ble_eq_true rfl)) d_Se_run_85 ⟨Nat.zero_le _, Nat.zero_le _⟩) hD hS hA (fun H locs hP hD hS => ?_)
            refine lv_istore (lv' := [(4, .int v11), (0, .ref (a 2)), (1, .int x1), (2, .int x2), (3, .int x3), (5, .int x5)]) hx hb d_Se_run_88 hl (by decide) rfl (fun ls hl => ?_)
            obtain ⟨v14, ev14, h⟩ := k_let_e h
            refine lv_iinc (v := v14) (lv' := [(5, .int v14), (4, .int v11), (0, .ref (a 2)), (1, .int x1), (2, .int x2), (3, .int x3)]) hx hb d_Se_run_90 hl (k := 5) rfl (by rw [ev14]; rfl) (by decide) rfl (fun ls hl => ?_)
            refine lv_goto (tgt := 34) hx hb d_Se_run_93 (by decide) ?_
            exact ih _ _ _ _ _ _ H locs ls hP hD hS (lv_sub hl [2, 3, 4, 5, 1, 0] rfl) h
          · replace h := (if_neg c10).symm.trans h
            refine lv_aload_n hx hb d_Se_run_76 rfl (lv_at hl 0 rfl) ?_
            refine lv_iconst (v := 1) hx hb d_Se_run_77 (by decide) ?_
            obtain ⟨σ15, eσ15, h⟩ := k_set_e h
            refine va_put (ci := 6) (v := .int 1) (ty := .boolean) (C := R_Se) (T := T_Se) (N := 13) hx hb hts in_Se t_Se t_Se_ok n_Se hown hK hP hD hS 2 kw_2 rfl 12 (by decide) (hts _ q_146) (fun _ h9 => h9) rfl (by decide +kernel) rfl rfl (Nat.le_of_ble_eq_true rfl) d_Se_run_78 (fun H locs hP hD hS => ?_)
            replace hP := k_mvP (kw_f2_12.trans (congrArg _ eσ15.symm)) hP
            replace hD := k_mvD (kw_f2_12.trans (congrArg _ eσ15.symm)) hD
            cases h
            exact k_vret hx hb hr hlk hP hS d_Se_run_81
        · replace h := (if_pos c9).symm.trans h
          obtain ⟨v16, ev16, h⟩ := k_let_e h
          refine lv_iinc (v := v16) (lv' := [(4, .int v16), (0, .ref (a 2)), (1, .int x1), (2, .int x2), (3, .int x3), (5, .int x5)]) hx hb d_Se_run_62 hl (k := 4) rfl (by rw [ev16]; rfl) (by decide) rfl (fun ls hl => ?_)
          refine lv_goto (tgt := 90) hx hb d_Se_run_65 (by decide) ?_
          obtain ⟨v17, ev17, h⟩ := k_let_e h
          refine lv_iinc (v := v17) (lv' := [(5, .int v17), (4, .int v16), (0, .ref (a 2)), (1, .int x1), (2, .int x2), (3, .int x3)]) hx hb d_Se_run_90 hl (k := 5) rfl (by rw [ev17]; rfl) (by decide) rfl (fun ls hl => ?_)
          refine lv_goto (tgt := 34) hx hb d_Se_run_93 (by decide) ?_
          exact ih _ _ _ _ _ _ H locs ls hP hD hS (lv_sub hl [2, 3, 4, 5, 1, 0] rfl) h
def M_Se_run (σ : kS) (x1 x2 x3 : Int32) : Option (Int32 × kS) := k_call (M_Se_clear σ) fun _ σ2 => k_call (M_Pl_lay σ2 x1) fun _ σ5 => k_set σ5 4 (x2) fun σ7 => k_st σ7 14 70 (0) ((-1)) fun σ8 => M_Se_run_34 k_fu σ8 x1 x2 x3 0 0
set_option maxHeartbeats 4000000 in
set_option maxRecDepth 100000 in
theorem B_Se_run_0 {p : Program} {l : Launch} {e : Env} {s : State} {m : MethodId} {args : Array Value} {below : List Frame} {meth : Method} {c : Code} {D : va_G} {a : Nat → Nat} {c9 : Nat → ClassId} {A : Nat → Prop} {r9 : Int32} {σo : kS} (C0 : k_Cx D c9 p s m args meth c R_Se c_Se_run 6 none A) (σ : kS) (x1 x2 x3 : Int32) (H : Heap) (locs : List Loc) (ls : Array Slot) (hP : va_P D kcl (kw a c9 σ) H) (hD : va_D A (kw a c9 σ)) (hS : va_S A s.heap H locs) (hl : lv_has ls 6 [(0, .ref (a 2)), (1, .int x1), (2, .int x2), (3, .int x3)]) (h : M_Se_run σ x1 x2 x3 = some (r9, σo)) : W p l e rm_Se_run s m args below meth c H locs 0 0 (MQ below (k_Qv D a c9 σo A) args s 0 0 A) (F0 m 0 ls []) := by
  obtain ⟨hx, hb, hml, hown, hts, hr, hlk, hK, hN, hA⟩ := id C0
  unfold M_Se_run at h
  refine lv_aload_n hx hb d_Se_run_0 rfl (lv_at hl 0 rfl) ?_
  obtain ⟨v1, σ2, hc3, h⟩ := k_call_e h
  refine k_callv (va_runV (As := []) (rest := []) ⟨hx, hb, hml, hown, hts⟩ (K_Se_clear l D a c9 H.size hc3) (cwV 0 hts (k_gV q_442 q_443 q_444 q_3 q_445) rfl rfl rfl h_Se_clear ⟨Nat.le_of_ble_eq_true rfl, Nat.le_of_ble_eq_true rfl⟩) (k_preV (ci := 6) (q0 := 2) rfl kw_2 hP hK hN hD) rfl rfl hl.1 rfl (lv_room (Nat.le_of_ble_eq_true rfl)) d_Se_run_1 ⟨Nat.zero_le _, Nat.zero_le _⟩) hD hS hA (fun H locs hP hD hS => ?_)
  refine lv_aload_n hx hb d_Se_run_4 rfl (lv_at hl 0 rfl) ?_
  refine va_get (ci := 6) (C := R_Se) (T := T_Se) (N := 13) hx hb hts in_Se hown hK hP 2 kw_2 rfl 1 (by decide) (hts _ q_135) (fun _ h9 => h9) rfl d_Se_run_5 ?_
  refine lv_aload_n hx hb d_Se_run_8 rfl (lv_at hl 0 rfl) ?_
  refine va_get (ci := 6) (C := R_Se) (T := T_Se) (N := 13) hx hb hts in_Se hown hK hP 2 kw_2 rfl 0 (by decide) (hts _ q_134) (fun _ h9 => h9) rfl d_Se_run_9 ?_
  refine lv_iload_n hx hb d_Se_run_12 rfl (lv_at hl 1 rfl) ?_
  obtain ⟨v4, σ5, hc6, h⟩ := k_call_e h
  refine k_callv (va_runV (As := [.ref (a 1), .int x1]) (rest := []) ⟨hx, hb, hml, hown, hts⟩ (K_Pl_lay l D a c9 H.size hc6) (cwV 2 hts (k_gV q_457 q_458 q_459 q_4 q_460) rfl rfl rfl h_Pl_lay ⟨Nat.le_of_ble_eq_true rfl, Nat.le_of_ble_eq_true rfl⟩) (k_preV (ci := 5) (q0 := 3) rfl kw_3 hP hK hN hD) rfl rfl hl.1 rfl (lv_room (Nat.le_of_ble_eq_true rfl)) d_Se_run_13 ⟨Nat.zero_le _, Nat.zero_le _⟩) hD hS hA (fun H locs hP hD hS => ?_)
  refine lv_aload_n hx hb d_Se_run_16 rfl (lv_at hl 0 rfl) ?_
  refine lv_iload_n hx hb d_Se_run_17 rfl (lv_at hl 2 rfl) ?_
  obtain ⟨σ7, eσ7, h⟩ := k_set_e h
  refine va_put (ci := 6) (v := .int x2) (ty := .int) (C := R_Se) (T := T_Se) (N := 13) hx hb hts in_Se t_Se t_Se_ok n_Se hown hK hP hD hS 2 kw_2 rfl 9 (by decide) (hts _ q_143) (fun _ h9 => h9) rfl (by decide +kernel) rfl rfl (Nat.le_of_ble_eq_true rfl) d_Se_run_18 (fun H locs hP hD hS => ?_)
  replace hP := k_mvP (kw_f2_9.trans (congrArg _ eσ7.symm)) hP
  replace hD := k_mvD (kw_f2_9.trans (congrArg _ eσ7.symm)) hD
  refine lv_iconst (v := 0) hx hb d_Se_run_21 (by decide) ?_
  refine lv_istore (lv' := [(4, .int 0), (0, .ref (a 2)), (1, .int x1), (2, .int x2), (3, .int x3)]) hx hb d_Se_run_22 hl (by decide) rfl (fun ls hl => ?_)
  refine lv_aload_n hx hb d_Se_run_24 rfl (lv_at hl 1 rfl) ?_
  refine va_get (ci := 6) (C := R_Se) (T := T_Se) (N := 13) hx hb hts in_Se hown hK hP 2 kw_2 rfl 4 (by decide) (hts _ q_138) (fun _ h9 => h9) rfl d_Se_run_25 ?_
  refine lv_iconst (v := 0) hx hb d_Se_run_28 (by decide) ?_
  refine lv_iconst (v := (-1)) hx hb d_Se_run_29 (by decide) ?_
  obtain ⟨σ8, eσ8, hiσ8, h⟩ := k_st_e h
  refine va_iast hx hb hK hP hD hS 21 0 kw_21 rfl hiσ8 d_Se_run_30 (fun H locs hP hD hS => ?_)
  replace hP := k_mvP (kw_s21.trans (congrArg _ eσ8.symm)) hP
  replace hD := k_mvD (kw_s21.trans (congrArg _ eσ8.symm)) hD
  refine lv_iconst (v := 0) hx hb d_Se_run_31 (by decide) ?_
  refine lv_istore (lv' := [(5, .int 0), (4, .int 0), (0, .ref (a 2)), (1, .int x1), (2, .int x2), (3, .int x3)]) hx hb d_Se_run_32 hl (by decide) rfl (fun ls hl => ?_)
  exact B_Se_run_34 C0 k_fu _ _ _ _ _ _ H locs ls hP hD hS (lv_sub hl [2, 3, 4, 5, 1, 0] rfl) h
theorem K_Se_run (l : Launch) (D : va_G) (a : Nat → Nat) (c9 : Nat → ClassId) (sz : Nat) {σ : kS} {x1 x2 x3 : Int32} {r9 : Int32} {σo : kS} (h : M_Se_run σ x1 x2 x3 = some (r9, σo)) : Met l y_Se_run (Cond.code y_Se_run c_Se_run 6 none :: kG) rm_Se_run (k_Pc D a c9 sz σ [.ref (a 2), .int x1, .int x2, .int x3]) (k_Qv D a c9 σo (k_A a c9 σ sz)) 0 0 (k_A a c9 σ sz) :=
  k_met (Qf := k_Qv D a c9 σo) (by decide) (Nat.le_of_ble_eq_true rfl) (fun p e s m args below meth c A ls C0 hP hD hS hl => B_Se_run_0 C0 σ x1 x2 x3 s.heap [] ls hP hD hS hl h)
end
