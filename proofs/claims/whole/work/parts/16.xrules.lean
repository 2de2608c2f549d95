/-! methods that may throw: what they take as given, what they give back -/
def kE (n : Nat) : String := if n = 1 then "java/lang/IllegalArgumentException" else if n = 2 then "java/lang/IllegalStateException" else "java/lang/IndexOutOfBoundsException"
/-- the words of a throw that a warm machine keeps by rows of their own -/
def kBc : List (String × String) := [("java/lang/IllegalArgumentException", "java/lang/IllegalArgumentException"), ("java/lang/IllegalStateException", "java/lang/IllegalStateException"), ("java/lang/IndexOutOfBoundsException", "java/lang/IndexOutOfBoundsException")]
def kBd : List MethodName := [⟨"java/lang/RuntimeException", "<init>", "()V"⟩, ⟨"java/lang/RuntimeException", "<init>", "(Ljava/lang/String;)V"⟩, ⟨"java/lang/Exception", "<init>", "()V"⟩, ⟨"java/lang/Exception", "<init>", "(Ljava/lang/String;)V"⟩, ⟨"java/lang/Throwable", "<init>", "()V"⟩, ⟨"java/lang/Throwable", "<init>", "(Ljava/lang/String;)V"⟩]
def kB : List Cond := kBc.map (fun q => Cond.castable q.1 q.2) ++ kBd.map Cond.declares
def kStr : List (Nat × String) := [(162, "there is no such name, head, kind or number of tries"), (142, "no room for a tree"), (152, "no such tree"), (57, "the node can't take this part"), (69, "it is no hole"), (158, "the tree isn't plain"), (160, "no such match"), (111, "no room for a rule")]
def kX (A : Nat → Prop) (U : State) (H : Heap) : Prop := vx_Zq Bundle.tN "UNASSIGNED_STACK" Bundle.steD A U H ∧ vx_Zq Bundle.tN "SUPPRESSED_SENTINEL" Bundle.listD A U H ∧ (∀ q ∈ kBc, va_Nw (.castable q.1 q.2) U) ∧ (∀ x ∈ kBd, va_Nw (.declares x) U) ∧ ∀ q ∈ kStr, ∃ sa, vk_R R_SM q.1 q.2 sa U
theorem kX.at {A B : Nat → Prop} {s U : State} {H : Heap} {locs : List Loc} (h : kX A s s.heap) (hS : va_S A s.heap H locs) (hB : ∀ q, B q → A q) (hW : s.WarmedH U.vm) (hU : U.heap = H) : kX B U U.heap := by
  obtain ⟨h1, h2, h3, h4, h5⟩ := h
  rw [hU]
  exact ⟨vx_Zq.moved hW.alike ((h1.kept hS.2.1).narrow hB), vx_Zq.moved hW.alike ((h2.kept hS.2.1).narrow hB), fun q hq => va_Nw.warmC hW (h3 q hq), fun x hx => va_Nw.warmD hW (h4 x hx), fun q hq => by
    obtain ⟨sa, h⟩ := h5 q hq
    exact ⟨sa, vk_R.warm hW h⟩⟩
theorem kX.same {A : Nat → Prop} {s U : State} {H : Heap} (e : s.vm = U.vm) (h : kX A s H) : kX A U H := by
  obtain ⟨h1, h2, h3, h4, h5⟩ := h
  have hal : s.vm.Alike U.vm := e ▸ Vm.Alike.refl s.vm
  exact ⟨vx_Zq.moved hal h1, vx_Zq.moved hal h2, fun q hq => va_Nw.same rfl e (h3 q hq), fun x hx => va_Nw.same rfl e (h4 x hx), fun q hq => by
    obtain ⟨sa, h⟩ := h5 q hq
    exact ⟨sa, vk_R.same e.symm h⟩⟩
/-- all the words of a throw -/
theorem k_hat {args : Array Value} {s : State} {A : Nat → Prop} {H : Heap} {L : List Cond} (hts : ∀ w ∈ kG, w.before args s = true) (hX : kX A s H) (h1 : ∀ w ∈ L.filter goodWord, w ∈ lw_tbl) (h2 : ∀ w ∈ L.filter (fun w => !goodWord w), w ∈ kB) : ∀ w ∈ L, w.before args s = true :=
  vx_hat (B := kB) (fun w hw => hts w (List.mem_filter.mpr ⟨h1 w hw, (List.mem_filter.mp hw).2⟩)) h2 (fun w hw => by
    rcases List.mem_append.mp hw with h | h
    · obtain ⟨q, hq, rfl⟩ := List.mem_map.mp h
      exact va_Nw.use rfl (hX.2.2.1 q hq)
    · obtain ⟨q, hq, rfl⟩ := List.mem_map.mp h
      exact va_Nw.use rfl (hX.2.2.2.1 q hq))
abbrev kNm : List String := ["java/lang/RuntimeException", "java/lang/Exception"]
set_option maxRecDepth 20000 in
theorem k_x59a : ∀ w ∈ (vx_atS R_SM 59 "java/lang/IllegalArgumentException" kNm).filter goodWord, w ∈ lw_tbl := by decide +kernel
set_option maxRecDepth 20000 in
theorem k_x59b : ∀ w ∈ (vx_atS R_SM 59 "java/lang/IllegalArgumentException" kNm).filter (fun w => !goodWord w), w ∈ kB := by decide +kernel
set_option maxRecDepth 20000 in
theorem k_x59c : ∀ w ∈ Cond.classLink R_SM 55 "java/lang/IllegalArgumentException" :: Cond.initialized "java/lang/IllegalArgumentException" :: vx_atS R_SM 59 "java/lang/IllegalArgumentException" kNm, vx_ot w = true := by decide +kernel
set_option maxRecDepth 20000 in
theorem k_x113a : ∀ w ∈ (vx_atS R_SM 113 "java/lang/IllegalStateException" kNm).filter goodWord, w ∈ lw_tbl := by decide +kernel
set_option maxRecDepth 20000 in
theorem k_x113b : ∀ w ∈ (vx_atS R_SM 113 "java/lang/IllegalStateException" kNm).filter (fun w => !goodWord w), w ∈ kB := by decide +kernel
set_option maxRecDepth 20000 in
theorem k_x113c : ∀ w ∈ Cond.classLink R_SM 109 "java/lang/IllegalStateException" :: Cond.initialized "java/lang/IllegalStateException" :: vx_atS R_SM 113 "java/lang/IllegalStateException" kNm, vx_ot w = true := by decide +kernel
set_option maxRecDepth 20000 in
theorem k_x154a : ∀ w ∈ (vx_atS R_SM 154 "java/lang/IndexOutOfBoundsException" kNm).filter goodWord, w ∈ lw_tbl := by decide +kernel
set_option maxRecDepth 20000 in
theorem k_x154b : ∀ w ∈ (vx_atS R_SM 154 "java/lang/IndexOutOfBoundsException" kNm).filter (fun w => !goodWord w), w ∈ kB := by decide +kernel
set_option maxRecDepth 20000 in
theorem k_x154c : ∀ w ∈ Cond.classLink R_SM 150 "java/lang/IndexOutOfBoundsException" :: Cond.initialized "java/lang/IndexOutOfBoundsException" :: vx_atS R_SM 154 "java/lang/IndexOutOfBoundsException" kNm, vx_ot w = true := by decide +kernel
def k_PcX (D : va_G) (a : Nat → Nat) (c9 : Nat → ClassId) (sz : Nat) (σ : kS) (av : List Value) : Array Value → State → Prop := va_Pc av (fun U => U.heap.size = sz ∧ va_P D kcl (kw a c9 σ) U.heap ∧ va_K D kcl (ktys c9) U ∧ kN U ∧ va_D (fun _ => True) (kw a c9 σ) ∧ kX (k_A a c9 σ sz) U U.heap)
def k_QiX (D : va_G) (a : Nat → Nat) (c9 : Nat → ClassId) (res : kR) (A : Nat → Prop) : Array Value → State → Outcome → State → Prop := va_Qi (fun r2 (u : kS) => res = ((0, r2), u)) (fun u t => va_P D kcl (kw a c9 u) t.heap) A
def k_QvX (D : va_G) (a : Nat → Nat) (c9 : Nat → ClassId) (res : kR) (A : Nat → Prop) : Array Value → State → Outcome → State → Prop := va_Qv (fun (u : kS) => res = ((0, 0), u)) (fun u t => va_P D kcl (kw a c9 u) t.heap) A
def k_XC (D : va_G) (a : Nat → Nat) (c9 : Nat → ClassId) (res : kR) (A : Nat → Prop) : String → State → State → Prop := vx_X (fun (_ : kS) => True) (fun E u t => (∃ n x, n ≠ 0 ∧ res = ((n, x), u) ∧ E = kE n) ∧ va_P D kcl (kw a c9 u) t.heap) A
def k_Cy (D : va_G) (c9 : Nat → ClassId) (l : Launch) (p : Program) (s : State) (m : MethodId) (args : Array Value) (meth : Method) (c : Code) (own : String) (cc : ByteArray) (nL : Nat) (ret : Option FieldType) (A : Nat → Prop) : Prop :=
  k_Cx D c9 p s m args meth c own cc nL ret A ∧ l.stackTraces = false ∧ (∀ x ∈ c.exceptionTable.toList, False) ∧ kX A s s.heap
section KX
variable {p : Program} {l : Launch} {e : Env} {R : Room} {s : State} {m : MethodId} {args : Array Value} {below : List Frame} {meth : Method} {c : Code} {H : Heap} {locs : List Loc} {cells slots : Nat} {Q : State → Prop}
variable {cc : ByteArray} {pc : Nat} {ls : Array Slot} {rest st0 : List Value} {D : va_G} {a : Nat → Nat} {c9 : Nat → ClassId} {A : Nat → Prop} {σ σ' : kS} {mc ms : Nat}
theorem k_iretX {v : Int32} (hx : p.tables.exec = Jvm.exec) (hb : c.code = cc) (hr : meth.sig.returnType = some .int) (hlk : meth.locks = false) (hP : va_P D kcl (kw a c9 σ) H) (hS : va_S A s.heap H locs) (hdg : decode cc pc = .ok (.ireturn, 1)) :
    W p l e R s m args below meth c H locs cells slots (vx_MQ below (k_QiX D a c9 ((0, v), σ) A) (k_XC D a c9 ((0, v), σ) A) args s cells slots A) (F0 m pc ls [.int v]) :=
  vx_ret (W.iret (v := v) hx hb hr (fun t ht hW => ⟨⟨v, σ, rfl, rfl, k_atH ht hP⟩, hS.F ht⟩) hS.2.2 hdg hlk)
theorem k_zretX {v : Int32} (hv : v = 0 ∨ v = 1) (hx : p.tables.exec = Jvm.exec) (hb : c.code = cc) (hr : meth.sig.returnType = some .boolean) (hlk : meth.locks = false) (hP : va_P D kcl (kw a c9 σ) H) (hS : va_S A s.heap H locs) (hdg : decode cc pc = .ok (.ireturn, 1)) :
    W p l e R s m args below meth c H locs cells slots (vx_MQ below (k_QiX D a c9 ((0, v), σ) A) (k_XC D a c9 ((0, v), σ) A) args s cells slots A) (F0 m pc ls [.int v]) :=
  vx_ret (W.zret (v := v) (ty := .boolean) hx hb hr (by rcases hv with rfl | rfl <;> rfl) (fun t ht hW => ⟨⟨v, σ, rfl, rfl, k_atH ht hP⟩, hS.F ht⟩) hS.2.2 hdg hlk)
theorem k_vretX (hx : p.tables.exec = Jvm.exec) (hb : c.code = cc) (hr : meth.sig.returnType = none) (hlk : meth.locks = false) (hP : va_P D kcl (kw a c9 σ) H) (hS : va_S A s.heap H locs) (hdg : decode cc pc = .ok (.return_, 1)) :
    W p l e R s m args below meth c H locs cells slots (vx_MQ below (k_QvX D a c9 ((0, 0), σ) A) (k_XC D a c9 ((0, 0), σ) A) args s cells slots A) (F0 m pc ls []) :=
  vx_ret (W.vret hx hb hr (fun t ht hW => ⟨⟨σ, rfl, rfl, k_atH ht hP⟩, hS.F ht⟩) hS.2.2 hdg hlk)
/-- what a throw owes: the world stands as it was -/
theorem k_thrown {n : Nat} {cls : String} (hn : n ≠ 0) (hE : cls = kE n) (hP : va_P D kcl (kw a c9 σ) H) (hS : va_S A s.heap H locs) : ∀ t : State, s.vm.Alike t.vm → H.size ≤ t.heap.size → (∀ q : Nat, q < H.size → t.heap[q]? = H[q]?) → k_XC D a c9 ((n, 0), σ) A cls s t :=
  fun t _ h1 h2 => ⟨σ, trivial, ⟨⟨n, 0, hn, rfl, hE⟩, hP.kept (fun k q hk => h2 q.1 (hP k q hk).lt)⟩, Nat.le_trans hS.1 h1, fun q hq hA => (h2 q (Nat.lt_of_lt_of_le hq hS.1)).trans (hS.2.1 q hq hA)⟩
theorem k_blindX {sz : Nat} {av : List Value} : FrameBlind (k_PcX D a c9 sz σ av) := fun av U g mk q => by
  obtain ⟨q0, q1, qP, qK, qN, qD, qX⟩ := q
  exact ⟨q0, q1, qP, va_K.moved (u := U) (U := U.calling g mk av) (Vm.Alike.refl U.vm) qK, kN.same (s := U) (U := U.calling g mk av) rfl qN, qD, kX.same (s := U) (U := U.calling g mk av) rfl qX⟩
theorem k_preSX {As : List Value} (hP : va_P D kcl (kw a c9 σ) H) (hK : va_K D kcl (ktys c9) s) (hN : kN s) (hD : va_D A (kw a c9 σ)) (hX : kX A s s.heap) (hS : va_S A s.heap H locs) (hA : ∀ q, s.heap.size ≤ q → A q) : PreS s H (k_PcX D a c9 H.size σ As) As :=
  ⟨k_blindX, fun U hU hW => ⟨rfl, by rw [hU], by rw [hU]; exact hP, va_K.moved hW.alike hK, hN.warm hW, hD.weaken (fun _ _ _ _ => trivial), hX.at hS (k_free hD hS hA) hW hU⟩⟩
theorem k_preVX {As : List Value} {ci q0 b : Nat} {fs : List Value} {qc : vw_C} (hc : kcl[ci]? = some qc) (he : (kw a c9 σ)[q0]? = some (b, .inr (ci, fs))) (hP : va_P D kcl (kw a c9 σ) H) (hK : va_K D kcl (ktys c9) s) (hN : kN s) (hD : va_D A (kw a c9 σ)) (hX : kX A s s.heap) (hS : va_S A s.heap H locs) (hA : ∀ q, s.heap.size ≤ q → A q) : PreV s H qc.1 b (k_PcX D a c9 H.size σ (.ref b :: As)) As :=
  ⟨k_blindX, va_recv hK hP hc he, fun U hU hW => ⟨rfl, by rw [hU], by rw [hU]; exact hP, va_K.moved hW.alike hK, hN.warm hW, hD.weaken (fun _ _ _ _ => trivial), hX.at hS (k_free hD hS hA) hW hU⟩⟩
/-- what it threw goes on to the caller -/
theorem k_passX {E : String} {ce : Cell} {q9 : Addr} {n1 : Nat} {x1 : Int32} {σ1 u : kS} {t : State} {H1 : Heap} {locs1 : List Loc} {res : kR} {Qc : Array Value → State → Outcome → State → Prop} (hout : ∀ x ∈ c.exceptionTable.toList, False) (hlk : meth.locks = false) (hc : cells ≤ mc) (hs : slots ≤ ms)
    (hp : n1 ≠ 0 → res = ((n1, 0), σ1)) (ht : t.heap = H1) (hB : (∃ n x, n ≠ 0 ∧ (((n1, x1), σ1) : kR) = ((n, x), u) ∧ E = kE n) ∧ va_P D kcl (kw a c9 u) t.heap) (hS1 : va_S A s.heap H1 locs1) (hce : H1[q9]? = some ce) (hcv : ce.vm = .none) (hcl : s.vm.findClass E = some ce.cls) :
    vx_W p l e R s m args below meth c H1 locs1 cells slots (vx_MQ below Qc (k_XC D a c9 res A) args s mc ms A) (F0 m pc ls rest) q9 := by
  obtain ⟨⟨n, x, hn, he, hE⟩, hP⟩ := hB
  cases he
  refine vx_out (fun x hx => (hout x hx).elim) hlk hce hcv hcl (fun t' ht' _ => ?_) hS1.2.2 hc hs
  exact ⟨σ1, trivial, ⟨⟨n1, 0, hn, hp hn, hE⟩, by rw [ht', ← ht]; exact hP⟩, hS1.F ht'⟩
theorem k_xcalli {n1 : Nat} {x1 : Int32} {σ1 : kS} {res : kR} {mc1 ms1 : Nat} {av : Array Value} {Qc : Array Value → State → Outcome → State → Prop}
    (hr : vx_Run p l e R s m args below meth c H locs cells slots mc1 ms1 (F0 m pc ls st0) rest (k_QiX D a c9 ((n1, x1), σ1) (k_A a c9 σ H.size) av) (k_XC D a c9 ((n1, x1), σ1) (k_A a c9 σ H.size)) (k_A a c9 σ H.size)) (hD : va_D A (kw a c9 σ)) (hS : va_S A s.heap H locs) (hA : ∀ q, s.heap.size ≤ q → A q)
    (hp : n1 ≠ 0 → res = ((n1, 0), σ1)) (hout : ∀ x ∈ c.exceptionTable.toList, False) (hlk : meth.locks = false) (hc : cells + mc1 ≤ mc) (hs : slots + ms1 ≤ ms)
    (kk : n1 = 0 → ∀ (H1 : Heap) (locs1 : List Loc), va_P D kcl (kw a c9 σ1) H1 → va_D A (kw a c9 σ1) → va_S A s.heap H1 locs1 → W p l e R s m args below meth c H1 locs1 (cells + mc1) (slots + ms1) (vx_MQ below Qc (k_XC D a c9 res A) args s mc ms A) (F0 m (pc + 3) ls (.int x1 :: rest))) :
    W p l e R s m args below meth c H locs cells slots (vx_MQ below Qc (k_XC D a c9 res A) args s mc ms A) (F0 m pc ls st0) := by
  have hF := k_free hD hS hA
  refine vx_calli hr hS (fun q _ h => hF q h) hF (fun q _ h => hF q h) (fun E ce q9 u t H1 locs1 ht hvm _ hB hz hk hS1 hce hcv hcl => ?_) (fun r2 u t H1 locs1 ht hvm hw hB hz hk hS1 => ?_)
  · exact k_passX hout hlk hc hs hp ht hB hS1 hce hcv hcl
  · cases hw
    exact kk rfl H1 locs1 (by rw [← ht]; exact hB) (kw_D hD) hS1
theorem k_xcallv {n1 : Nat} {x1 : Int32} {σ1 : kS} {res : kR} {mc1 ms1 : Nat} {av : Array Value} {Qc : Array Value → State → Outcome → State → Prop}
    (hr : vx_Run p l e R s m args below meth c H locs cells slots mc1 ms1 (F0 m pc ls st0) rest (k_QvX D a c9 ((n1, x1), σ1) (k_A a c9 σ H.size) av) (k_XC D a c9 ((n1, x1), σ1) (k_A a c9 σ H.size)) (k_A a c9 σ H.size)) (hD : va_D A (kw a c9 σ)) (hS : va_S A s.heap H locs) (hA : ∀ q, s.heap.size ≤ q → A q)
    (hp : n1 ≠ 0 → res = ((n1, 0), σ1)) (hout : ∀ x ∈ c.exceptionTable.toList, False) (hlk : meth.locks = false) (hc : cells + mc1 ≤ mc) (hs : slots + ms1 ≤ ms)
    (kk : n1 = 0 → ∀ (H1 : Heap) (locs1 : List Loc), va_P D kcl (kw a c9 σ1) H1 → va_D A (kw a c9 σ1) → va_S A s.heap H1 locs1 → W p l e R s m args below meth c H1 locs1 (cells + mc1) (slots + ms1) (vx_MQ below Qc (k_XC D a c9 res A) args s mc ms A) (F0 m (pc + 3) ls rest)) :
    W p l e R s m args below meth c H locs cells slots (vx_MQ below Qc (k_XC D a c9 res A) args s mc ms A) (F0 m pc ls st0) := by
  have hF := k_free hD hS hA
  refine vx_callv hr hS (fun q _ h => hF q h) hF (fun q _ h => hF q h) (fun E ce q9 u t H1 locs1 ht hvm _ hB hz hk hS1 hce hcv hcl => ?_) (fun u t H1 locs1 ht hvm hw hB hz hk hS1 => ?_)
  · exact k_passX hout hlk hc hs hp ht hB hS1 hce hcv hcl
  · cases hw
    exact kk rfl H1 locs1 (by rw [← ht]; exact hB) (kw_D hD) hS1
theorem k_metX {y : MethodName} {nL sz : Nat} {ret : Option FieldType} {rm : Room} {av : List Value} {Qf : (Nat → Prop) → Array Value → State → Outcome → State → Prop} {Xf : (Nat → Prop) → String → State → State → Prop} (hst : l.stackTraces = false) (hy : plainName y.cls = true) (hav : (lg_sl av).length ≤ nL)
    (body : ∀ (p : Program) (e : Env) (s : State) (m : MethodId) (args : Array Value) (below : List Frame) (meth : Method) (c : Code) (A : Nat → Prop) (ls : Array Slot), k_Cy D c9 l p s m args meth c y.cls cc nL ret A → va_P D kcl (kw a c9 σ) s.heap → va_D A (kw a c9 σ) → va_S A s.heap s.heap [] → lv_has ls nL (lv_args 0 av) →
      W p l e rm s m args below meth c s.heap [] 0 0 (vx_MQ below (Qf A) (Xf A) args s mc ms A) (F0 m 0 ls [])) :
    vx_Met l y (Cond.code y cc nL ret :: kG) rm (k_PcX D a c9 sz σ av) (Qf (k_A a c9 σ sz)) (Xf (k_A a c9 σ sz)) mc ms (k_A a c9 σ sz) := by
  refine vx_ofW (cc := cc) (maxL := nL) (ret := ret) hy rfl ?_
  intro p e s m args below meth c s₁ B hml htab hv
  obtain ⟨rfl, hsz, hP, hK, hN, hD0, hX⟩ := hv
  have hl := lv_entry av (n := nL) hav
  rw [lg_entry_eq]
  generalize (lg_sl av ++ List.replicate (nL - (lg_sl av).length) Slot.unset).toArray = ls at hl ⊢
  subst hsz
  exact body p e s m _ below meth c _ ls ⟨⟨B.exec, B.bytes, hml, findClass_of_methodNamed B.named, fun w h => atoms_spec (ws := Cond.code y cc nL ret :: kG) B.pre w (List.mem_cons_of_mem _ h), B.returns, B.notSynchronized, hK, hN, fun q h => Or.inr h⟩, hst, htab, hX⟩ hP (hD0.self (sz := s.heap.size)) va_S.rf hl
end KX
