/-! what a method takes as given, what it gives back, over the one world -/
/-- the private fields of a nest mate that Matches.keep reads -/
def kN (U : State) : Prop := va_Nw (.fieldLinkNest R_Mt 22 "SequenceMatch$Names" "lengths" "[I" "SequenceMatch") U ∧ va_Nw (.fieldLinkNest R_Mt 31 "SequenceMatch$Names" "trees" "[I" "SequenceMatch") U
theorem kN.warm {s U : State} (hW : s.WarmedH U.vm) (h : kN s) : kN U := ⟨va_Nw.warmF hW h.1, va_Nw.warmF hW h.2⟩
theorem kN.same {s U : State} (e : s.vm = U.vm) (h : kN s) : kN U := ⟨va_Nw.same rfl e h.1, va_Nw.same rfl e h.2⟩
def k_Pc (D : va_G) (a : Nat → Nat) (c9 : Nat → ClassId) (sz : Nat) (σ : kS) (av : List Value) : Array Value → State → Prop := va_Pc av (fun U => U.heap.size = sz ∧ va_P D kcl (kw a c9 σ) U.heap ∧ va_K D kcl (ktys c9) U ∧ kN U ∧ va_D (fun _ => True) (kw a c9 σ))
def k_A (a : Nat → Nat) (c9 : Nat → ClassId) (σ : kS) (sz : Nat) : Nat → Prop := va_A (kw a c9 σ) sz
def k_Qi (D : va_G) (a : Nat → Nat) (c9 : Nat → ClassId) (r : Int32) (σ' : kS) (A : Nat → Prop) : Array Value → State → Outcome → State → Prop := va_Qi (fun r2 (u : kS) => r2 = r ∧ u = σ') (fun u t => va_P D kcl (kw a c9 u) t.heap) A
def k_Qv (D : va_G) (a : Nat → Nat) (c9 : Nat → ClassId) (σ' : kS) (A : Nat → Prop) : Array Value → State → Outcome → State → Prop := va_Qv (fun (u : kS) => u = σ') (fun u t => va_P D kcl (kw a c9 u) t.heap) A
def k_Qr (D : va_G) (a : Nat → Nat) (c9 : Nat → ClassId) (b : Nat) (σ' : kS) (A : Nat → Prop) : Array Value → State → Outcome → State → Prop := va_Qr (fun (u : kS) => u = σ') (fun u ra t => ra = b ∧ va_P D kcl (kw a c9 u) t.heap) A
/-- what holds all through a method's walk -/
def k_Cx (D : va_G) (c9 : Nat → ClassId) (p : Program) (s : State) (m : MethodId) (args : Array Value) (meth : Method) (c : Code) (own : String) (cc : ByteArray) (nL : Nat) (ret : Option FieldType) (A : Nat → Prop) : Prop :=
  p.tables.exec = Jvm.exec ∧ c.code = cc ∧ c.maxLocals = nL ∧ s.vm.findClass own = some m.cls ∧ (∀ w ∈ kG, w.before args s = true) ∧ meth.sig.returnType = ret ∧ meth.locks = false ∧ va_K D kcl (ktys c9) s ∧ kN s ∧ ∀ q, s.heap.size ≤ q → A q
section KR
variable {p : Program} {l : Launch} {e : Env} {R : Room} {s : State} {m : MethodId} {args : Array Value} {below : List Frame} {meth : Method} {c : Code} {H : Heap} {locs : List Loc} {cells slots : Nat} {Q : State → Prop}
variable {cc : ByteArray} {pc : Nat} {ls : Array Slot} {rest st0 : List Value} {D : va_G} {a : Nat → Nat} {c9 : Nat → ClassId} {A : Nat → Prop} {σ σ' : kS}
theorem k_atH {t : State} {w : va_W} (ht : t.heap = H) (hP : va_P D kcl w H) : va_P D kcl w t.heap := ht ▸ hP
theorem k_top {x y : Int32} (h : y = x) (k : W p l e R s m args below meth c H locs cells slots Q (F0 m pc ls (.int y :: rest))) : W p l e R s m args below meth c H locs cells slots Q (F0 m pc ls (.int x :: rest)) := h ▸ k
theorem k_iret {v : Int32} (hx : p.tables.exec = Jvm.exec) (hb : c.code = cc) (hr : meth.sig.returnType = some .int) (hlk : meth.locks = false) (hP : va_P D kcl (kw a c9 σ) H) (hS : va_S A s.heap H locs) (hdg : decode cc pc = .ok (.ireturn, 1)) :
    W p l e R s m args below meth c H locs cells slots (MQ below (k_Qi D a c9 v σ A) args s cells slots A) (F0 m pc ls [.int v]) :=
  W.iret (v := v) hx hb hr (fun t ht hW => ⟨⟨v, σ, rfl, ⟨rfl, rfl⟩, k_atH ht hP⟩, hS.F ht⟩) hS.2.2 hdg hlk
theorem k_zret {v : Int32} (hv : v = 0 ∨ v = 1) (hx : p.tables.exec = Jvm.exec) (hb : c.code = cc) (hr : meth.sig.returnType = some .boolean) (hlk : meth.locks = false) (hP : va_P D kcl (kw a c9 σ) H) (hS : va_S A s.heap H locs) (hdg : decode cc pc = .ok (.ireturn, 1)) :
    W p l e R s m args below meth c H locs cells slots (MQ below (k_Qi D a c9 v σ A) args s cells slots A) (F0 m pc ls [.int v]) :=
  W.zret (v := v) (ty := .boolean) hx hb hr (by rcases hv with rfl | rfl <;> rfl) (fun t ht hW => ⟨⟨v, σ, rfl, ⟨rfl, rfl⟩, k_atH ht hP⟩, hS.F ht⟩) hS.2.2 hdg hlk
theorem k_vret (hx : p.tables.exec = Jvm.exec) (hb : c.code = cc) (hr : meth.sig.returnType = none) (hlk : meth.locks = false) (hP : va_P D kcl (kw a c9 σ) H) (hS : va_S A s.heap H locs) (hdg : decode cc pc = .ok (.return_, 1)) :
    W p l e R s m args below meth c H locs cells slots (MQ below (k_Qv D a c9 σ A) args s cells slots A) (F0 m pc ls []) :=
  W.vret hx hb hr (fun t ht hW => ⟨⟨σ, rfl, rfl, k_atH ht hP⟩, hS.F ht⟩) hS.2.2 hdg hlk
theorem k_aret {b : Nat} {n : String} (hx : p.tables.exec = Jvm.exec) (hb : c.code = cc) (hr : meth.sig.returnType = some (.object n)) (hlk : meth.locks = false) (hP : va_P D kcl (kw a c9 σ) H) (hS : va_S A s.heap H locs) (hdg : decode cc pc = .ok (.areturn, 1)) :
    W p l e R s m args below meth c H locs cells slots (MQ below (k_Qr D a c9 b σ A) args s cells slots A) (F0 m pc ls [.ref b]) :=
  W.aret (v := .ref b) hx hb hr (Or.inl ⟨n, rfl⟩) (Or.inr ⟨b, rfl⟩) (fun t ht hW => ⟨⟨σ, b, rfl, rfl, rfl, k_atH ht hP⟩, hS.F ht⟩) hS.2.2 hdg hlk
theorem k_blind {sz : Nat} {av : List Value} : FrameBlind (k_Pc D a c9 sz σ av) := fun av U g mk q => by
  obtain ⟨q0, q1, qP, qK, qN, qD⟩ := q
  exact ⟨q0, q1, qP, va_K.moved (u := U) (U := U.calling g mk av) (Vm.Alike.refl U.vm) qK, kN.same (s := U) (U := U.calling g mk av) rfl qN, qD⟩
theorem k_preS {As : List Value} (hP : va_P D kcl (kw a c9 σ) H) (hK : va_K D kcl (ktys c9) s) (hN : kN s) (hD : va_D A (kw a c9 σ)) : PreS s H (k_Pc D a c9 H.size σ As) As :=
  ⟨k_blind, fun U hU hW => ⟨rfl, by rw [hU], by rw [hU]; exact hP, va_K.moved hW.alike hK, hN.warm hW, hD.weaken (fun _ _ _ _ => trivial)⟩⟩
theorem k_preV {As : List Value} {ci q0 b : Nat} {fs : List Value} {qc : vw_C} (hc : kcl[ci]? = some qc) (he : (kw a c9 σ)[q0]? = some (b, .inr (ci, fs))) (hP : va_P D kcl (kw a c9 σ) H) (hK : va_K D kcl (ktys c9) s) (hN : kN s) (hD : va_D A (kw a c9 σ)) : PreV s H qc.1 b (k_Pc D a c9 H.size σ (.ref b :: As)) As :=
  ⟨k_blind, va_recv hK hP hc he, fun U hU hW => ⟨rfl, by rw [hU], by rw [hU]; exact hP, va_K.moved hW.alike hK, hN.warm hW, hD.weaken (fun _ _ _ _ => trivial)⟩⟩
theorem k_calli {r : Int32} {mc ms : Nat} {av : Array Value} (hr : va_Run p l e R s m args below meth c H locs cells slots mc ms (F0 m pc ls st0) rest (k_Qi D a c9 r σ' (k_A a c9 σ H.size) av) (k_A a c9 σ H.size)) (hD : va_D A (kw a c9 σ)) (hS : va_S A s.heap H locs) (hA : ∀ q, s.heap.size ≤ q → A q)
    (kk : ∀ (H1 : Heap) (locs1 : List Loc), va_P D kcl (kw a c9 σ') H1 → va_D A (kw a c9 σ') → va_S A s.heap H1 locs1 → W p l e R s m args below meth c H1 locs1 (cells + mc) (slots + ms) Q (F0 m (pc + 3) ls (.int r :: rest))) : W p l e R s m args below meth c H locs cells slots Q (F0 m pc ls st0) := by
  have hF := k_free hD hS hA
  refine va_calli hr hS (fun q _ h => hF q h) hF (fun r2 u t H1 locs1 ht hvm hw hB hz hk hS1 => ?_)
  obtain ⟨rfl, rfl⟩ := hw
  exact kk H1 locs1 (by rw [← ht]; exact hB) (kw_D hD) hS1
theorem k_callv {mc ms : Nat} {av : Array Value} (hr : va_Run p l e R s m args below meth c H locs cells slots mc ms (F0 m pc ls st0) rest (k_Qv D a c9 σ' (k_A a c9 σ H.size) av) (k_A a c9 σ H.size)) (hD : va_D A (kw a c9 σ)) (hS : va_S A s.heap H locs) (hA : ∀ q, s.heap.size ≤ q → A q)
    (kk : ∀ (H1 : Heap) (locs1 : List Loc), va_P D kcl (kw a c9 σ') H1 → va_D A (kw a c9 σ') → va_S A s.heap H1 locs1 → W p l e R s m args below meth c H1 locs1 (cells + mc) (slots + ms) Q (F0 m (pc + 3) ls rest)) : W p l e R s m args below meth c H locs cells slots Q (F0 m pc ls st0) := by
  have hF := k_free hD hS hA
  refine va_callv hr hS (fun q _ h => hF q h) hF (fun u t H1 locs1 ht hvm hw hB hz hk hS1 => ?_)
  cases hw
  exact kk H1 locs1 (by rw [← ht]; exact hB) (kw_D hD) hS1
theorem k_callr {b mc ms : Nat} {av : Array Value} (hr : va_Run p l e R s m args below meth c H locs cells slots mc ms (F0 m pc ls st0) rest (k_Qr D a c9 b σ' (k_A a c9 σ H.size) av) (k_A a c9 σ H.size)) (hD : va_D A (kw a c9 σ)) (hS : va_S A s.heap H locs) (hA : ∀ q, s.heap.size ≤ q → A q)
    (kk : ∀ (H1 : Heap) (locs1 : List Loc), va_P D kcl (kw a c9 σ') H1 → va_D A (kw a c9 σ') → va_S A s.heap H1 locs1 → W p l e R s m args below meth c H1 locs1 (cells + mc) (slots + ms) Q (F0 m (pc + 3) ls (.ref b :: rest))) : W p l e R s m args below meth c H locs cells slots Q (F0 m pc ls st0) := by
  have hF := k_free hD hS hA
  refine va_callr hr hS (fun q _ h => hF q h) hF (fun u ra t H1 locs1 ht hvm hw hB hz hk hS1 => ?_)
  cases hw
  obtain ⟨rfl, hB⟩ := hB
  exact kk H1 locs1 (by rw [← ht]; exact hB) (kw_D hD) hS1
/-- a contract out of the walk of a body -/
theorem k_met {y : MethodName} {nL mc ms sz : Nat} {ret : Option FieldType} {rm : Room} {av : List Value} {Qf : (Nat → Prop) → Array Value → State → Outcome → State → Prop} (hy : plainName y.cls = true) (hav : (lg_sl av).length ≤ nL)
    (body : ∀ (p : Program) (e : Env) (s : State) (m : MethodId) (args : Array Value) (below : List Frame) (meth : Method) (c : Code) (A : Nat → Prop) (ls : Array Slot), k_Cx D c9 p s m args meth c y.cls cc nL ret A → va_P D kcl (kw a c9 σ) s.heap → va_D A (kw a c9 σ) → va_S A s.heap s.heap [] → lv_has ls nL (lv_args 0 av) →
      W p l e rm s m args below meth c s.heap [] 0 0 (MQ below (Qf A) args s mc ms A) (F0 m 0 ls [])) :
    Met l y (Cond.code y cc nL ret :: kG) rm (k_Pc D a c9 sz σ av) (Qf (k_A a c9 σ sz)) mc ms (k_A a c9 σ sz) := by
  refine Met.ofW (cc := cc) (maxL := nL) (ret := ret) hy rfl ?_
  intro p e s m args below meth c s₁ B hml hv
  obtain ⟨rfl, hsz, hP, hK, hN, hD0⟩ := hv
  have hl := lv_entry av (n := nL) hav
  rw [lg_entry_eq]
  generalize (lg_sl av ++ List.replicate (nL - (lg_sl av).length) Slot.unset).toArray = ls at hl ⊢
  subst hsz
  exact body p e s m _ below meth c _ ls ⟨B.exec, B.bytes, hml, findClass_of_methodNamed B.named, fun w h => atoms_spec (ws := Cond.code y cc nL ret :: kG) B.pre w (List.mem_cons_of_mem _ h), B.returns, B.notSynchronized, hK, hN, fun q h => Or.inr h⟩ hP (hD0.self (sz := s.heap.size)) va_S.rf hl
end KR
