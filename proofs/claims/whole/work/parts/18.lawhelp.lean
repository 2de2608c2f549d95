/-! the law's helpers: a try round one call -/
def k_try (o : Option kR) (e1 e2 : Nat) (k : Int32 → kS → Option (Int32 × kS)) : Option (Int32 × kS) := match o with
  | none => none
  | some ((0, x), σ) => k x σ
  | some ((n + 1, _), σ) => if n + 1 = e1 then some (1, σ) else if n + 1 = e2 then some (2, σ) else none
theorem k_try_e {o : Option kR} {e1 e2 : Nat} {k : Int32 → kS → Option (Int32 × kS)} {r : Int32} {σo : kS} (h : k_try o e1 e2 k = some (r, σo)) : ∃ n x σ', o = some ((n, x), σ') ∧ (n = 0 → k x σ' = some (r, σo)) ∧ (n ≠ 0 → (n = e1 ∧ 1 = r ∧ σ' = σo) ∨ (n ≠ e1 ∧ n = e2 ∧ 2 = r ∧ σ' = σo)) := by
  cases o with
  | none => cases h
  | some q =>
    obtain ⟨⟨n, x⟩, σ'⟩ := q
    cases n with
    | zero => exact ⟨0, x, σ', rfl, fun _ => h, fun e => absurd rfl e⟩
    | succ n =>
      refine ⟨n + 1, x, σ', rfl, fun e => by omega, fun _ => ?_⟩
      replace h : (if n + 1 = e1 then some ((1 : Int32), σ') else if n + 1 = e2 then some (2, σ') else none) = some (r, σo) := h
      by_cases c1 : n + 1 = e1
      · rw [if_pos c1] at h; cases h; exact Or.inl ⟨c1, rfl, rfl⟩
      · rw [if_neg c1] at h
        by_cases c2 : n + 1 = e2
        · rw [if_pos c2] at h; cases h; exact Or.inr ⟨c1, c2, rfl, rfl⟩
        · rw [if_neg c2] at h; cases h
def kNc : List (String × String) := [("java/lang/IllegalStateException", "java/lang/IllegalArgumentException"), ("java/lang/IndexOutOfBoundsException", "java/lang/IllegalArgumentException"), ("java/lang/IllegalArgumentException", "java/lang/IllegalStateException"), ("java/lang/IndexOutOfBoundsException", "java/lang/IllegalStateException"), ("java/lang/IllegalArgumentException", "java/lang/IndexOutOfBoundsException"), ("java/lang/IllegalStateException", "java/lang/IndexOutOfBoundsException")]
def kY (U : State) : Prop := ∀ q ∈ kNc, va_Nc q.1 q.2 U
def k_PcY (D : va_G) (a : Nat → Nat) (c9 : Nat → ClassId) (sz : Nat) (σ : kS) (av : List Value) : Array Value → State → Prop := va_Pc av (fun U => U.heap.size = sz ∧ va_P D kcl (kw a c9 σ) U.heap ∧ va_K D kcl (ktys c9) U ∧ kN U ∧ va_D (fun _ => True) (kw a c9 σ) ∧ kX (k_A a c9 σ sz) U U.heap ∧ kY U)
theorem k_in01 : vp_in 0 1 := by unfold vp_in; decide
section KY
variable {p : Program} {l : Launch} {e : Env} {R : Room} {s : State} {m : MethodId} {args : Array Value} {below : List Frame} {meth : Method} {c : Code} {H : Heap} {locs : List Loc} {cells slots : Nat} {Q : State → Prop}
variable {cc : ByteArray} {pc : Nat} {ls : Array Slot} {rest st0 : List Value} {D : va_G} {a : Nat → Nat} {c9 : Nat → ClassId} {A : Nat → Prop} {σ σ' : kS} {mc ms : Nat}
theorem k_blindY {sz : Nat} {av : List Value} : FrameBlind (k_PcY D a c9 sz σ av) := fun av U g mk q => by
  obtain ⟨q0, q1, qP, qK, qN, qD, qX, qY⟩ := q
  exact ⟨q0, q1, qP, va_K.moved (u := U) (U := U.calling g mk av) (Vm.Alike.refl U.vm) qK, kN.same (s := U) (U := U.calling g mk av) rfl qN, qD, kX.same (s := U) (U := U.calling g mk av) rfl qX, fun q hq => va_Nc.moved (u := U) (U := U.calling g mk av) (Vm.Alike.refl U.vm) (qY q hq)⟩
theorem k_preSY {As : List Value} (hP : va_P D kcl (kw a c9 σ) H) (hK : va_K D kcl (ktys c9) s) (hN : kN s) (hD : va_D A (kw a c9 σ)) (hX : kX A s s.heap) (hY : kY s) (hS : va_S A s.heap H locs) (hA : ∀ q, s.heap.size ≤ q → A q) : PreS s H (k_PcY D a c9 H.size σ As) As :=
  ⟨k_blindY, fun U hU hW => ⟨rfl, by rw [hU], by rw [hU]; exact hP, va_K.moved hW.alike hK, hN.warm hW, hD.weaken (fun _ _ _ _ => trivial), hX.at hS (k_free hD hS hA) hW hU, fun q hq => va_Nc.moved hW.alike (hY q hq)⟩⟩
theorem k_tcalli {n1 : Nat} {x1 : Int32} {σ1 : kS} {mc1 ms1 : Nat} {av : Array Value}
    (hr : vx_Run p l e R s m args below meth c H locs cells slots mc1 ms1 (F0 m pc ls st0) rest (k_QiX D a c9 ((n1, x1), σ1) (k_A a c9 σ H.size) av) (k_XC D a c9 ((n1, x1), σ1) (k_A a c9 σ H.size)) (k_A a c9 σ H.size)) (hD : va_D A (kw a c9 σ)) (hS : va_S A s.heap H locs) (hA : ∀ q, s.heap.size ≤ q → A q)
    (kx : n1 ≠ 0 → ∀ (E : String) (ce : Cell) (q9 : Addr) (H1 : Heap) (locs1 : List Loc), E = kE n1 → va_P D kcl (kw a c9 σ1) H1 → va_D A (kw a c9 σ1) → va_S A s.heap H1 locs1 → H1[q9]? = some ce → ce.vm = .none → s.vm.findClass E = some ce.cls → vx_W p l e R s m args below meth c H1 locs1 (cells + mc1) (slots + ms1) Q (F0 m pc ls rest) q9)
    (kk : n1 = 0 → ∀ (H1 : Heap) (locs1 : List Loc), va_P D kcl (kw a c9 σ1) H1 → va_D A (kw a c9 σ1) → va_S A s.heap H1 locs1 → W p l e R s m args below meth c H1 locs1 (cells + mc1) (slots + ms1) Q (F0 m (pc + 3) ls (.int x1 :: rest))) :
    W p l e R s m args below meth c H locs cells slots Q (F0 m pc ls st0) := by
  have hF := k_free hD hS hA
  refine vx_calli hr hS (fun q _ h => hF q h) hF (fun q _ h => hF q h) (fun E ce q9 u t H1 locs1 ht hvm _ hB hz hk hS1 hce hcv hcl => ?_) (fun r2 u t H1 locs1 ht hvm hw hB hz hk hS1 => ?_)
  · obtain ⟨⟨n, x, hn, he, hE⟩, hP⟩ := hB
    cases he
    exact kx hn E ce q9 H1 locs1 hE (by rw [← ht]; exact hP) (kw_D hD) hS1 hce hcv hcl
  · cases hw
    exact kk rfl H1 locs1 (by rw [← ht]; exact hB) (kw_D hD) hS1
theorem k_metW {y : MethodName} {nL sz : Nat} {ret : Option FieldType} {hh : List (Nat × Nat × Nat × Nat)} {rm : Room} {av : List Value} {Qf : (Nat → Prop) → Array Value → State → Outcome → State → Prop} (hy : plainName y.cls = true) (hav : (lg_sl av).length ≤ nL)
    (body : ∀ (p : Program) (e : Env) (s : State) (m : MethodId) (args : Array Value) (below : List Frame) (meth : Method) (c : Code) (A : Nat → Prop) (ls : Array Slot), k_Cx D c9 p s m args meth c y.cls cc nL ret A → c.exceptionTable.toList = tableOf hh → kX A s s.heap → kY s → va_P D kcl (kw a c9 σ) s.heap → va_D A (kw a c9 σ) → va_S A s.heap s.heap [] → lv_has ls nL (lv_args 0 av) →
      W p l e rm s m args below meth c s.heap [] 0 0 (MQ below (Qf A) args s mc ms A) (F0 m 0 ls [])) :
    Met l y (Cond.codeWith y cc nL ret hh :: kG) rm (k_PcY D a c9 sz σ av) (Qf (k_A a c9 σ sz)) mc ms (k_A a c9 σ sz) := by
  refine va_MetW (cc := cc) (maxL := nL) (ret := ret) (hh := hh) hy rfl ?_
  intro p e s m args below meth c s₁ B hml hv
  obtain ⟨rfl, hsz, hP, hK, hN, hD0, hX, hY⟩ := hv
  have hl := lv_entry av (n := nL) hav
  have htab := vx_table (x := y) B (atoms_spec (ws := Cond.codeWith y cc nL ret hh :: kG) B.pre _ List.mem_cons_self)
  rw [lg_entry_eq]
  generalize (lg_sl av ++ List.replicate (nL - (lg_sl av).length) Slot.unset).toArray = ls at hl ⊢
  subst hsz
  exact body p e s m _ below meth c _ ls ⟨B.exec, B.bytes, hml, findClass_of_methodNamed B.named, fun w h => atoms_spec (ws := Cond.codeWith y cc nL ret hh :: kG) B.pre w (List.mem_cons_of_mem _ h), B.returns, B.notSynchronized, hK, hN, fun q h => Or.inr h⟩ htab hX hY hP (hD0.self (sz := s.heap.size)) va_S.rf hl
end KY
theorem w_223 : Cond.codeWith y_La_leaf c_La_leaf 4 (some .int) [(0, 9, 12, 13), (0, 9, 15, 15)] ∈ kG := k_in1 (i := 223) rfl rfl
theorem w_331 : Cond.codeWith y_La_node c_La_node 4 (some .int) [(0, 9, 12, 13), (0, 9, 15, 15)] ∈ kG := k_in2 (i := 91) rfl rfl
theorem w_338 : Cond.codeWith y_La_more c_La_more 5 (some .int) [(0, 17, 20, 24), (0, 17, 24, 13)] ∈ kG := k_in2 (i := 98) rfl rfl
theorem w_401 : Cond.codeWith y_La_hole c_La_hole 5 (some .int) [(0, 10, 13, 13), (0, 10, 17, 15)] ∈ kG := k_in2 (i := 161) rfl rfl
theorem w_408 : Cond.codeWith y_La_test c_La_test 6 (some .int) [(0, 19, 22, 24), (0, 19, 26, 13)] ∈ kG := k_in2 (i := 168) rfl rfl
theorem w_424 : Cond.codeWith y_La_match c_La_match 6 (some .int) [(0, 12, 15, 24), (0, 12, 19, 13)] ∈ kG := k_in2 (i := 184) rfl rfl
theorem w_615 : Cond.codeWith y_La_bound c_La_bound 6 (some .int) [(0, 12, 15, 24), (0, 12, 19, 13)] ∈ kG := k_in3 (i := 135) rfl rfl
theorem w_635 : Cond.codeWith y_La_many c_La_many 5 (some .int) [(0, 10, 13, 24), (0, 10, 17, 13)] ∈ kG := k_in3 (i := 155) rfl rfl
theorem w_643 : Cond.codeWith y_La_rule c_La_rule 4 (some .int) [(0, 9, 12, 24), (0, 9, 15, 15)] ∈ kG := k_in3 (i := 163) rfl rfl
theorem w_655 : Cond.codeWith y_La_net c_La_net 4 (some .int) [(0, 9, 12, 24), (0, 9, 15, 13)] ∈ kG := k_in3 (i := 175) rfl rfl
theorem w_677 : Cond.codeWith y_La_first c_La_first 4 (some .int) [(0, 9, 12, 24), (0, 9, 15, 13)] ∈ kG := k_in3 (i := 197) rfl rfl
theorem w_685 : Cond.codeWith y_La_order c_La_order 5 (some .int) [(0, 10, 13, 24), (0, 10, 17, 13)] ∈ kG := k_in3 (i := 205) rfl rfl
theorem w_693 : Cond.codeWith y_La_parts c_La_parts 4 (some .int) [(0, 9, 12, 24)] ∈ kG := k_in3 (i := 213) rfl rfl
theorem w_701 : Cond.codeWith y_La_part c_La_part 5 (some .int) [(0, 10, 13, 24)] ∈ kG := k_in3 (i := 221) rfl rfl
def rm_La_leaf : Room := { frames := 8, cells := 2, slots := 12, locals := 134 }
def M_La_leaf (σ : kS) (x1 : Int32) : Option (Int32 × kS) := k_try (M_SM_leaf σ x1) 1 2 fun x σ1 => some (0, k_sL σ1 (vp_updL σ1.2.2 (0 : Int32).toNatClampNeg x.toInt64))
set_option maxHeartbeats 4000000 in
set_option maxRecDepth 100000 in
theorem K_La_leaf (l : Launch) (hst : l.stackTraces = false) (D : va_G) (a : Nat → Nat) (c9 : Nat → ClassId) (sz : Nat) {σ : kS} {x1 : Int32} {r9 : Int32} {σo : kS} (h : M_La_leaf σ x1 = some (r9, σo)) : Met l y_La_leaf (Cond.codeWith y_La_leaf c_La_leaf 4 (some .int) [(0, 9, 12, 13), (0, 9, 15, 15)] :: kG) rm_La_leaf (k_PcY D a c9 sz σ [.ref (a 0), .int x1, .ref (a 65)]) (k_Qi D a c9 r9 σo (k_A a c9 σ sz)) 2 12 (k_A a c9 σ sz) := by
  refine k_metW (Qf := k_Qi D a c9 r9 σo) (by decide) (Nat.le_of_ble_eq_true rfl) (fun p e s m args below meth c A ls C0 htab hX hY hP hD hS hl => ?_)
  obtain ⟨hx, hb, hml, hown, hts, hr, hlk, hK, hN, hA⟩ := C0
  unfold M_La_leaf at h
  obtain ⟨n1, x, σ1, hc, h0, hp⟩ := k_try_e h
  have hl : lv_has ls 4 [(0, .ref (a 0)), (1, .int x1), (2, .ref (a 65))] := hl
  refine lv_aload_n hx hb d_La_leaf_0 rfl (lv_at hl 2 rfl) ?_
  refine lv_iconst (v := 0) hx hb d_La_leaf_1 (by decide) ?_
  refine lv_aload_n hx hb d_La_leaf_2 rfl (lv_at hl 0 rfl) ?_
  refine lv_iload_n hx hb d_La_leaf_3 rfl (lv_at hl 1 rfl) ?_
  refine k_tcalli (vx_runV (As := [.int x1]) (rest := [.int 0, .ref (a 65)]) ⟨hx, hb, hml, hown, hts⟩ (K_SM_leaf l hst D a c9 s.heap.size hc) (cwV 1 hts (k_gV q_226 q_227 q_228 q_1 q_229) rfl rfl rfl h_SM_leaf ⟨Nat.le_of_ble_eq_true rfl, Nat.le_of_ble_eq_true rfl⟩) (k_preVX (ci := 0) (q0 := 0) rfl kw_0 hP hK hN hD hX hS hA) rfl rfl hl.1 rfl (lv_room (Nat.le_of_ble_eq_true rfl)) d_La_leaf_4 ⟨Nat.le_of_ble_eq_true rfl, Nat.le_of_ble_eq_true rfl⟩) hD hS hA (fun hn E ce q9 H locs hE hP hD hS hce hcv hcl => ?_) (fun hn H locs hP hD hS => ?_)
  · rcases hp hn with ⟨hn1, rfl, rfl⟩ | ⟨-, hn1, rfl, rfl⟩
    · refine vx_catch (name := "java/lang/IllegalArgumentException") hown [] ⟨0, 9, 12, 13⟩ [⟨0, 9, 15, 15⟩] htab (fun z hz => by cases hz) (by decide) (by decide) (hts _ q_224) (va_Nw.use rfl (hX.2.2.1 (E, "java/lang/IllegalArgumentException") (by rw [hE, hn1]; decide))) hce hcv hcl ?_
      refine lv_astore_n (lv' := [(3, .ref q9), (0, .ref (a 0)), (1, .int x1), (2, .ref (a 65))]) hx hb d_La_leaf_12 rfl hl (by decide) rfl (fun ls hl => ?_)
      refine lv_iconst (v := 1) hx hb d_La_leaf_13 (by decide) ?_
      refine W.widen (k := 2) (n := 12) (by decide) (by decide) ?_
      exact k_iret hx hb hr hlk hP hS d_La_leaf_14
    · refine vx_catch (name := "java/lang/IllegalStateException") hown [⟨0, 9, 12, 13⟩] ⟨0, 9, 15, 15⟩ [] htab (fun z hz => by cases hz with | head => exact Or.inr ⟨by decide, "java/lang/IllegalArgumentException", hts _ q_224, hY (E, "java/lang/IllegalArgumentException") (by rw [hE, hn1]; decide)⟩ | tail _ hz => cases hz) (by decide) (by decide) (hts _ q_225) (va_Nw.use rfl (hX.2.2.1 (E, "java/lang/IllegalStateException") (by rw [hE, hn1]; decide))) hce hcv hcl ?_
      refine lv_astore_n (lv' := [(3, .ref q9), (0, .ref (a 0)), (1, .int x1), (2, .ref (a 65))]) hx hb d_La_leaf_15 rfl hl (by decide) rfl (fun ls hl => ?_)
      refine lv_iconst (v := 2) hx hb d_La_leaf_16 (by decide) ?_
      refine W.widen (k := 2) (n := 12) (by decide) (by decide) ?_
      exact k_iret hx hb hr hlk hP hS d_La_leaf_17
  · replace h := h0 hn
    refine lv_i2l (v := x.toInt64) hx hb d_La_leaf_7 rfl ?_
    cases h
    refine va_last hx hb hK hP hD hS 65 2 kw_65 rfl k_in01 d_La_leaf_8 (fun H locs hP hD hS => ?_)
    replace hP := k_mvP kw_s65 hP
    refine lv_goto (tgt := 18) hx hb d_La_leaf_9 (by decide) ?_
    refine lv_iconst (v := 0) hx hb d_La_leaf_18 (by decide) ?_
    refine W.widen (k := 2) (n := 12) (by decide) (by decide) ?_
    exact k_iret hx hb hr hlk hP hS d_La_leaf_19
def rm_La_node : Room := { frames := 8, cells := 2, slots := 12, locals := 134 }
def M_La_node (σ : kS) (x1 : Int32) : Option (Int32 × kS) := k_try (M_SM_node σ x1) 1 2 fun x σ1 => some (0, k_sL σ1 (vp_updL σ1.2.2 (0 : Int32).toNatClampNeg x.toInt64))
set_option maxHeartbeats 4000000 in
set_option maxRecDepth 100000 in
theorem K_La_node (l : Launch) (hst : l.stackTraces = false) (D : va_G) (a : Nat → Nat) (c9 : Nat → ClassId) (sz : Nat) {σ : kS} {x1 : Int32} {r9 : Int32} {σo : kS} (h : M_La_node σ x1 = some (r9, σo)) : Met l y_La_node (Cond.codeWith y_La_node c_La_node 4 (some .int) [(0, 9, 12, 13), (0, 9, 15, 15)] :: kG) rm_La_node (k_PcY D a c9 sz σ [.ref (a 0), .int x1, .ref (a 65)]) (k_Qi D a c9 r9 σo (k_A a c9 σ sz)) 2 12 (k_A a c9 σ sz) := by
  refine k_metW (Qf := k_Qi D a c9 r9 σo) (by decide) (Nat.le_of_ble_eq_true rfl) (fun p e s m args below meth c A ls C0 htab hX hY hP hD hS hl => ?_)
  obtain ⟨hx, hb, hml, hown, hts, hr, hlk, hK, hN, hA⟩ := C0
  unfold M_La_node at h
  obtain ⟨n1, x, σ1, hc, h0, hp⟩ := k_try_e h
  have hl : lv_has ls 4 [(0, .ref (a 0)), (1, .int x1), (2, .ref (a 65))] := hl
  refine lv_aload_n hx hb d_La_node_0 rfl (lv_at hl 2 rfl) ?_
  refine lv_iconst (v := 0) hx hb d_La_node_1 (by decide) ?_
  refine lv_aload_n hx hb d_La_node_2 rfl (lv_at hl 0 rfl) ?_
  refine lv_iload_n hx hb d_La_node_3 rfl (lv_at hl 1 rfl) ?_
  refine k_tcalli (vx_runV (As := [.int x1]) (rest := [.int 0, .ref (a 65)]) ⟨hx, hb, hml, hown, hts⟩ (K_SM_node l hst D a c9 s.heap.size hc) (cwV 1 hts (k_gV q_332 q_333 q_334 q_1 q_335) rfl rfl rfl h_SM_node ⟨Nat.le_of_ble_eq_true rfl, Nat.le_of_ble_eq_true rfl⟩) (k_preVX (ci := 0) (q0 := 0) rfl kw_0 hP hK hN hD hX hS hA) rfl rfl hl.1 rfl (lv_room (Nat.le_of_ble_eq_true rfl)) d_La_node_4 ⟨Nat.le_of_ble_eq_true rfl, Nat.le_of_ble_eq_true rfl⟩) hD hS hA (fun hn E ce q9 H locs hE hP hD hS hce hcv hcl => ?_) (fun hn H locs hP hD hS => ?_)
  · rcases hp hn with ⟨hn1, rfl, rfl⟩ | ⟨-, hn1, rfl, rfl⟩
    · refine vx_catch (name := "java/lang/IllegalArgumentException") hown [] ⟨0, 9, 12, 13⟩ [⟨0, 9, 15, 15⟩] htab (fun z hz => by cases hz) (by decide) (by decide) (hts _ q_224) (va_Nw.use rfl (hX.2.2.1 (E, "java/lang/IllegalArgumentException") (by rw [hE, hn1]; decide))) hce hcv hcl ?_
      refine lv_astore_n (lv' := [(3, .ref q9), (0, .ref (a 0)), (1, .int x1), (2, .ref (a 65))]) hx hb d_La_node_12 rfl hl (by decide) rfl (fun ls hl => ?_)
      refine lv_iconst (v := 1) hx hb d_La_node_13 (by decide) ?_
      refine W.widen (k := 2) (n := 12) (by decide) (by decide) ?_
      exact k_iret hx hb hr hlk hP hS d_La_node_14
    · refine vx_catch (name := "java/lang/IllegalStateException") hown [⟨0, 9, 12, 13⟩] ⟨0, 9, 15, 15⟩ [] htab (fun z hz => by cases hz with | head => exact Or.inr ⟨by decide, "java/lang/IllegalArgumentException", hts _ q_224, hY (E, "java/lang/IllegalArgumentException") (by rw [hE, hn1]; decide)⟩ | tail _ hz => cases hz) (by decide) (by decide) (hts _ q_225) (va_Nw.use rfl (hX.2.2.1 (E, "java/lang/IllegalStateException") (by rw [hE, hn1]; decide))) hce hcv hcl ?_
      refine lv_astore_n (lv' := [(3, .ref q9), (0, .ref (a 0)), (1, .int x1), (2, .ref (a 65))]) hx hb d_La_node_15 rfl hl (by decide) rfl (fun ls hl => ?_)
      refine lv_iconst (v := 2) hx hb d_La_node_16 (by decide) ?_
      refine W.widen (k := 2) (n := 12) (by decide) (by decide) ?_
      exact k_iret hx hb hr hlk hP hS d_La_node_17
  · replace h := h0 hn
    refine lv_i2l (v := x.toInt64) hx hb d_La_node_7 rfl ?_
    cases h
    refine va_last hx hb hK hP hD hS 65 2 kw_65 rfl k_in01 d_La_node_8 (fun H locs hP hD hS => ?_)
    replace hP := k_mvP kw_s65 hP
    refine lv_goto (tgt := 18) hx hb d_La_node_9 (by decide) ?_
    refine lv_iconst (v := 0) hx hb d_La_node_18 (by decide) ?_
    refine W.widen (k := 2) (n := 12) (by decide) (by decide) ?_
    exact k_iret hx hb hr hlk hP hS d_La_node_19
def rm_La_more : Room := { frames := 27, cells := 3, slots := 18, locals := 737 }
def M_La_more (σ : kS) (x1 x2 : Int32) : Option (Int32 × kS) := k_try (M_SM_more σ x1 x2) 3 1 fun x σ1 => some (0, k_sL σ1 (vp_updL σ1.2.2 (0 : Int32).toNatClampNeg (if x = 0 then 0 else 1)))
set_option maxHeartbeats 4000000 in
set_option maxRecDepth 100000 in
theorem K_La_more (l : Launch) (hst : l.stackTraces = false) (D : va_G) (a : Nat → Nat) (c9 : Nat → ClassId) (sz : Nat) {σ : kS} {x1 x2 : Int32} {r9 : Int32} {σo : kS} (h : M_La_more σ x1 x2 = some (r9, σo)) : Met l y_La_more (Cond.codeWith y_La_more c_La_more 5 (some .int) [(0, 17, 20, 24), (0, 17, 24, 13)] :: kG) rm_La_more (k_PcY D a c9 sz σ [.ref (a 0), .int x1, .int x2, .ref (a 65)]) (k_Qi D a c9 r9 σo (k_A a c9 σ sz)) 3 18 (k_A a c9 σ sz) := by
  refine k_metW (Qf := k_Qi D a c9 r9 σo) (by decide) (Nat.le_of_ble_eq_true rfl) (fun p e s m args below meth c A ls C0 htab hX hY hP hD hS hl => ?_)
  obtain ⟨hx, hb, hml, hown, hts, hr, hlk, hK, hN, hA⟩ := C0
  unfold M_La_more at h
  obtain ⟨n1, x, σ1, hc, h0, hp⟩ := k_try_e h
  have hl : lv_has ls 5 [(0, .ref (a 0)), (1, .int x1), (2, .int x2), (3, .ref (a 65))] := hl
  refine lv_aload_n hx hb d_La_more_0 rfl (lv_at hl 3 rfl) ?_
  refine lv_iconst (v := 0) hx hb d_La_more_1 (by decide) ?_
  refine lv_aload_n hx hb d_La_more_2 rfl (lv_at hl 0 rfl) ?_
  refine lv_iload_n hx hb d_La_more_3 rfl (lv_at hl 1 rfl) ?_
  refine lv_iload_n hx hb d_La_more_4 rfl (lv_at hl 2 rfl) ?_
  refine k_tcalli (vx_runV (As := [.int x1, .int x2]) (rest := [.int 0, .ref (a 65)]) ⟨hx, hb, hml, hown, hts⟩ (K_SM_more l hst D a c9 s.heap.size hc) (cwV 2 hts (k_gV q_340 q_341 q_342 q_1 q_343) rfl rfl rfl h_SM_more ⟨Nat.le_of_ble_eq_true rfl, Nat.le_of_ble_eq_true rfl⟩) (k_preVX (ci := 0) (q0 := 0) rfl kw_0 hP hK hN hD hX hS hA) rfl rfl hl.1 rfl (lv_room (Nat.le_of_ble_eq_true rfl)) d_La_more_5 ⟨Nat.le_of_ble_eq_true rfl, Nat.le_of_ble_eq_true rfl⟩) hD hS hA (fun hn E ce q9 H locs hE hP hD hS hce hcv hcl => ?_) (fun hn H locs hP hD hS => ?_)
  · rcases hp hn with ⟨hn1, rfl, rfl⟩ | ⟨-, hn1, rfl, rfl⟩
    · refine vx_catch (name := "java/lang/IndexOutOfBoundsException") hown [] ⟨0, 17, 20, 24⟩ [⟨0, 17, 24, 13⟩] htab (fun z hz => by cases hz) (by decide) (by decide) (hts _ q_339) (va_Nw.use rfl (hX.2.2.1 (E, "java/lang/IndexOutOfBoundsException") (by rw [hE, hn1]; decide))) hce hcv hcl ?_
      refine lv_astore (lv' := [(4, .ref q9), (0, .ref (a 0)), (1, .int x1), (2, .int x2), (3, .ref (a 65))]) hx hb d_La_more_20 hl (by decide) rfl (fun ls hl => ?_)
      refine lv_iconst (v := 1) hx hb d_La_more_22 (by decide) ?_
      refine W.widen (k := 3) (n := 18) (by decide) (by decide) ?_
      exact k_iret hx hb hr hlk hP hS d_La_more_23
    · refine vx_catch (name := "java/lang/IllegalArgumentException") hown [⟨0, 17, 20, 24⟩] ⟨0, 17, 24, 13⟩ [] htab (fun z hz => by cases hz with | head => exact Or.inr ⟨by decide, "java/lang/IndexOutOfBoundsException", hts _ q_339, hY (E, "java/lang/IndexOutOfBoundsException") (by rw [hE, hn1]; decide)⟩ | tail _ hz => cases hz) (by decide) (by decide) (hts _ q_224) (va_Nw.use rfl (hX.2.2.1 (E, "java/lang/IllegalArgumentException") (by rw [hE, hn1]; decide))) hce hcv hcl ?_
      refine lv_astore (lv' := [(4, .ref q9), (0, .ref (a 0)), (1, .int x1), (2, .int x2), (3, .ref (a 65))]) hx hb d_La_more_24 hl (by decide) rfl (fun ls hl => ?_)
      refine lv_iconst (v := 2) hx hb d_La_more_26 (by decide) ?_
      refine W.widen (k := 3) (n := 18) (by decide) (by decide) ?_
      exact k_iret hx hb hr hlk hP hS d_La_more_27
  · replace h := h0 hn
    refine lv_if_eq (tgt := 15) hx hb d_La_more_8 (by decide) (fun cn => ?_) (fun cn => ?_)
    · rw [if_pos cn] at h
      refine lv_lconst (v := 0) hx hb d_La_more_15 rfl ?_
      cases h
      refine va_last hx hb hK hP hD hS 65 2 kw_65 rfl k_in01 d_La_more_16 (fun H locs hP hD hS => ?_)
      replace hP := k_mvP kw_s65 hP
      refine lv_goto (tgt := 28) hx hb d_La_more_17 (by decide) ?_
      refine lv_iconst (v := 0) hx hb d_La_more_28 (by decide) ?_
      refine W.widen (k := 3) (n := 18) (by decide) (by decide) ?_
      exact k_iret hx hb hr hlk hP hS d_La_more_29
    · rw [if_neg cn] at h
      refine lv_lconst (v := 1) hx hb d_La_more_11 rfl ?_
      refine lv_goto (tgt := 16) hx hb d_La_more_12 (by decide) ?_
      cases h
      refine va_last hx hb hK hP hD hS 65 2 kw_65 rfl k_in01 d_La_more_16 (fun H locs hP hD hS => ?_)
      replace hP := k_mvP kw_s65 hP
      refine lv_goto (tgt := 28) hx hb d_La_more_17 (by decide) ?_
      refine lv_iconst (v := 0) hx hb d_La_more_28 (by decide) ?_
      refine W.widen (k := 3) (n := 18) (by decide) (by decide) ?_
      exact k_iret hx hb hr hlk hP hS d_La_more_29
def rm_La_hole : Room := { frames := 8, cells := 3, slots := 18, locals := 135 }
def M_La_hole (σ : kS) (x1 x2 : Int32) : Option (Int32 × kS) := k_try (M_SM_hole σ x1 x2) 1 2 fun x σ1 => some (0, k_sL σ1 (vp_updL σ1.2.2 (0 : Int32).toNatClampNeg x.toInt64))
set_option maxHeartbeats 4000000 in
set_option maxRecDepth 100000 in
theorem K_La_hole (l : Launch) (hst : l.stackTraces = false) (D : va_G) (a : Nat → Nat) (c9 : Nat → ClassId) (sz : Nat) {σ : kS} {x1 x2 : Int32} {r9 : Int32} {σo : kS} (h : M_La_hole σ x1 x2 = some (r9, σo)) : Met l y_La_hole (Cond.codeWith y_La_hole c_La_hole 5 (some .int) [(0, 10, 13, 13), (0, 10, 17, 15)] :: kG) rm_La_hole (k_PcY D a c9 sz σ [.ref (a 0), .int x1, .int x2, .ref (a 65)]) (k_Qi D a c9 r9 σo (k_A a c9 σ sz)) 3 18 (k_A a c9 σ sz) := by
  refine k_metW (Qf := k_Qi D a c9 r9 σo) (by decide) (Nat.le_of_ble_eq_true rfl) (fun p e s m args below meth c A ls C0 htab hX hY hP hD hS hl => ?_)
  obtain ⟨hx, hb, hml, hown, hts, hr, hlk, hK, hN, hA⟩ := C0
  unfold M_La_hole at h
  obtain ⟨n1, x, σ1, hc, h0, hp⟩ := k_try_e h
  have hl : lv_has ls 5 [(0, .ref (a 0)), (1, .int x1), (2, .int x2), (3, .ref (a 65))] := hl
  refine lv_aload_n hx hb d_La_hole_0 rfl (lv_at hl 3 rfl) ?_
  refine lv_iconst (v := 0) hx hb d_La_hole_1 (by decide) ?_
  refine lv_aload_n hx hb d_La_hole_2 rfl (lv_at hl 0 rfl) ?_
  refine lv_iload_n hx hb d_La_hole_3 rfl (lv_at hl 1 rfl) ?_
  refine lv_iload_n hx hb d_La_hole_4 rfl (lv_at hl 2 rfl) ?_
  refine k_tcalli (vx_runV (As := [.int x1, .int x2]) (rest := [.int 0, .ref (a 65)]) ⟨hx, hb, hml, hown, hts⟩ (K_SM_hole l hst D a c9 s.heap.size hc) (cwV 2 hts (k_gV q_402 q_403 q_404 q_1 q_405) rfl rfl rfl h_SM_hole ⟨Nat.le_of_ble_eq_true rfl, Nat.le_of_ble_eq_true rfl⟩) (k_preVX (ci := 0) (q0 := 0) rfl kw_0 hP hK hN hD hX hS hA) rfl rfl hl.1 rfl (lv_room (Nat.le_of_ble_eq_true rfl)) d_La_hole_5 ⟨Nat.le_of_ble_eq_true rfl, Nat.le_of_ble_eq_true rfl⟩) hD hS hA (fun hn E ce q9 H locs hE hP hD hS hce hcv hcl => ?_) (fun hn H locs hP hD hS => ?_)
  · rcases hp hn with ⟨hn1, rfl, rfl⟩ | ⟨-, hn1, rfl, rfl⟩
    · refine vx_catch (name := "java/lang/IllegalArgumentException") hown [] ⟨0, 10, 13, 13⟩ [⟨0, 10, 17, 15⟩] htab (fun z hz => by cases hz) (by decide) (by decide) (hts _ q_224) (va_Nw.use rfl (hX.2.2.1 (E, "java/lang/IllegalArgumentException") (by rw [hE, hn1]; decide))) hce hcv hcl ?_
      refine lv_astore (lv' := [(4, .ref q9), (0, .ref (a 0)), (1, .int x1), (2, .int x2), (3, .ref (a 65))]) hx hb d_La_hole_13 hl (by decide) rfl (fun ls hl => ?_)
      refine lv_iconst (v := 1) hx hb d_La_hole_15 (by decide) ?_
      refine W.widen (k := 3) (n := 18) (by decide) (by decide) ?_
      exact k_iret hx hb hr hlk hP hS d_La_hole_16
    · refine vx_catch (name := "java/lang/IllegalStateException") hown [⟨0, 10, 13, 13⟩] ⟨0, 10, 17, 15⟩ [] htab (fun z hz => by cases hz with | head => exact Or.inr ⟨by decide, "java/lang/IllegalArgumentException", hts _ q_224, hY (E, "java/lang/IllegalArgumentException") (by rw [hE, hn1]; decide)⟩ | tail _ hz => cases hz) (by decide) (by decide) (hts _ q_225) (va_Nw.use rfl (hX.2.2.1 (E, "java/lang/IllegalStateException") (by rw [hE, hn1]; decide))) hce hcv hcl ?_
      refine lv_astore (lv' := [(4, .ref q9), (0, .ref (a 0)), (1, .int x1), (2, .int x2), (3, .ref (a 65))]) hx hb d_La_hole_17 hl (by decide) rfl (fun ls hl => ?_)
      refine lv_iconst (v := 2) hx hb d_La_hole_19 (by decide) ?_
      refine W.widen (k := 3) (n := 18) (by decide) (by decide) ?_
      exact k_iret hx hb hr hlk hP hS d_La_hole_20
  · replace h := h0 hn
    refine lv_i2l (v := x.toInt64) hx hb d_La_hole_8 rfl ?_
    cases h
    refine va_last hx hb hK hP hD hS 65 2 kw_65 rfl k_in01 d_La_hole_9 (fun H locs hP hD hS => ?_)
    replace hP := k_mvP kw_s65 hP
    refine lv_goto (tgt := 21) hx hb d_La_hole_10 (by decide) ?_
    refine lv_iconst (v := 0) hx hb d_La_hole_21 (by decide) ?_
    refine W.widen (k := 3) (n := 18) (by decide) (by decide) ?_
    exact k_iret hx hb hr hlk hP hS d_La_hole_22
def rm_La_test : Room := { frames := 8, cells := 2, slots := 12, locals := 134 }
def M_La_test (σ : kS) (x1 x2 x3 : Int32) : Option (Int32 × kS) := k_try (M_SM_test σ x1 x2 x3) 3 1 fun x σ1 => some (0, k_sL σ1 (vp_updL σ1.2.2 (0 : Int32).toNatClampNeg (if x = 0 then 0 else 1)))
set_option maxHeartbeats 4000000 in
set_option maxRecDepth 100000 in
theorem K_La_test (l : Launch) (hst : l.stackTraces = false) (D : va_G) (a : Nat → Nat) (c9 : Nat → ClassId) (sz : Nat) {σ : kS} {x1 x2 x3 : Int32} {r9 : Int32} {σo : kS} (h : M_La_test σ x1 x2 x3 = some (r9, σo)) : Met l y_La_test (Cond.codeWith y_La_test c_La_test 6 (some .int) [(0, 19, 22, 24), (0, 19, 26, 13)] :: kG) rm_La_test (k_PcY D a c9 sz σ [.ref (a 0), .int x1, .int x2, .int x3, .ref (a 65)]) (k_Qi D a c9 r9 σo (k_A a c9 σ sz)) 2 12 (k_A a c9 σ sz) := by
  refine k_metW (Qf := k_Qi D a c9 r9 σo) (by decide) (Nat.le_of_ble_eq_true rfl) (fun p e s m args below meth c A ls C0 htab hX hY hP hD hS hl => ?_)
  obtain ⟨hx, hb, hml, hown, hts, hr, hlk, hK, hN, hA⟩ := C0
  unfold M_La_test at h
  obtain ⟨n1, x, σ1, hc, h0, hp⟩ := k_try_e h
  have hl : lv_has ls 6 [(0, .ref (a 0)), (1, .int x1), (2, .int x2), (3, .int x3), (4, .ref (a 65))] := hl
  refine lv_aload hx hb d_La_test_0 (lv_at hl 4 rfl) ?_
  refine lv_iconst (v := 0) hx hb d_La_test_2 (by decide) ?_
  refine lv_aload_n hx hb d_La_test_3 rfl (lv_at hl 0 rfl) ?_
  refine lv_iload_n hx hb d_La_test_4 rfl (lv_at hl 1 rfl) ?_
  refine lv_iload_n hx hb d_La_test_5 rfl (lv_at hl 2 rfl) ?_
  refine lv_iload_n hx hb d_La_test_6 rfl (lv_at hl 3 rfl) ?_
  refine k_tcalli (vx_runV (As := [.int x1, .int x2, .int x3]) (rest := [.int 0, .ref (a 65)]) ⟨hx, hb, hml, hown, hts⟩ (K_SM_test l hst D a c9 s.heap.size hc) (cwV 3 hts (k_gV q_409 q_410 q_411 q_1 q_412) rfl rfl rfl h_SM_test ⟨Nat.le_of_ble_eq_true rfl, Nat.le_of_ble_eq_true rfl⟩) (k_preVX (ci := 0) (q0 := 0) rfl kw_0 hP hK hN hD hX hS hA) rfl rfl hl.1 rfl (lv_room (Nat.le_of_ble_eq_true rfl)) d_La_test_7 ⟨Nat.le_of_ble_eq_true rfl, Nat.le_of_ble_eq_true rfl⟩) hD hS hA (fun hn E ce q9 H locs hE hP hD hS hce hcv hcl => ?_) (fun hn H locs hP hD hS => ?_)
  · rcases hp hn with ⟨hn1, rfl, rfl⟩ | ⟨-, hn1, rfl, rfl⟩
    · refine vx_catch (name := "java/lang/IndexOutOfBoundsException") hown [] ⟨0, 19, 22, 24⟩ [⟨0, 19, 26, 13⟩] htab (fun z hz => by cases hz) (by decide) (by decide) (hts _ q_339) (va_Nw.use rfl (hX.2.2.1 (E, "java/lang/IndexOutOfBoundsException") (by rw [hE, hn1]; decide))) hce hcv hcl ?_
      refine lv_astore (lv' := [(5, .ref q9), (0, .ref (a 0)), (1, .int x1), (2, .int x2), (3, .int x3), (4, .ref (a 65))]) hx hb d_La_test_22 hl (by decide) rfl (fun ls hl => ?_)
      refine lv_iconst (v := 1) hx hb d_La_test_24 (by decide) ?_
      refine W.widen (k := 2) (n := 12) (by decide) (by decide) ?_
      exact k_iret hx hb hr hlk hP hS d_La_test_25
    · refine vx_catch (name := "java/lang/IllegalArgumentException") hown [⟨0, 19, 22, 24⟩] ⟨0, 19, 26, 13⟩ [] htab (fun z hz => by cases hz with | head => exact Or.inr ⟨by decide, "java/lang/IndexOutOfBoundsException", hts _ q_339, hY (E, "java/lang/IndexOutOfBoundsException") (by rw [hE, hn1]; decide)⟩ | tail _ hz => cases hz) (by decide) (by decide) (hts _ q_224) (va_Nw.use rfl (hX.2.2.1 (E, "java/lang/IllegalArgumentException") (by rw [hE, hn1]; decide))) hce hcv hcl ?_
      refine lv_astore (lv' := [(5, .ref q9), (0, .ref (a 0)), (1, .int x1), (2, .int x2), (3, .int x3), (4, .ref (a 65))]) hx hb d_La_test_26 hl (by decide) rfl (fun ls hl => ?_)
      refine lv_iconst (v := 2) hx hb d_La_test_28 (by decide) ?_
      refine W.widen (k := 2) (n := 12) (by decide) (by decide) ?_
      exact k_iret hx hb hr hlk hP hS d_La_test_29
  · replace h := h0 hn
    refine lv_if_eq (tgt := 17) hx hb d_La_test_10 (by decide) (fun cn => ?_) (fun cn => ?_)
    · rw [if_pos cn] at h
      refine lv_lconst (v := 0) hx hb d_La_test_17 rfl ?_
      cases h
      refine va_last hx hb hK hP hD hS 65 2 kw_65 rfl k_in01 d_La_test_18 (fun H locs hP hD hS => ?_)
      replace hP := k_mvP kw_s65 hP
      refine lv_goto (tgt := 30) hx hb d_La_test_19 (by decide) ?_
      refine lv_iconst (v := 0) hx hb d_La_test_30 (by decide) ?_
      refine W.widen (k := 2) (n := 12) (by decide) (by decide) ?_
      exact k_iret hx hb hr hlk hP hS d_La_test_31
    · rw [if_neg cn] at h
      refine lv_lconst (v := 1) hx hb d_La_test_13 rfl ?_
      refine lv_goto (tgt := 18) hx hb d_La_test_14 (by decide) ?_
      cases h
      refine va_last hx hb hK hP hD hS 65 2 kw_65 rfl k_in01 d_La_test_18 (fun H locs hP hD hS => ?_)
      replace hP := k_mvP kw_s65 hP
      refine lv_goto (tgt := 30) hx hb d_La_test_19 (by decide) ?_
      refine lv_iconst (v := 0) hx hb d_La_test_30 (by decide) ?_
      refine W.widen (k := 2) (n := 12) (by decide) (by decide) ?_
      exact k_iret hx hb hr hlk hP hS d_La_test_31
def rm_La_match : Room := { frames := 29, cells := 4, slots := 24, locals := 785 }
def M_La_match (σ : kS) (x1 x2 x3 : Int32) : Option (Int32 × kS) := k_try (M_SM_match σ x1 x2 x3) 3 1 fun x σ1 => some (0, k_sL σ1 (vp_updL σ1.2.2 (0 : Int32).toNatClampNeg x.toInt64))
set_option maxHeartbeats 4000000 in
set_option maxRecDepth 100000 in
theorem K_La_match (l : Launch) (hst : l.stackTraces = false) (D : va_G) (a : Nat → Nat) (c9 : Nat → ClassId) (sz : Nat) {σ : kS} {x1 x2 x3 : Int32} {r9 : Int32} {σo : kS} (h : M_La_match σ x1 x2 x3 = some (r9, σo)) : Met l y_La_match (Cond.codeWith y_La_match c_La_match 6 (some .int) [(0, 12, 15, 24), (0, 12, 19, 13)] :: kG) rm_La_match (k_PcY D a c9 sz σ [.ref (a 0), .int x1, .int x2, .int x3, .ref (a 65)]) (k_Qi D a c9 r9 σo (k_A a c9 σ sz)) 4 24 (k_A a c9 σ sz) := by
  refine k_metW (Qf := k_Qi D a c9 r9 σo) (by decide) (Nat.le_of_ble_eq_true rfl) (fun p e s m args below meth c A ls C0 htab hX hY hP hD hS hl => ?_)
  obtain ⟨hx, hb, hml, hown, hts, hr, hlk, hK, hN, hA⟩ := C0
  unfold M_La_match at h
  obtain ⟨n1, x, σ1, hc, h0, hp⟩ := k_try_e h
  have hl : lv_has ls 6 [(0, .ref (a 0)), (1, .int x1), (2, .int x2), (3, .int x3), (4, .ref (a 65))] := hl
  refine lv_aload hx hb d_La_match_0 (lv_at hl 4 rfl) ?_
  refine lv_iconst (v := 0) hx hb d_La_match_2 (by decide) ?_
  refine lv_aload_n hx hb d_La_match_3 rfl (lv_at hl 0 rfl) ?_
  refine lv_iload_n hx hb d_La_match_4 rfl (lv_at hl 1 rfl) ?_
  refine lv_iload_n hx hb d_La_match_5 rfl (lv_at hl 2 rfl) ?_
  refine lv_iload_n hx hb d_La_match_6 rfl (lv_at hl 3 rfl) ?_
  refine k_tcalli (vx_runV (As := [.int x1, .int x2, .int x3]) (rest := [.int 0, .ref (a 65)]) ⟨hx, hb, hml, hown, hts⟩ (K_SM_match l hst D a c9 s.heap.size hc) (cwV 3 hts (k_gV q_425 q_426 q_427 q_1 q_428) rfl rfl rfl h_SM_match ⟨Nat.le_of_ble_eq_true rfl, Nat.le_of_ble_eq_true rfl⟩) (k_preVX (ci := 0) (q0 := 0) rfl kw_0 hP hK hN hD hX hS hA) rfl rfl hl.1 rfl (lv_room (Nat.le_of_ble_eq_true rfl)) d_La_match_7 ⟨Nat.le_of_ble_eq_true rfl, Nat.le_of_ble_eq_true rfl⟩) hD hS hA (fun hn E ce q9 H locs hE hP hD hS hce hcv hcl => ?_) (fun hn H locs hP hD hS => ?_)
  · rcases hp hn with ⟨hn1, rfl, rfl⟩ | ⟨-, hn1, rfl, rfl⟩
    · refine vx_catch (name := "java/lang/IndexOutOfBoundsException") hown [] ⟨0, 12, 15, 24⟩ [⟨0, 12, 19, 13⟩] htab (fun z hz => by cases hz) (by decide) (by decide) (hts _ q_339) (va_Nw.use rfl (hX.2.2.1 (E, "java/lang/IndexOutOfBoundsException") (by rw [hE, hn1]; decide))) hce hcv hcl ?_
      refine lv_astore (lv' := [(5, .ref q9), (0, .ref (a 0)), (1, .int x1), (2, .int x2), (3, .int x3), (4, .ref (a 65))]) hx hb d_La_match_15 hl (by decide) rfl (fun ls hl => ?_)
      refine lv_iconst (v := 1) hx hb d_La_match_17 (by decide) ?_
      refine W.widen (k := 4) (n := 24) (by decide) (by decide) ?_
      exact k_iret hx hb hr hlk hP hS d_La_match_18
    · refine vx_catch (name := "java/lang/IllegalArgumentException") hown [⟨0, 12, 15, 24⟩] ⟨0, 12, 19, 13⟩ [] htab (fun z hz => by cases hz with | head => exact Or.inr ⟨by decide, "java/lang/IndexOutOfBoundsException", hts _ q_339, hY (E, "java/lang/IndexOutOfBoundsException") (by rw [hE, hn1]; decide)⟩ | tail _ hz => cases hz) (by decide) (by decide) (hts _ q_224) (va_Nw.use rfl (hX.2.2.1 (E, "java/lang/IllegalArgumentException") (by rw [hE, hn1]; decide))) hce hcv hcl ?_
      refine lv_astore (lv' := [(5, .ref q9), (0, .ref (a 0)), (1, .int x1), (2, .int x2), (3, .int x3), (4, .ref (a 65))]) hx hb d_La_match_19 hl (by decide) rfl (fun ls hl => ?_)
      refine lv_iconst (v := 2) hx hb d_La_match_21 (by decide) ?_
      refine W.widen (k := 4) (n := 24) (by decide) (by decide) ?_
      exact k_iret hx hb hr hlk hP hS d_La_match_22
  · replace h := h0 hn
    refine lv_i2l (v := x.toInt64) hx hb d_La_match_10 rfl ?_
    cases h
    refine va_last hx hb hK hP hD hS 65 2 kw_65 rfl k_in01 d_La_match_11 (fun H locs hP hD hS => ?_)
    replace hP := k_mvP kw_s65 hP
    refine lv_goto (tgt := 23) hx hb d_La_match_12 (by decide) ?_
    refine lv_iconst (v := 0) hx hb d_La_match_23 (by decide) ?_
    refine W.widen (k := 4) (n := 24) (by decide) (by decide) ?_
    exact k_iret hx hb hr hlk hP hS d_La_match_24
def rm_La_bound : Room := { frames := 8, cells := 2, slots := 12, locals := 134 }
def M_La_bound (σ : kS) (x1 x2 x3 : Int32) : Option (Int32 × kS) := k_try (M_SM_bound σ x1 x2 x3) 3 1 fun x σ1 => some (0, k_sL σ1 (vp_updL σ1.2.2 (0 : Int32).toNatClampNeg x.toInt64))
set_option maxHeartbeats 4000000 in
set_option maxRecDepth 100000 in
theorem K_La_bound (l : Launch) (hst : l.stackTraces = false) (D : va_G) (a : Nat → Nat) (c9 : Nat → ClassId) (sz : Nat) {σ : kS} {x1 x2 x3 : Int32} {r9 : Int32} {σo : kS} (h : M_La_bound σ x1 x2 x3 = some (r9, σo)) : Met l y_La_bound (Cond.codeWith y_La_bound c_La_bound 6 (some .int) [(0, 12, 15, 24), (0, 12, 19, 13)] :: kG) rm_La_bound (k_PcY D a c9 sz σ [.ref (a 0), .int x1, .int x2, .int x3, .ref (a 65)]) (k_Qi D a c9 r9 σo (k_A a c9 σ sz)) 2 12 (k_A a c9 σ sz) := by
  refine k_metW (Qf := k_Qi D a c9 r9 σo) (by decide) (Nat.le_of_ble_eq_true rfl) (fun p e s m args below meth c A ls C0 htab hX hY hP hD hS hl => ?_)
  obtain ⟨hx, hb, hml, hown, hts, hr, hlk, hK, hN, hA⟩ := C0
  unfold M_La_bound at h
  obtain ⟨n1, x, σ1, hc, h0, hp⟩ := k_try_e h
  have hl : lv_has ls 6 [(0, .ref (a 0)), (1, .int x1), (2, .int x2), (3, .int x3), (4, .ref (a 65))] := hl
  refine lv_aload hx hb d_La_bound_0 (lv_at hl 4 rfl) ?_
  refine lv_iconst (v := 0) hx hb d_La_bound_2 (by decide) ?_
  refine lv_aload_n hx hb d_La_bound_3 rfl (lv_at hl 0 rfl) ?_
  refine lv_iload_n hx hb d_La_bound_4 rfl (lv_at hl 1 rfl) ?_
  refine lv_iload_n hx hb d_La_bound_5 rfl (lv_at hl 2 rfl) ?_
  refine lv_iload_n hx hb d_La_bound_6 rfl (lv_at hl 3 rfl) ?_
  refine k_tcalli (vx_runV (As := [.int x1, .int x2, .int x3]) (rest := [.int 0, .ref (a 65)]) ⟨hx, hb, hml, hown, hts⟩ (K_SM_bound l hst D a c9 s.heap.size hc) (cwV 3 hts (k_gV q_616 q_617 q_618 q_1 q_619) rfl rfl rfl h_SM_bound ⟨Nat.le_of_ble_eq_true rfl, Nat.le_of_ble_eq_true rfl⟩) (k_preVX (ci := 0) (q0 := 0) rfl kw_0 hP hK hN hD hX hS hA) rfl rfl hl.1 rfl (lv_room (Nat.le_of_ble_eq_true rfl)) d_La_bound_7 ⟨Nat.le_of_ble_eq_true rfl, Nat.le_of_ble_eq_true rfl⟩) hD hS hA (fun hn E ce q9 H locs hE hP hD hS hce hcv hcl => ?_) (fun hn H locs hP hD hS => ?_)
  · rcases hp hn with ⟨hn1, rfl, rfl⟩ | ⟨-, hn1, rfl, rfl⟩
    · refine vx_catch (name := "java/lang/IndexOutOfBoundsException") hown [] ⟨0, 12, 15, 24⟩ [⟨0, 12, 19, 13⟩] htab (fun z hz => by cases hz) (by decide) (by decide) (hts _ q_339) (va_Nw.use rfl (hX.2.2.1 (E, "java/lang/IndexOutOfBoundsException") (by rw [hE, hn1]; decide))) hce hcv hcl ?_
      refine lv_astore (lv' := [(5, .ref q9), (0, .ref (a 0)), (1, .int x1), (2, .int x2), (3, .int x3), (4, .ref (a 65))]) hx hb d_La_bound_15 hl (by decide) rfl (fun ls hl => ?_)
      refine lv_iconst (v := 1) hx hb d_La_bound_17 (by decide) ?_
      refine W.widen (k := 2) (n := 12) (by decide) (by decide) ?_
      exact k_iret hx hb hr hlk hP hS d_La_bound_18
    · refine vx_catch (name := "java/lang/IllegalArgumentException") hown [⟨0, 12, 15, 24⟩] ⟨0, 12, 19, 13⟩ [] htab (fun z hz => by cases hz with | head => exact Or.inr ⟨by decide, "java/lang/IndexOutOfBoundsException", hts _ q_339, hY (E, "java/lang/IndexOutOfBoundsException") (by rw [hE, hn1]; decide)⟩ | tail _ hz => cases hz) (by decide) (by decide) (hts _ q_224) (va_Nw.use rfl (hX.2.2.1 (E, "java/lang/IllegalArgumentException") (by rw [hE, hn1]; decide))) hce hcv hcl ?_
      refine lv_astore (lv' := [(5, .ref q9), (0, .ref (a 0)), (1, .int x1), (2, .int x2), (3, .int x3), (4, .ref (a 65))]) hx hb d_La_bound_19 hl (by decide) rfl (fun ls hl => ?_)
      refine lv_iconst (v := 2) hx hb d_La_bound_21 (by decide) ?_
      refine W.widen (k := 2) (n := 12) (by decide) (by decide) ?_
      exact k_iret hx hb hr hlk hP hS d_La_bound_22
  · replace h := h0 hn
    refine lv_i2l (v := x.toInt64) hx hb d_La_bound_10 rfl ?_
    cases h
    refine va_last hx hb hK hP hD hS 65 2 kw_65 rfl k_in01 d_La_bound_11 (fun H locs hP hD hS => ?_)
    replace hP := k_mvP kw_s65 hP
    refine lv_goto (tgt := 23) hx hb d_La_bound_12 (by decide) ?_
    refine lv_iconst (v := 0) hx hb d_La_bound_23 (by decide) ?_
    refine W.widen (k := 2) (n := 12) (by decide) (by decide) ?_
    exact k_iret hx hb hr hlk hP hS d_La_bound_24
def rm_La_many : Room := { frames := 8, cells := 2, slots := 12, locals := 133 }
def M_La_many (σ : kS) (x1 x2 : Int32) : Option (Int32 × kS) := k_try (M_SM_many σ x1 x2) 3 1 fun x σ1 => some (0, k_sL σ1 (vp_updL σ1.2.2 (0 : Int32).toNatClampNeg x.toInt64))
set_option maxHeartbeats 4000000 in
set_option maxRecDepth 100000 in
theorem K_La_many (l : Launch) (hst : l.stackTraces = false) (D : va_G) (a : Nat → Nat) (c9 : Nat → ClassId) (sz : Nat) {σ : kS} {x1 x2 : Int32} {r9 : Int32} {σo : kS} (h : M_La_many σ x1 x2 = some (r9, σo)) : Met l y_La_many (Cond.codeWith y_La_many c_La_many 5 (some .int) [(0, 10, 13, 24), (0, 10, 17, 13)] :: kG) rm_La_many (k_PcY D a c9 sz σ [.ref (a 0), .int x1, .int x2, .ref (a 65)]) (k_Qi D a c9 r9 σo (k_A a c9 σ sz)) 2 12 (k_A a c9 σ sz) := by
  refine k_metW (Qf := k_Qi D a c9 r9 σo) (by decide) (Nat.le_of_ble_eq_true rfl) (fun p e s m args below meth c A ls C0 htab hX hY hP hD hS hl => ?_)
  obtain ⟨hx, hb, hml, hown, hts, hr, hlk, hK, hN, hA⟩ := C0
  unfold M_La_many at h
  obtain ⟨n1, x, σ1, hc, h0, hp⟩ := k_try_e h
  have hl : lv_has ls 5 [(0, .ref (a 0)), (1, .int x1), (2, .int x2), (3, .ref (a 65))] := hl
  refine lv_aload_n hx hb d_La_many_0 rfl (lv_at hl 3 rfl) ?_
  refine lv_iconst (v := 0) hx hb d_La_many_1 (by decide) ?_
  refine lv_aload_n hx hb d_La_many_2 rfl (lv_at hl 0 rfl) ?_
  refine lv_iload_n hx hb d_La_many_3 rfl (lv_at hl 1 rfl) ?_
  refine lv_iload_n hx hb d_La_many_4 rfl (lv_at hl 2 rfl) ?_
  refine k_tcalli (vx_runV (As := [.int x1, .int x2]) (rest := [.int 0, .ref (a 65)]) ⟨hx, hb, hml, hown, hts⟩ (K_SM_many l hst D a c9 s.heap.size hc) (cwV 2 hts (k_gV q_636 q_637 q_638 q_1 q_639) rfl rfl rfl h_SM_many ⟨Nat.le_of_ble_eq_true rfl, Nat.le_of_ble_eq_true rfl⟩) (k_preVX (ci := 0) (q0 := 0) rfl kw_0 hP hK hN hD hX hS hA) rfl rfl hl.1 rfl (lv_room (Nat.le_of_ble_eq_true rfl)) d_La_many_5 ⟨Nat.le_of_ble_eq_true rfl, Nat.le_of_ble_eq_true rfl⟩) hD hS hA (fun hn E ce q9 H locs hE hP hD hS hce hcv hcl => ?_) (fun hn H locs hP hD hS => ?_)
  · rcases hp hn with ⟨hn1, rfl, rfl⟩ | ⟨-, hn1, rfl, rfl⟩
    · refine vx_catch (name := "java/lang/IndexOutOfBoundsException") hown [] ⟨0, 10, 13, 24⟩ [⟨0, 10, 17, 13⟩] htab (fun z hz => by cases hz) (by decide) (by decide) (hts _ q_339) (va_Nw.use rfl (hX.2.2.1 (E, "java/lang/IndexOutOfBoundsException") (by rw [hE, hn1]; decide))) hce hcv hcl ?_
      refine lv_astore (lv' := [(4, .ref q9), (0, .ref (a 0)), (1, .int x1), (2, .int x2), (3, .ref (a 65))]) hx hb d_La_many_13 hl (by decide) rfl (fun ls hl => ?_)
      refine lv_iconst (v := 1) hx hb d_La_many_15 (by decide) ?_
      refine W.widen (k := 2) (n := 12) (by decide) (by decide) ?_
      exact k_iret hx hb hr hlk hP hS d_La_many_16
    · refine vx_catch (name := "java/lang/IllegalArgumentException") hown [⟨0, 10, 13, 24⟩] ⟨0, 10, 17, 13⟩ [] htab (fun z hz => by cases hz with | head => exact Or.inr ⟨by decide, "java/lang/IndexOutOfBoundsException", hts _ q_339, hY (E, "java/lang/IndexOutOfBoundsException") (by rw [hE, hn1]; decide)⟩ | tail _ hz => cases hz) (by decide) (by decide) (hts _ q_224) (va_Nw.use rfl (hX.2.2.1 (E, "java/lang/IllegalArgumentException") (by rw [hE, hn1]; decide))) hce hcv hcl ?_
      refine lv_astore (lv' := [(4, .ref q9), (0, .ref (a 0)), (1, .int x1), (2, .int x2), (3, .ref (a 65))]) hx hb d_La_many_17 hl (by decide) rfl (fun ls hl => ?_)
      refine lv_iconst (v := 2) hx hb d_La_many_19 (by decide) ?_
      refine W.widen (k := 2) (n := 12) (by decide) (by decide) ?_
      exact k_iret hx hb hr hlk hP hS d_La_many_20
  · replace h := h0 hn
    refine lv_i2l (v := x.toInt64) hx hb d_La_many_8 rfl ?_
    cases h
    refine va_last hx hb hK hP hD hS 65 2 kw_65 rfl k_in01 d_La_many_9 (fun H locs hP hD hS => ?_)
    replace hP := k_mvP kw_s65 hP
    refine lv_goto (tgt := 21) hx hb d_La_many_10 (by decide) ?_
    refine lv_iconst (v := 0) hx hb d_La_many_21 (by decide) ?_
    refine W.widen (k := 2) (n := 12) (by decide) (by decide) ?_
    exact k_iret hx hb hr hlk hP hS d_La_many_22
def rm_La_rule : Room := { frames := 8, cells := 2, slots := 12, locals := 132 }
def M_La_rule (σ : kS) (x1 : Int32) : Option (Int32 × kS) := k_try (M_SM_rule σ x1) 3 2 fun x σ1 => some (0, k_sL σ1 (vp_updL σ1.2.2 (0 : Int32).toNatClampNeg x.toInt64))
set_option maxHeartbeats 4000000 in
set_option maxRecDepth 100000 in
theorem K_La_rule (l : Launch) (hst : l.stackTraces = false) (D : va_G) (a : Nat → Nat) (c9 : Nat → ClassId) (sz : Nat) {σ : kS} {x1 : Int32} {r9 : Int32} {σo : kS} (h : M_La_rule σ x1 = some (r9, σo)) : Met l y_La_rule (Cond.codeWith y_La_rule c_La_rule 4 (some .int) [(0, 9, 12, 24), (0, 9, 15, 15)] :: kG) rm_La_rule (k_PcY D a c9 sz σ [.ref (a 0), .int x1, .ref (a 65)]) (k_Qi D a c9 r9 σo (k_A a c9 σ sz)) 2 12 (k_A a c9 σ sz) := by
  refine k_metW (Qf := k_Qi D a c9 r9 σo) (by decide) (Nat.le_of_ble_eq_true rfl) (fun p e s m args below meth c A ls C0 htab hX hY hP hD hS hl => ?_)
  obtain ⟨hx, hb, hml, hown, hts, hr, hlk, hK, hN, hA⟩ := C0
  unfold M_La_rule at h
  obtain ⟨n1, x, σ1, hc, h0, hp⟩ := k_try_e h
  have hl : lv_has ls 4 [(0, .ref (a 0)), (1, .int x1), (2, .ref (a 65))] := hl
  refine lv_aload_n hx hb d_La_rule_0 rfl (lv_at hl 2 rfl) ?_
  refine lv_iconst (v := 0) hx hb d_La_rule_1 (by decide) ?_
  refine lv_aload_n hx hb d_La_rule_2 rfl (lv_at hl 0 rfl) ?_
  refine lv_iload_n hx hb d_La_rule_3 rfl (lv_at hl 1 rfl) ?_
  refine k_tcalli (vx_runV (As := [.int x1]) (rest := [.int 0, .ref (a 65)]) ⟨hx, hb, hml, hown, hts⟩ (K_SM_rule l hst D a c9 s.heap.size hc) (cwV 1 hts (k_gV q_644 q_645 q_646 q_1 q_647) rfl rfl rfl h_SM_rule ⟨Nat.le_of_ble_eq_true rfl, Nat.le_of_ble_eq_true rfl⟩) (k_preVX (ci := 0) (q0 := 0) rfl kw_0 hP hK hN hD hX hS hA) rfl rfl hl.1 rfl (lv_room (Nat.le_of_ble_eq_true rfl)) d_La_rule_4 ⟨Nat.le_of_ble_eq_true rfl, Nat.le_of_ble_eq_true rfl⟩) hD hS hA (fun hn E ce q9 H locs hE hP hD hS hce hcv hcl => ?_) (fun hn H locs hP hD hS => ?_)
  · rcases hp hn with ⟨hn1, rfl, rfl⟩ | ⟨-, hn1, rfl, rfl⟩
    · refine vx_catch (name := "java/lang/IndexOutOfBoundsException") hown [] ⟨0, 9, 12, 24⟩ [⟨0, 9, 15, 15⟩] htab (fun z hz => by cases hz) (by decide) (by decide) (hts _ q_339) (va_Nw.use rfl (hX.2.2.1 (E, "java/lang/IndexOutOfBoundsException") (by rw [hE, hn1]; decide))) hce hcv hcl ?_
      refine lv_astore_n (lv' := [(3, .ref q9), (0, .ref (a 0)), (1, .int x1), (2, .ref (a 65))]) hx hb d_La_rule_12 rfl hl (by decide) rfl (fun ls hl => ?_)
      refine lv_iconst (v := 1) hx hb d_La_rule_13 (by decide) ?_
      refine W.widen (k := 2) (n := 12) (by decide) (by decide) ?_
      exact k_iret hx hb hr hlk hP hS d_La_rule_14
    · refine vx_catch (name := "java/lang/IllegalStateException") hown [⟨0, 9, 12, 24⟩] ⟨0, 9, 15, 15⟩ [] htab (fun z hz => by cases hz with | head => exact Or.inr ⟨by decide, "java/lang/IndexOutOfBoundsException", hts _ q_339, hY (E, "java/lang/IndexOutOfBoundsException") (by rw [hE, hn1]; decide)⟩ | tail _ hz => cases hz) (by decide) (by decide) (hts _ q_225) (va_Nw.use rfl (hX.2.2.1 (E, "java/lang/IllegalStateException") (by rw [hE, hn1]; decide))) hce hcv hcl ?_
      refine lv_astore_n (lv' := [(3, .ref q9), (0, .ref (a 0)), (1, .int x1), (2, .ref (a 65))]) hx hb d_La_rule_15 rfl hl (by decide) rfl (fun ls hl => ?_)
      refine lv_iconst (v := 2) hx hb d_La_rule_16 (by decide) ?_
      refine W.widen (k := 2) (n := 12) (by decide) (by decide) ?_
      exact k_iret hx hb hr hlk hP hS d_La_rule_17
  · replace h := h0 hn
    refine lv_i2l (v := x.toInt64) hx hb d_La_rule_7 rfl ?_
    cases h
    refine va_last hx hb hK hP hD hS 65 2 kw_65 rfl k_in01 d_La_rule_8 (fun H locs hP hD hS => ?_)
    replace hP := k_mvP kw_s65 hP
    refine lv_goto (tgt := 18) hx hb d_La_rule_9 (by decide) ?_
    refine lv_iconst (v := 0) hx hb d_La_rule_18 (by decide) ?_
    refine W.widen (k := 2) (n := 12) (by decide) (by decide) ?_
    exact k_iret hx hb hr hlk hP hS d_La_rule_19
def rm_La_net : Room := { frames := 9, cells := 2, slots := 12, locals := 154 }
def M_La_net (σ : kS) (x1 : Int32) : Option (Int32 × kS) := k_try (M_SM_net σ x1) 3 1 fun x σ1 => some (0, k_sL σ1 (vp_updL σ1.2.2 (0 : Int32).toNatClampNeg x.toInt64))
set_option maxHeartbeats 4000000 in
set_option maxRecDepth 100000 in
theorem K_La_net (l : Launch) (hst : l.stackTraces = false) (D : va_G) (a : Nat → Nat) (c9 : Nat → ClassId) (sz : Nat) {σ : kS} {x1 : Int32} {r9 : Int32} {σo : kS} (h : M_La_net σ x1 = some (r9, σo)) : Met l y_La_net (Cond.codeWith y_La_net c_La_net 4 (some .int) [(0, 9, 12, 24), (0, 9, 15, 13)] :: kG) rm_La_net (k_PcY D a c9 sz σ [.ref (a 0), .int x1, .ref (a 65)]) (k_Qi D a c9 r9 σo (k_A a c9 σ sz)) 2 12 (k_A a c9 σ sz) := by
  refine k_metW (Qf := k_Qi D a c9 r9 σo) (by decide) (Nat.le_of_ble_eq_true rfl) (fun p e s m args below meth c A ls C0 htab hX hY hP hD hS hl => ?_)
  obtain ⟨hx, hb, hml, hown, hts, hr, hlk, hK, hN, hA⟩ := C0
  unfold M_La_net at h
  obtain ⟨n1, x, σ1, hc, h0, hp⟩ := k_try_e h
  have hl : lv_has ls 4 [(0, .ref (a 0)), (1, .int x1), (2, .ref (a 65))] := hl
  refine lv_aload_n hx hb d_La_net_0 rfl (lv_at hl 2 rfl) ?_
  refine lv_iconst (v := 0) hx hb d_La_net_1 (by decide) ?_
  refine lv_aload_n hx hb d_La_net_2 rfl (lv_at hl 0 rfl) ?_
  refine lv_iload_n hx hb d_La_net_3 rfl (lv_at hl 1 rfl) ?_
  refine k_tcalli (vx_runV (As := [.int x1]) (rest := [.int 0, .ref (a 65)]) ⟨hx, hb, hml, hown, hts⟩ (K_SM_net l hst D a c9 s.heap.size hc) (cwV 1 hts (k_gV q_656 q_657 q_658 q_1 q_659) rfl rfl rfl h_SM_net ⟨Nat.le_of_ble_eq_true rfl, Nat.le_of_ble_eq_true rfl⟩) (k_preVX (ci := 0) (q0 := 0) rfl kw_0 hP hK hN hD hX hS hA) rfl rfl hl.1 rfl (lv_room (Nat.le_of_ble_eq_true rfl)) d_La_net_4 ⟨Nat.le_of_ble_eq_true rfl, Nat.le_of_ble_eq_true rfl⟩) hD hS hA (fun hn E ce q9 H locs hE hP hD hS hce hcv hcl => ?_) (fun hn H locs hP hD hS => ?_)
  · rcases hp hn with ⟨hn1, rfl, rfl⟩ | ⟨-, hn1, rfl, rfl⟩
    · refine vx_catch (name := "java/lang/IndexOutOfBoundsException") hown [] ⟨0, 9, 12, 24⟩ [⟨0, 9, 15, 13⟩] htab (fun z hz => by cases hz) (by decide) (by decide) (hts _ q_339) (va_Nw.use rfl (hX.2.2.1 (E, "java/lang/IndexOutOfBoundsException") (by rw [hE, hn1]; decide))) hce hcv hcl ?_
      refine lv_astore_n (lv' := [(3, .ref q9), (0, .ref (a 0)), (1, .int x1), (2, .ref (a 65))]) hx hb d_La_net_12 rfl hl (by decide) rfl (fun ls hl => ?_)
      refine lv_iconst (v := 1) hx hb d_La_net_13 (by decide) ?_
      refine W.widen (k := 2) (n := 12) (by decide) (by decide) ?_
      exact k_iret hx hb hr hlk hP hS d_La_net_14
    · refine vx_catch (name := "java/lang/IllegalArgumentException") hown [⟨0, 9, 12, 24⟩] ⟨0, 9, 15, 13⟩ [] htab (fun z hz => by cases hz with | head => exact Or.inr ⟨by decide, "java/lang/IndexOutOfBoundsException", hts _ q_339, hY (E, "java/lang/IndexOutOfBoundsException") (by rw [hE, hn1]; decide)⟩ | tail _ hz => cases hz) (by decide) (by decide) (hts _ q_224) (va_Nw.use rfl (hX.2.2.1 (E, "java/lang/IllegalArgumentException") (by rw [hE, hn1]; decide))) hce hcv hcl ?_
      refine lv_astore_n (lv' := [(3, .ref q9), (0, .ref (a 0)), (1, .int x1), (2, .ref (a 65))]) hx hb d_La_net_15 rfl hl (by decide) rfl (fun ls hl => ?_)
      refine lv_iconst (v := 2) hx hb d_La_net_16 (by decide) ?_
      refine W.widen (k := 2) (n := 12) (by decide) (by decide) ?_
      exact k_iret hx hb hr hlk hP hS d_La_net_17
  · replace h := h0 hn
    refine lv_i2l (v := x.toInt64) hx hb d_La_net_7 rfl ?_
    cases h
    refine va_last hx hb hK hP hD hS 65 2 kw_65 rfl k_in01 d_La_net_8 (fun H locs hP hD hS => ?_)
    replace hP := k_mvP kw_s65 hP
    refine lv_goto (tgt := 18) hx hb d_La_net_9 (by decide) ?_
    refine lv_iconst (v := 0) hx hb d_La_net_18 (by decide) ?_
    refine W.widen (k := 2) (n := 12) (by decide) (by decide) ?_
    exact k_iret hx hb hr hlk hP hS d_La_net_19
def rm_La_first : Room := { frames := 29, cells := 2, slots := 12, locals := 785 }
def M_La_first (σ : kS) (x1 : Int32) : Option (Int32 × kS) := k_try (M_SM_first σ x1) 3 1 fun x σ1 => some (0, k_sL σ1 (vp_updL σ1.2.2 (0 : Int32).toNatClampNeg x.toInt64))
set_option maxHeartbeats 4000000 in
set_option maxRecDepth 100000 in
theorem K_La_first (l : Launch) (hst : l.stackTraces = false) (D : va_G) (a : Nat → Nat) (c9 : Nat → ClassId) (sz : Nat) {σ : kS} {x1 : Int32} {r9 : Int32} {σo : kS} (h : M_La_first σ x1 = some (r9, σo)) : Met l y_La_first (Cond.codeWith y_La_first c_La_first 4 (some .int) [(0, 9, 12, 24), (0, 9, 15, 13)] :: kG) rm_La_first (k_PcY D a c9 sz σ [.ref (a 0), .int x1, .ref (a 65)]) (k_Qi D a c9 r9 σo (k_A a c9 σ sz)) 2 12 (k_A a c9 σ sz) := by
  refine k_metW (Qf := k_Qi D a c9 r9 σo) (by decide) (Nat.le_of_ble_eq_true rfl) (fun p e s m args below meth c A ls C0 htab hX hY hP hD hS hl => ?_)
  obtain ⟨hx, hb, hml, hown, hts, hr, hlk, hK, hN, hA⟩ := C0
  unfold M_La_first at h
  obtain ⟨n1, x, σ1, hc, h0, hp⟩ := k_try_e h
  have hl : lv_has ls 4 [(0, .ref (a 0)), (1, .int x1), (2, .ref (a 65))] := hl
  refine lv_aload_n hx hb d_La_first_0 rfl (lv_at hl 2 rfl) ?_
  refine lv_iconst (v := 0) hx hb d_La_first_1 (by decide) ?_
  refine lv_aload_n hx hb d_La_first_2 rfl (lv_at hl 0 rfl) ?_
  refine lv_iload_n hx hb d_La_first_3 rfl (lv_at hl 1 rfl) ?_
  refine k_tcalli (vx_runV (As := [.int x1]) (rest := [.int 0, .ref (a 65)]) ⟨hx, hb, hml, hown, hts⟩ (K_SM_first l hst D a c9 s.heap.size hc) (cwV 1 hts (k_gV q_678 q_679 q_680 q_1 q_681) rfl rfl rfl h_SM_first ⟨Nat.le_of_ble_eq_true rfl, Nat.le_of_ble_eq_true rfl⟩) (k_preVX (ci := 0) (q0 := 0) rfl kw_0 hP hK hN hD hX hS hA) rfl rfl hl.1 rfl (lv_room (Nat.le_of_ble_eq_true rfl)) d_La_first_4 ⟨Nat.le_of_ble_eq_true rfl, Nat.le_of_ble_eq_true rfl⟩) hD hS hA (fun hn E ce q9 H locs hE hP hD hS hce hcv hcl => ?_) (fun hn H locs hP hD hS => ?_)
  · rcases hp hn with ⟨hn1, rfl, rfl⟩ | ⟨-, hn1, rfl, rfl⟩
    · refine vx_catch (name := "java/lang/IndexOutOfBoundsException") hown [] ⟨0, 9, 12, 24⟩ [⟨0, 9, 15, 13⟩] htab (fun z hz => by cases hz) (by decide) (by decide) (hts _ q_339) (va_Nw.use rfl (hX.2.2.1 (E, "java/lang/IndexOutOfBoundsException") (by rw [hE, hn1]; decide))) hce hcv hcl ?_
      refine lv_astore_n (lv' := [(3, .ref q9), (0, .ref (a 0)), (1, .int x1), (2, .ref (a 65))]) hx hb d_La_first_12 rfl hl (by decide) rfl (fun ls hl => ?_)
      refine lv_iconst (v := 1) hx hb d_La_first_13 (by decide) ?_
      refine W.widen (k := 2) (n := 12) (by decide) (by decide) ?_
      exact k_iret hx hb hr hlk hP hS d_La_first_14
    · refine vx_catch (name := "java/lang/IllegalArgumentException") hown [⟨0, 9, 12, 24⟩] ⟨0, 9, 15, 13⟩ [] htab (fun z hz => by cases hz with | head => exact Or.inr ⟨by decide, "java/lang/IndexOutOfBoundsException", hts _ q_339, hY (E, "java/lang/IndexOutOfBoundsException") (by rw [hE, hn1]; decide)⟩ | tail _ hz => cases hz) (by decide) (by decide) (hts _ q_224) (va_Nw.use rfl (hX.2.2.1 (E, "java/lang/IllegalArgumentException") (by rw [hE, hn1]; decide))) hce hcv hcl ?_
      refine lv_astore_n (lv' := [(3, .ref q9), (0, .ref (a 0)), (1, .int x1), (2, .ref (a 65))]) hx hb d_La_first_15 rfl hl (by decide) rfl (fun ls hl => ?_)
      refine lv_iconst (v := 2) hx hb d_La_first_16 (by decide) ?_
      refine W.widen (k := 2) (n := 12) (by decide) (by decide) ?_
      exact k_iret hx hb hr hlk hP hS d_La_first_17
  · replace h := h0 hn
    refine lv_i2l (v := x.toInt64) hx hb d_La_first_7 rfl ?_
    cases h
    refine va_last hx hb hK hP hD hS 65 2 kw_65 rfl k_in01 d_La_first_8 (fun H locs hP hD hS => ?_)
    replace hP := k_mvP kw_s65 hP
    refine lv_goto (tgt := 18) hx hb d_La_first_9 (by decide) ?_
    refine lv_iconst (v := 0) hx hb d_La_first_18 (by decide) ?_
    refine W.widen (k := 2) (n := 12) (by decide) (by decide) ?_
    exact k_iret hx hb hr hlk hP hS d_La_first_19
def rm_La_order : Room := { frames := 25, cells := 6, slots := 36, locals := 688 }
def M_La_order (σ : kS) (x1 x2 : Int32) : Option (Int32 × kS) := k_try (M_SM_order σ x1 x2) 3 1 fun x σ1 => some (0, k_sL σ1 (vp_updL σ1.2.2 (0 : Int32).toNatClampNeg x.toInt64))
set_option maxHeartbeats 4000000 in
set_option maxRecDepth 100000 in
theorem K_La_order (l : Launch) (hst : l.stackTraces = false) (D : va_G) (a : Nat → Nat) (c9 : Nat → ClassId) (sz : Nat) {σ : kS} {x1 x2 : Int32} {r9 : Int32} {σo : kS} (h : M_La_order σ x1 x2 = some (r9, σo)) : Met l y_La_order (Cond.codeWith y_La_order c_La_order 5 (some .int) [(0, 10, 13, 24), (0, 10, 17, 13)] :: kG) rm_La_order (k_PcY D a c9 sz σ [.ref (a 0), .int x1, .int x2, .ref (a 65)]) (k_Qi D a c9 r9 σo (k_A a c9 σ sz)) 6 36 (k_A a c9 σ sz) := by
  refine k_metW (Qf := k_Qi D a c9 r9 σo) (by decide) (Nat.le_of_ble_eq_true rfl) (fun p e s m args below meth c A ls C0 htab hX hY hP hD hS hl => ?_)
  obtain ⟨hx, hb, hml, hown, hts, hr, hlk, hK, hN, hA⟩ := C0
  unfold M_La_order at h
  obtain ⟨n1, x, σ1, hc, h0, hp⟩ := k_try_e h
  have hl : lv_has ls 5 [(0, .ref (a 0)), (1, .int x1), (2, .int x2), (3, .ref (a 65))] := hl
  refine lv_aload_n hx hb d_La_order_0 rfl (lv_at hl 3 rfl) ?_
  refine lv_iconst (v := 0) hx hb d_La_order_1 (by decide) ?_
  refine lv_aload_n hx hb d_La_order_2 rfl (lv_at hl 0 rfl) ?_
  refine lv_iload_n hx hb d_La_order_3 rfl (lv_at hl 1 rfl) ?_
  refine lv_iload_n hx hb d_La_order_4 rfl (lv_at hl 2 rfl) ?_
  refine k_tcalli (vx_runV (As := [.int x1, .int x2]) (rest := [.int 0, .ref (a 65)]) ⟨hx, hb, hml, hown, hts⟩ (K_SM_order l hst D a c9 s.heap.size hc) (cwV 2 hts (k_gV q_686 q_687 q_688 q_1 q_689) rfl rfl rfl h_SM_order ⟨Nat.le_of_ble_eq_true rfl, Nat.le_of_ble_eq_true rfl⟩) (k_preVX (ci := 0) (q0 := 0) rfl kw_0 hP hK hN hD hX hS hA) rfl rfl hl.1 rfl (lv_room (Nat.le_of_ble_eq_true rfl)) d_La_order_5 ⟨Nat.le_of_ble_eq_true rfl, Nat.le_of_ble_eq_true rfl⟩) hD hS hA (fun hn E ce q9 H locs hE hP hD hS hce hcv hcl => ?_) (fun hn H locs hP hD hS => ?_)
  · rcases hp hn with ⟨hn1, rfl, rfl⟩ | ⟨-, hn1, rfl, rfl⟩
    · refine vx_catch (name := "java/lang/IndexOutOfBoundsException") hown [] ⟨0, 10, 13, 24⟩ [⟨0, 10, 17, 13⟩] htab (fun z hz => by cases hz) (by decide) (by decide) (hts _ q_339) (va_Nw.use rfl (hX.2.2.1 (E, "java/lang/IndexOutOfBoundsException") (by rw [hE, hn1]; decide))) hce hcv hcl ?_
      refine lv_astore (lv' := [(4, .ref q9), (0, .ref (a 0)), (1, .int x1), (2, .int x2), (3, .ref (a 65))]) hx hb d_La_order_13 hl (by decide) rfl (fun ls hl => ?_)
      refine lv_iconst (v := 1) hx hb d_La_order_15 (by decide) ?_
      refine W.widen (k := 6) (n := 36) (by decide) (by decide) ?_
      exact k_iret hx hb hr hlk hP hS d_La_order_16
    · refine vx_catch (name := "java/lang/IllegalArgumentException") hown [⟨0, 10, 13, 24⟩] ⟨0, 10, 17, 13⟩ [] htab (fun z hz => by cases hz with | head => exact Or.inr ⟨by decide, "java/lang/IndexOutOfBoundsException", hts _ q_339, hY (E, "java/lang/IndexOutOfBoundsException") (by rw [hE, hn1]; decide)⟩ | tail _ hz => cases hz) (by decide) (by decide) (hts _ q_224) (va_Nw.use rfl (hX.2.2.1 (E, "java/lang/IllegalArgumentException") (by rw [hE, hn1]; decide))) hce hcv hcl ?_
      refine lv_astore (lv' := [(4, .ref q9), (0, .ref (a 0)), (1, .int x1), (2, .int x2), (3, .ref (a 65))]) hx hb d_La_order_17 hl (by decide) rfl (fun ls hl => ?_)
      refine lv_iconst (v := 2) hx hb d_La_order_19 (by decide) ?_
      refine W.widen (k := 6) (n := 36) (by decide) (by decide) ?_
      exact k_iret hx hb hr hlk hP hS d_La_order_20
  · replace h := h0 hn
    refine lv_i2l (v := x.toInt64) hx hb d_La_order_8 rfl ?_
    cases h
    refine va_last hx hb hK hP hD hS 65 2 kw_65 rfl k_in01 d_La_order_9 (fun H locs hP hD hS => ?_)
    replace hP := k_mvP kw_s65 hP
    refine lv_goto (tgt := 21) hx hb d_La_order_10 (by decide) ?_
    refine lv_iconst (v := 0) hx hb d_La_order_21 (by decide) ?_
    refine W.widen (k := 6) (n := 36) (by decide) (by decide) ?_
    exact k_iret hx hb hr hlk hP hS d_La_order_22
def rm_La_parts : Room := { frames := 8, cells := 1, slots := 6, locals := 132 }
def M_La_parts (σ : kS) (x1 : Int32) : Option (Int32 × kS) := k_try (M_SM_parts σ x1) 3 0 fun x σ1 => some (0, k_sL σ1 (vp_updL σ1.2.2 (0 : Int32).toNatClampNeg x.toInt64))
set_option maxHeartbeats 4000000 in
set_option maxRecDepth 100000 in
theorem K_La_parts (l : Launch) (hst : l.stackTraces = false) (D : va_G) (a : Nat → Nat) (c9 : Nat → ClassId) (sz : Nat) {σ : kS} {x1 : Int32} {r9 : Int32} {σo : kS} (h : M_La_parts σ x1 = some (r9, σo)) : Met l y_La_parts (Cond.codeWith y_La_parts c_La_parts 4 (some .int) [(0, 9, 12, 24)] :: kG) rm_La_parts (k_PcY D a c9 sz σ [.ref (a 0), .int x1, .ref (a 65)]) (k_Qi D a c9 r9 σo (k_A a c9 σ sz)) 1 6 (k_A a c9 σ sz) := by
  refine k_metW (Qf := k_Qi D a c9 r9 σo) (by decide) (Nat.le_of_ble_eq_true rfl) (fun p e s m args below meth c A ls C0 htab hX hY hP hD hS hl => ?_)
  obtain ⟨hx, hb, hml, hown, hts, hr, hlk, hK, hN, hA⟩ := C0
  unfold M_La_parts at h
  obtain ⟨n1, x, σ1, hc, h0, hp⟩ := k_try_e h
  have hl : lv_has ls 4 [(0, .ref (a 0)), (1, .int x1), (2, .ref (a 65))] := hl
  refine lv_aload_n hx hb d_La_parts_0 rfl (lv_at hl 2 rfl) ?_
  refine lv_iconst (v := 0) hx hb d_La_parts_1 (by decide) ?_
  refine lv_aload_n hx hb d_La_parts_2 rfl (lv_at hl 0 rfl) ?_
  refine lv_iload_n hx hb d_La_parts_3 rfl (lv_at hl 1 rfl) ?_
  refine k_tcalli (vx_runV (As := [.int x1]) (rest := [.int 0, .ref (a 65)]) ⟨hx, hb, hml, hown, hts⟩ (K_SM_parts l hst D a c9 s.heap.size hc) (cwV 1 hts (k_gV q_694 q_695 q_696 q_1 q_697) rfl rfl rfl h_SM_parts ⟨Nat.le_of_ble_eq_true rfl, Nat.le_of_ble_eq_true rfl⟩) (k_preVX (ci := 0) (q0 := 0) rfl kw_0 hP hK hN hD hX hS hA) rfl rfl hl.1 rfl (lv_room (Nat.le_of_ble_eq_true rfl)) d_La_parts_4 ⟨Nat.le_of_ble_eq_true rfl, Nat.le_of_ble_eq_true rfl⟩) hD hS hA (fun hn E ce q9 H locs hE hP hD hS hce hcv hcl => ?_) (fun hn H locs hP hD hS => ?_)
  · rcases hp hn with ⟨hn1, rfl, rfl⟩ | ⟨-, hn1, rfl, rfl⟩
    · refine vx_catch (name := "java/lang/IndexOutOfBoundsException") hown [] ⟨0, 9, 12, 24⟩ [] htab (fun z hz => by cases hz) (by decide) (by decide) (hts _ q_339) (va_Nw.use rfl (hX.2.2.1 (E, "java/lang/IndexOutOfBoundsException") (by rw [hE, hn1]; decide))) hce hcv hcl ?_
      refine lv_astore_n (lv' := [(3, .ref q9), (0, .ref (a 0)), (1, .int x1), (2, .ref (a 65))]) hx hb d_La_parts_12 rfl hl (by decide) rfl (fun ls hl => ?_)
      refine lv_iconst (v := 1) hx hb d_La_parts_13 (by decide) ?_
      refine W.widen (k := 1) (n := 6) (by decide) (by decide) ?_
      exact k_iret hx hb hr hlk hP hS d_La_parts_14
    · exact absurd hn1 hn
  · replace h := h0 hn
    refine lv_i2l (v := x.toInt64) hx hb d_La_parts_7 rfl ?_
    cases h
    refine va_last hx hb hK hP hD hS 65 2 kw_65 rfl k_in01 d_La_parts_8 (fun H locs hP hD hS => ?_)
    replace hP := k_mvP kw_s65 hP
    refine lv_goto (tgt := 15) hx hb d_La_parts_9 (by decide) ?_
    refine lv_iconst (v := 0) hx hb d_La_parts_15 (by decide) ?_
    refine W.widen (k := 1) (n := 6) (by decide) (by decide) ?_
    exact k_iret hx hb hr hlk hP hS d_La_parts_16
def rm_La_part : Room := { frames := 8, cells := 1, slots := 6, locals := 133 }
def M_La_part (σ : kS) (x1 x2 : Int32) : Option (Int32 × kS) := k_try (M_SM_part σ x1 x2) 3 0 fun x σ1 => some (0, k_sL σ1 (vp_updL σ1.2.2 (0 : Int32).toNatClampNeg x.toInt64))
set_option maxHeartbeats 4000000 in
set_option maxRecDepth 100000 in
theorem K_La_part (l : Launch) (hst : l.stackTraces = false) (D : va_G) (a : Nat → Nat) (c9 : Nat → ClassId) (sz : Nat) {σ : kS} {x1 x2 : Int32} {r9 : Int32} {σo : kS} (h : M_La_part σ x1 x2 = some (r9, σo)) : Met l y_La_part (Cond.codeWith y_La_part c_La_part 5 (some .int) [(0, 10, 13, 24)] :: kG) rm_La_part (k_PcY D a c9 sz σ [.ref (a 0), .int x1, .int x2, .ref (a 65)]) (k_Qi D a c9 r9 σo (k_A a c9 σ sz)) 1 6 (k_A a c9 σ sz) := by
  refine k_metW (Qf := k_Qi D a c9 r9 σo) (by decide) (Nat.le_of_ble_eq_true rfl) (fun p e s m args below meth c A ls C0 htab hX hY hP hD hS hl => ?_)
  obtain ⟨hx, hb, hml, hown, hts, hr, hlk, hK, hN, hA⟩ := C0
  unfold M_La_part at h
  obtain ⟨n1, x, σ1, hc, h0, hp⟩ := k_try_e h
  have hl : lv_has ls 5 [(0, .ref (a 0)), (1, .int x1), (2, .int x2), (3, .ref (a 65))] := hl
  refine lv_aload_n hx hb d_La_part_0 rfl (lv_at hl 3 rfl) ?_
  refine lv_iconst (v := 0) hx hb d_La_part_1 (by decide) ?_
  refine lv_aload_n hx hb d_La_part_2 rfl (lv_at hl 0 rfl) ?_
  refine lv_iload_n hx hb d_La_part_3 rfl (lv_at hl 1 rfl) ?_
  refine lv_iload_n hx hb d_La_part_4 rfl (lv_at hl 2 rfl) ?_
  refine k_tcalli (vx_runV (As := [.int x1, .int x2]) (rest := [.int 0, .ref (a 65)]) ⟨hx, hb, hml, hown, hts⟩ (K_SM_part l hst D a c9 s.heap.size hc) (cwV 2 hts (k_gV q_702 q_703 q_704 q_1 q_705) rfl rfl rfl h_SM_part ⟨Nat.le_of_ble_eq_true rfl, Nat.le_of_ble_eq_true rfl⟩) (k_preVX (ci := 0) (q0 := 0) rfl kw_0 hP hK hN hD hX hS hA) rfl rfl hl.1 rfl (lv_room (Nat.le_of_ble_eq_true rfl)) d_La_part_5 ⟨Nat.le_of_ble_eq_true rfl, Nat.le_of_ble_eq_true rfl⟩) hD hS hA (fun hn E ce q9 H locs hE hP hD hS hce hcv hcl => ?_) (fun hn H locs hP hD hS => ?_)
  · rcases hp hn with ⟨hn1, rfl, rfl⟩ | ⟨-, hn1, rfl, rfl⟩
    · refine vx_catch (name := "java/lang/IndexOutOfBoundsException") hown [] ⟨0, 10, 13, 24⟩ [] htab (fun z hz => by cases hz) (by decide) (by decide) (hts _ q_339) (va_Nw.use rfl (hX.2.2.1 (E, "java/lang/IndexOutOfBoundsException") (by rw [hE, hn1]; decide))) hce hcv hcl ?_
      refine lv_astore (lv' := [(4, .ref q9), (0, .ref (a 0)), (1, .int x1), (2, .int x2), (3, .ref (a 65))]) hx hb d_La_part_13 hl (by decide) rfl (fun ls hl => ?_)
      refine lv_iconst (v := 1) hx hb d_La_part_15 (by decide) ?_
      refine W.widen (k := 1) (n := 6) (by decide) (by decide) ?_
      exact k_iret hx hb hr hlk hP hS d_La_part_16
    · exact absurd hn1 hn
  · replace h := h0 hn
    refine lv_i2l (v := x.toInt64) hx hb d_La_part_8 rfl ?_
    cases h
    refine va_last hx hb hK hP hD hS 65 2 kw_65 rfl k_in01 d_La_part_9 (fun H locs hP hD hS => ?_)
    replace hP := k_mvP kw_s65 hP
    refine lv_goto (tgt := 17) hx hb d_La_part_10 (by decide) ?_
    refine lv_iconst (v := 0) hx hb d_La_part_17 (by decide) ?_
    refine W.widen (k := 1) (n := 6) (by decide) (by decide) ?_
    exact k_iret hx hb hr hlk hP hS d_La_part_18
