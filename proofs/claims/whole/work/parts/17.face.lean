/-! mirrors and contracts, by program (wip/whole/run.py) -/
def rm_SM_requireBelow : Room := { frames := 6, cells := 1, slots := 6, locals := 90 }
def M_SM_requireBelow_9 (σ : kS) (x0 x1 : Int32) : Option kR := some ((1, 0), σ)
set_option maxHeartbeats 4000000 in
set_option maxRecDepth 100000 in
theorem B_SM_requireBelow_9 {p : Program} {l : Launch} {e : Env} {s : State} {m : MethodId} {args : Array Value} {below : List Frame} {meth : Method} {c : Code} {D : va_G} {a : Nat → Nat} {c9 : Nat → ClassId} {A : Nat → Prop} {res : kR} (C0 : k_Cy D c9 l p s m args meth c R_SM c_SM_requireBelow 2 none A) (σ : kS) (x0 x1 : Int32) (H : Heap) (locs : List Loc) (ls : Array Slot) (hP : va_P D kcl (kw a c9 σ) H) (hD : va_D A (kw a c9 σ)) (hS : va_S A s.heap H locs) (hl : lv_has ls 2 [(0, .int x0), (1, .int x1)]) (h : M_SM_requireBelow_9 σ x0 x1 = some res) : W p l e rm_SM_requireBelow s m args below meth c H locs 0 0 (vx_MQ below (k_QvX D a c9 res A) (k_XC D a c9 res A) args s 1 6 A) (F0 m 9 ls []) := by
  obtain ⟨⟨hx, hb, hml, hown, hts, hr, hlk, hK, hN, hA⟩, hst, htab, hX⟩ := id C0
  unfold M_SM_requireBelow_9 at h
  cases h
  obtain ⟨sa, hsa⟩ := hX.2.2.2.2 (162, "there is no such name, head, kind or number of tries") (by decide)
  exact vx_throwS (cls := "java/lang/IllegalArgumentException") (text := "there is no such name, head, kind or number of tries") (names := kNm) hx hb hst hown (by decide) (by decide) (hts _ q_233) (hts _ q_11) hsa (k_hat hts hX k_x59a k_x59b) k_x59c hX.1 hX.2.1 hS (hl.1.trans hml.symm) d_SM_requireBelow_9 d_SM_requireBelow_12 d_SM_requireBelow_13 d_SM_requireBelow_15 d_SM_requireBelow_18 (fun x hx => (htab x hx).elim) (by decide) (by decide) (by decide) (by decide) hlk (k_thrown (by decide) rfl hP hS) hS.2.2 (by decide) (by decide)
def M_SM_requireBelow (σ : kS) (x0 x1 : Int32) : Option kR := if x0 < 0 then (M_SM_requireBelow_9 σ x0 x1) else (if x0 < x1 then (some ((0, 0), σ)) else (M_SM_requireBelow_9 σ x0 x1))
set_option maxHeartbeats 4000000 in
set_option maxRecDepth 100000 in
theorem B_SM_requireBelow_0 {p : Program} {l : Launch} {e : Env} {s : State} {m : MethodId} {args : Array Value} {below : List Frame} {meth : Method} {c : Code} {D : va_G} {a : Nat → Nat} {c9 : Nat → ClassId} {A : Nat → Prop} {res : kR} (C0 : k_Cy D c9 l p s m args meth c R_SM c_SM_requireBelow 2 none A) (σ : kS) (x0 x1 : Int32) (H : Heap) (locs : List Loc) (ls : Array Slot) (hP : va_P D kcl (kw a c9 σ) H) (hD : va_D A (kw a c9 σ)) (hS : va_S A s.heap H locs) (hl : lv_has ls 2 [(0, .int x0), (1, .int x1)]) (h : M_SM_requireBelow σ x0 x1 = some res) : W p l e rm_SM_requireBelow s m args below meth c H locs 0 0 (vx_MQ below (k_QvX D a c9 res A) (k_XC D a c9 res A) args s 1 6 A) (F0 m 0 ls []) := by
  obtain ⟨⟨hx, hb, hml, hown, hts, hr, hlk, hK, hN, hA⟩, hst, htab, hX⟩ := id C0
  unfold M_SM_requireBelow at h
  refine lv_iload_n hx hb d_SM_requireBelow_0 rfl (lv_at hl 0 rfl) ?_
  refine lv_if_lt (tgt := 9) hx hb d_SM_requireBelow_1 (by decide) (fun cn1 => ?_) (fun cn1 => ?_)
  · replace h := (if_pos cn1).symm.trans h
    refine W.widen (k := 0) (n := 0) (by decide) (by decide) ?_
    exact B_SM_requireBelow_9 C0 _ _ _ H locs ls hP hD hS (lv_sub hl [0, 1] rfl) h
  · replace h := (if_neg cn1).symm.trans h
    refine lv_iload_n hx hb d_SM_requireBelow_4 rfl (lv_at hl 0 rfl) ?_
    refine lv_iload_n hx hb d_SM_requireBelow_5 rfl (lv_at hl 1 rfl) ?_
    refine lv_icmp_lt (tgt := 19) hx hb d_SM_requireBelow_6 (by decide) (fun cn2 => ?_) (fun cn2 => ?_)
    · replace h := (if_pos cn2).symm.trans h
      cases h
      refine W.widen (k := 1) (n := 6) (by decide) (by decide) ?_
      exact k_vretX hx hb hr hlk hP hS d_SM_requireBelow_19
    · replace h := (if_neg cn2).symm.trans h
      refine W.widen (k := 0) (n := 0) (by decide) (by decide) ?_
      exact B_SM_requireBelow_9 C0 _ _ _ H locs ls hP hD hS (lv_sub hl [0, 1] rfl) h
theorem K_SM_requireBelow (l : Launch) (hst : l.stackTraces = false) (D : va_G) (a : Nat → Nat) (c9 : Nat → ClassId) (sz : Nat) {σ : kS} {x0 x1 : Int32} {res : kR} (h : M_SM_requireBelow σ x0 x1 = some res) : vx_Met l y_SM_requireBelow (Cond.code y_SM_requireBelow c_SM_requireBelow 2 none :: kG) rm_SM_requireBelow (k_PcX D a c9 sz σ [.int x0, .int x1]) (k_QvX D a c9 res (k_A a c9 σ sz)) (k_XC D a c9 res (k_A a c9 σ sz)) 1 6 (k_A a c9 σ sz) :=
  k_metX (Qf := k_QvX D a c9 res) (Xf := k_XC D a c9 res) hst (by decide) (Nat.le_of_ble_eq_true rfl) (fun p e s m args below meth c A ls C0 hP hD hS hl => B_SM_requireBelow_0 C0 σ x0 x1 s.heap [] ls hP hD hS hl h)
def rm_SM_requireTree : Room := { frames := 6, cells := 1, slots := 6, locals := 90 }
def M_SM_requireTree (σ : kS) (x1 : Int32) : Option kR := k_call (M_F_hasTree σ x1) fun v1 σ2 => if v1 = 0 then (some ((3, 0), σ2)) else (some ((0, 0), σ2))
set_option maxHeartbeats 4000000 in
set_option maxRecDepth 100000 in
theorem B_SM_requireTree_0 {p : Program} {l : Launch} {e : Env} {s : State} {m : MethodId} {args : Array Value} {below : List Frame} {meth : Method} {c : Code} {D : va_G} {a : Nat → Nat} {c9 : Nat → ClassId} {A : Nat → Prop} {res : kR} (C0 : k_Cy D c9 l p s m args meth c R_SM c_SM_requireTree 2 none A) (σ : kS) (x1 : Int32) (H : Heap) (locs : List Loc) (ls : Array Slot) (hP : va_P D kcl (kw a c9 σ) H) (hD : va_D A (kw a c9 σ)) (hS : va_S A s.heap H locs) (hl : lv_has ls 2 [(0, .ref (a 0)), (1, .int x1)]) (h : M_SM_requireTree σ x1 = some res) : W p l e rm_SM_requireTree s m args below meth c H locs 0 0 (vx_MQ below (k_QvX D a c9 res A) (k_XC D a c9 res A) args s 1 6 A) (F0 m 0 ls []) := by
  obtain ⟨⟨hx, hb, hml, hown, hts, hr, hlk, hK, hN, hA⟩, hst, htab, hX⟩ := id C0
  unfold M_SM_requireTree at h
  refine lv_aload_n hx hb d_SM_requireTree_0 rfl (lv_at hl 0 rfl) ?_
  refine va_get (ci := 0) (C := R_SM) (T := T_SM) (N := 6) hx hb hts in_SM hown hK hP 0 kw_0 rfl 0 (by decide) (hts _ q_174) (fun _ h9 => h9) rfl d_SM_requireTree_1 ?_
  refine lv_iload_n hx hb d_SM_requireTree_4 rfl (lv_at hl 1 rfl) ?_
  obtain ⟨v1, σ2, hc3, h⟩ := k_call_e h
  refine k_calli (va_runV (As := [.int x1]) (rest := []) ⟨hx, hb, hml, hown, hts⟩ (K_F_hasTree l D a c9 H.size hc3) (cwV 1 hts (k_gV q_348 q_349 q_350 q_2 q_351) rfl rfl rfl h_F_hasTree ⟨Nat.le_of_ble_eq_true rfl, Nat.le_of_ble_eq_true rfl⟩) (k_preV (ci := 2) (q0 := 1) rfl kw_1 hP hK hN hD) rfl rfl hl.1 rfl (lv_room (Nat.le_of_ble_eq_true rfl)) d_SM_requireTree_5 ⟨Nat.le_of_ble_eq_true rfl, Nat.le_of_ble_eq_true rfl⟩) hD hS hA (fun H locs hP hD hS => ?_)
  refine lv_if_ne (tgt := 21) hx hb d_SM_requireTree_8 (by decide) (fun cn4 => ?_) (fun cn4 => ?_)
  · replace h := (if_neg cn4).symm.trans h
    cases h
    refine W.widen (k := 1) (n := 6) (by decide) (by decide) ?_
    exact k_vretX hx hb hr hlk hP hS d_SM_requireTree_21
  · replace h := (if_pos cn4).symm.trans h
    cases h
    obtain ⟨sa, hsa⟩ := hX.2.2.2.2 (152, "no such tree") (by decide)
    exact vx_throwS (cls := "java/lang/IndexOutOfBoundsException") (text := "no such tree") (names := kNm) hx hb hst hown (by decide) (by decide) (hts _ q_352) (hts _ q_13) hsa (k_hat hts hX k_x154a k_x154b) k_x154c hX.1 hX.2.1 hS (hl.1.trans hml.symm) d_SM_requireTree_11 d_SM_requireTree_14 d_SM_requireTree_15 d_SM_requireTree_17 d_SM_requireTree_20 (fun x hx => (htab x hx).elim) (by decide) (by decide) (by decide) (by decide) hlk (k_thrown (by decide) rfl hP hS) hS.2.2 (by decide) (by decide)
theorem K_SM_requireTree (l : Launch) (hst : l.stackTraces = false) (D : va_G) (a : Nat → Nat) (c9 : Nat → ClassId) (sz : Nat) {σ : kS} {x1 : Int32} {res : kR} (h : M_SM_requireTree σ x1 = some res) : vx_Met l y_SM_requireTree (Cond.code y_SM_requireTree c_SM_requireTree 2 none :: kG) rm_SM_requireTree (k_PcX D a c9 sz σ [.ref (a 0), .int x1]) (k_QvX D a c9 res (k_A a c9 σ sz)) (k_XC D a c9 res (k_A a c9 σ sz)) 1 6 (k_A a c9 σ sz) :=
  k_metX (Qf := k_QvX D a c9 res) (Xf := k_XC D a c9 res) hst (by decide) (Nat.le_of_ble_eq_true rfl) (fun p e s m args below meth c A ls C0 hP hD hS hl => B_SM_requireTree_0 C0 σ x1 s.heap [] ls hP hD hS hl h)
def rm_SM_requirePlain : Room := { frames := 7, cells := 2, slots := 12, locals := 111 }
def M_SM_requirePlain (σ : kS) (x1 : Int32) : Option kR := k_callx (M_SM_requireTree σ x1) fun _ σ2 => k_call (M_F_isPlain σ2 x1) fun v5 σ6 => if v5 = 0 then (some ((1, 0), σ6)) else (some ((0, 0), σ6))
set_option maxHeartbeats 4000000 in
set_option maxRecDepth 100000 in
theorem B_SM_requirePlain_0 {p : Program} {l : Launch} {e : Env} {s : State} {m : MethodId} {args : Array Value} {below : List Frame} {meth : Method} {c : Code} {D : va_G} {a : Nat → Nat} {c9 : Nat → ClassId} {A : Nat → Prop} {res : kR} (C0 : k_Cy D c9 l p s m args meth c R_SM c_SM_requirePlain 2 none A) (σ : kS) (x1 : Int32) (H : Heap) (locs : List Loc) (ls : Array Slot) (hP : va_P D kcl (kw a c9 σ) H) (hD : va_D A (kw a c9 σ)) (hS : va_S A s.heap H locs) (hl : lv_has ls 2 [(0, .ref (a 0)), (1, .int x1)]) (h : M_SM_requirePlain σ x1 = some res) : W p l e rm_SM_requirePlain s m args below meth c H locs 0 0 (vx_MQ below (k_QvX D a c9 res A) (k_XC D a c9 res A) args s 2 12 A) (F0 m 0 ls []) := by
  obtain ⟨⟨hx, hb, hml, hown, hts, hr, hlk, hK, hN, hA⟩, hst, htab, hX⟩ := id C0
  unfold M_SM_requirePlain at h
  refine lv_aload_n hx hb d_SM_requirePlain_0 rfl (lv_at hl 0 rfl) ?_
  refine lv_iload_n hx hb d_SM_requirePlain_1 rfl (lv_at hl 1 rfl) ?_
  obtain ⟨n4, v1, σ2, hc3, h0, hp⟩ := k_callx_e h
  refine k_xcallv (vx_runV (As := [.int x1]) (rest := []) ⟨hx, hb, hml, hown, hts⟩ (K_SM_requireTree l hst D a c9 H.size hc3) (cwV 1 hts (k_gV q_344 q_346 s_2 q_1 q_347) rfl rfl rfl h_SM_requireTree ⟨Nat.le_of_ble_eq_true rfl, Nat.le_of_ble_eq_true rfl⟩) (k_preVX (ci := 0) (q0 := 0) rfl kw_0 hP hK hN hD hX hS hA) rfl rfl hl.1 rfl (lv_room (Nat.le_of_ble_eq_true rfl)) d_SM_requirePlain_2 ⟨Nat.le_of_ble_eq_true rfl, Nat.le_of_ble_eq_true rfl⟩) hD hS hA hp htab hlk (by decide) (by decide) (fun hn H locs hP hD hS => ?_)
  replace h := h0 hn
  refine lv_aload_n hx hb d_SM_requirePlain_5 rfl (lv_at hl 0 rfl) ?_
  refine va_get (ci := 0) (C := R_SM) (T := T_SM) (N := 6) hx hb hts in_SM hown hK hP 0 kw_0 rfl 0 (by decide) (hts _ q_174) (fun _ h9 => h9) rfl d_SM_requirePlain_6 ?_
  refine lv_iload_n hx hb d_SM_requirePlain_9 rfl (lv_at hl 1 rfl) ?_
  obtain ⟨v5, σ6, hc7, h⟩ := k_call_e h
  refine k_calli (va_runV (As := [.int x1]) (rest := []) ⟨hx, hb, hml, hown, hts⟩ (K_F_isPlain l D a c9 H.size hc7) (cwV 1 hts (k_gV q_433 q_434 q_435 q_2 q_436) rfl rfl rfl h_F_isPlain ⟨Nat.le_of_ble_eq_true rfl, Nat.le_of_ble_eq_true rfl⟩) (k_preV (ci := 2) (q0 := 1) rfl kw_1 hP hK hN hD) rfl rfl hl.1 rfl (lv_room (Nat.le_of_ble_eq_true rfl)) d_SM_requirePlain_10 ⟨Nat.le_of_ble_eq_true rfl, Nat.le_of_ble_eq_true rfl⟩) hD hS hA (fun H locs hP hD hS => ?_)
  refine lv_if_ne (tgt := 26) hx hb d_SM_requirePlain_13 (by decide) (fun cn8 => ?_) (fun cn8 => ?_)
  · replace h := (if_neg cn8).symm.trans h
    cases h
    refine W.widen (k := 2) (n := 12) (by decide) (by decide) ?_
    exact k_vretX hx hb hr hlk hP hS d_SM_requirePlain_26
  · replace h := (if_pos cn8).symm.trans h
    cases h
    obtain ⟨sa, hsa⟩ := hX.2.2.2.2 (158, "the tree isn't plain") (by decide)
    exact vx_throwS (cls := "java/lang/IllegalArgumentException") (text := "the tree isn't plain") (names := kNm) hx hb hst hown (by decide) (by decide) (hts _ q_233) (hts _ q_11) hsa (k_hat hts hX k_x59a k_x59b) k_x59c hX.1 hX.2.1 hS (hl.1.trans hml.symm) d_SM_requirePlain_16 d_SM_requirePlain_19 d_SM_requirePlain_20 d_SM_requirePlain_22 d_SM_requirePlain_25 (fun x hx => (htab x hx).elim) (by decide) (by decide) (by decide) (by decide) hlk (k_thrown (by decide) rfl hP hS) hS.2.2 (by decide) (by decide)
theorem K_SM_requirePlain (l : Launch) (hst : l.stackTraces = false) (D : va_G) (a : Nat → Nat) (c9 : Nat → ClassId) (sz : Nat) {σ : kS} {x1 : Int32} {res : kR} (h : M_SM_requirePlain σ x1 = some res) : vx_Met l y_SM_requirePlain (Cond.code y_SM_requirePlain c_SM_requirePlain 2 none :: kG) rm_SM_requirePlain (k_PcX D a c9 sz σ [.ref (a 0), .int x1]) (k_QvX D a c9 res (k_A a c9 σ sz)) (k_XC D a c9 res (k_A a c9 σ sz)) 2 12 (k_A a c9 σ sz) :=
  k_metX (Qf := k_QvX D a c9 res) (Xf := k_XC D a c9 res) hst (by decide) (Nat.le_of_ble_eq_true rfl) (fun p e s m args below meth c A ls C0 hP hD hS hl => B_SM_requirePlain_0 C0 σ x1 s.heap [] ls hP hD hS hl h)
def rm_SM_requireMatch : Room := { frames := 6, cells := 1, slots := 6, locals := 90 }
def M_SM_requireMatch_18 (σ : kS) (x1 : Int32) : Option kR := some ((3, 0), σ)
set_option maxHeartbeats 4000000 in
set_option maxRecDepth 100000 in
theorem B_SM_requireMatch_18 {p : Program} {l : Launch} {e : Env} {s : State} {m : MethodId} {args : Array Value} {below : List Frame} {meth : Method} {c : Code} {D : va_G} {a : Nat → Nat} {c9 : Nat → ClassId} {A : Nat → Prop} {res : kR} (C0 : k_Cy D c9 l p s m args meth c R_SM c_SM_requireMatch 2 none A) (σ : kS) (x1 : Int32) (H : Heap) (locs : List Loc) (ls : Array Slot) (hP : va_P D kcl (kw a c9 σ) H) (hD : va_D A (kw a c9 σ)) (hS : va_S A s.heap H locs) (hl : lv_has ls 2 [(0, .ref (a 0)), (1, .int x1)]) (h : M_SM_requireMatch_18 σ x1 = some res) : W p l e rm_SM_requireMatch s m args below meth c H locs 0 0 (vx_MQ below (k_QvX D a c9 res A) (k_XC D a c9 res A) args s 1 6 A) (F0 m 18 ls []) := by
  obtain ⟨⟨hx, hb, hml, hown, hts, hr, hlk, hK, hN, hA⟩, hst, htab, hX⟩ := id C0
  unfold M_SM_requireMatch_18 at h
  cases h
  obtain ⟨sa, hsa⟩ := hX.2.2.2.2 (160, "no such match") (by decide)
  exact vx_throwS (cls := "java/lang/IndexOutOfBoundsException") (text := "no such match") (names := kNm) hx hb hst hown (by decide) (by decide) (hts _ q_352) (hts _ q_13) hsa (k_hat hts hX k_x154a k_x154b) k_x154c hX.1 hX.2.1 hS (hl.1.trans hml.symm) d_SM_requireMatch_18 d_SM_requireMatch_21 d_SM_requireMatch_22 d_SM_requireMatch_24 d_SM_requireMatch_27 (fun x hx => (htab x hx).elim) (by decide) (by decide) (by decide) (by decide) hlk (k_thrown (by decide) rfl hP hS) hS.2.2 (by decide) (by decide)
def M_SM_requireMatch (σ : kS) (x1 : Int32) : Option kR := if x1 < 0 then (M_SM_requireMatch_18 σ x1) else (k_call (M_Se_matches σ) fun _ σ3 => k_call (M_Mt_keptCount σ3) fun v5 σ6 => if x1 < v5 then (some ((0, 0), σ6)) else (M_SM_requireMatch_18 σ6 x1))
set_option maxHeartbeats 4000000 in
set_option maxRecDepth 100000 in
theorem B_SM_requireMatch_0 {p : Program} {l : Launch} {e : Env} {s : State} {m : MethodId} {args : Array Value} {below : List Frame} {meth : Method} {c : Code} {D : va_G} {a : Nat → Nat} {c9 : Nat → ClassId} {A : Nat → Prop} {res : kR} (C0 : k_Cy D c9 l p s m args meth c R_SM c_SM_requireMatch 2 none A) (σ : kS) (x1 : Int32) (H : Heap) (locs : List Loc) (ls : Array Slot) (hP : va_P D kcl (kw a c9 σ) H) (hD : va_D A (kw a c9 σ)) (hS : va_S A s.heap H locs) (hl : lv_has ls 2 [(0, .ref (a 0)), (1, .int x1)]) (h : M_SM_requireMatch σ x1 = some res) : W p l e rm_SM_requireMatch s m args below meth c H locs 0 0 (vx_MQ below (k_QvX D a c9 res A) (k_XC D a c9 res A) args s 1 6 A) (F0 m 0 ls []) := by
  obtain ⟨⟨hx, hb, hml, hown, hts, hr, hlk, hK, hN, hA⟩, hst, htab, hX⟩ := id C0
  unfold M_SM_requireMatch at h
  refine lv_iload_n hx hb d_SM_requireMatch_0 rfl (lv_at hl 1 rfl) ?_
  refine lv_if_lt (tgt := 18) hx hb d_SM_requireMatch_1 (by decide) (fun cn1 => ?_) (fun cn1 => ?_)
  · replace h := (if_pos cn1).symm.trans h
    refine W.widen (k := 0) (n := 0) (by decide) (by decide) ?_
    exact B_SM_requireMatch_18 C0 _ _ H locs ls hP hD hS (lv_sub hl [0, 1] rfl) h
  · replace h := (if_neg cn1).symm.trans h
    refine lv_iload_n hx hb d_SM_requireMatch_4 rfl (lv_at hl 1 rfl) ?_
    refine lv_aload_n hx hb d_SM_requireMatch_5 rfl (lv_at hl 0 rfl) ?_
    refine va_get (ci := 0) (C := R_SM) (T := T_SM) (N := 6) hx hb hts in_SM hown hK hP 0 kw_0 rfl 1 (by decide) (hts _ q_175) (fun _ h9 => h9) rfl d_SM_requireMatch_6 ?_
    obtain ⟨v2, σ3, hc4, h⟩ := k_call_e h
    refine k_callr (va_runV (As := []) (rest := [.int x1]) ⟨hx, hb, hml, hown, hts⟩ (K_Se_matches l D a c9 H.size hc4) (cwV 0 hts (k_gV q_213 q_214 q_215 q_3 q_216) rfl rfl rfl h_Se_matches ⟨Nat.le_of_ble_eq_true rfl, Nat.le_of_ble_eq_true rfl⟩) (k_preV (ci := 6) (q0 := 2) rfl kw_2 hP hK hN hD) rfl rfl hl.1 rfl (lv_room (Nat.le_of_ble_eq_true rfl)) d_SM_requireMatch_9 ⟨Nat.le_of_ble_eq_true rfl, Nat.le_of_ble_eq_true rfl⟩) hD hS hA (fun H locs hP hD hS => ?_)
    obtain ⟨v5, σ6, hc7, h⟩ := k_call_e h
    refine k_calli (va_runV (As := []) (rest := [.int x1]) ⟨hx, hb, hml, hown, hts⟩ (K_Mt_keptCount l D a c9 H.size hc7) (cwV 0 hts (k_gV q_217 q_218 q_219 q_6 q_220) rfl rfl rfl h_Mt_keptCount ⟨Nat.le_of_ble_eq_true rfl, Nat.le_of_ble_eq_true rfl⟩) (k_preV (ci := 3) (q0 := 5) rfl kw_5 hP hK hN hD) rfl rfl hl.1 rfl (lv_room (Nat.le_of_ble_eq_true rfl)) d_SM_requireMatch_12 ⟨Nat.le_of_ble_eq_true rfl, Nat.le_of_ble_eq_true rfl⟩) hD hS hA (fun H locs hP hD hS => ?_)
    refine lv_icmp_lt (tgt := 28) hx hb d_SM_requireMatch_15 (by decide) (fun cn8 => ?_) (fun cn8 => ?_)
    · replace h := (if_pos cn8).symm.trans h
      cases h
      refine W.widen (k := 1) (n := 6) (by decide) (by decide) ?_
      exact k_vretX hx hb hr hlk hP hS d_SM_requireMatch_28
    · replace h := (if_neg cn8).symm.trans h
      refine W.widen (k := 0) (n := 0) (by decide) (by decide) ?_
      exact B_SM_requireMatch_18 C0 _ _ H locs ls hP hD hS (lv_sub hl [0, 1] rfl) h
theorem K_SM_requireMatch (l : Launch) (hst : l.stackTraces = false) (D : va_G) (a : Nat → Nat) (c9 : Nat → ClassId) (sz : Nat) {σ : kS} {x1 : Int32} {res : kR} (h : M_SM_requireMatch σ x1 = some res) : vx_Met l y_SM_requireMatch (Cond.code y_SM_requireMatch c_SM_requireMatch 2 none :: kG) rm_SM_requireMatch (k_PcX D a c9 sz σ [.ref (a 0), .int x1]) (k_QvX D a c9 res (k_A a c9 σ sz)) (k_XC D a c9 res (k_A a c9 σ sz)) 1 6 (k_A a c9 σ sz) :=
  k_metX (Qf := k_QvX D a c9 res) (Xf := k_XC D a c9 res) hst (by decide) (Nat.le_of_ble_eq_true rfl) (fun p e s m args below meth c A ls C0 hP hD hS hl => B_SM_requireMatch_0 C0 σ x1 s.heap [] ls hP hD hS hl h)
def rm_SM_newTree : Room := { frames := 6, cells := 1, slots := 6, locals := 90 }
def M_SM_newTree (σ : kS) (x1 x2 x3 : Int32) : Option kR := k_call (M_F_isFull σ) fun v1 σ2 => if v1 = 0 then (k_call (M_F_add σ2 x1 x2 x3) fun v5 σ6 => some ((0, v5), σ6)) else (some ((2, 0), σ2))
set_option maxHeartbeats 4000000 in
set_option maxRecDepth 100000 in
theorem B_SM_newTree_0 {p : Program} {l : Launch} {e : Env} {s : State} {m : MethodId} {args : Array Value} {below : List Frame} {meth : Method} {c : Code} {D : va_G} {a : Nat → Nat} {c9 : Nat → ClassId} {A : Nat → Prop} {res : kR} (C0 : k_Cy D c9 l p s m args meth c R_SM c_SM_newTree 4 (some .int) A) (σ : kS) (x1 x2 x3 : Int32) (H : Heap) (locs : List Loc) (ls : Array Slot) (hP : va_P D kcl (kw a c9 σ) H) (hD : va_D A (kw a c9 σ)) (hS : va_S A s.heap H locs) (hl : lv_has ls 4 [(0, .ref (a 0)), (1, .int x1), (2, .int x2), (3, .int x3)]) (h : M_SM_newTree σ x1 x2 x3 = some res) : W p l e rm_SM_newTree s m args below meth c H locs 0 0 (vx_MQ below (k_QiX D a c9 res A) (k_XC D a c9 res A) args s 1 6 A) (F0 m 0 ls []) := by
  obtain ⟨⟨hx, hb, hml, hown, hts, hr, hlk, hK, hN, hA⟩, hst, htab, hX⟩ := id C0
  unfold M_SM_newTree at h
  refine lv_aload_n hx hb d_SM_newTree_0 rfl (lv_at hl 0 rfl) ?_
  refine va_get (ci := 0) (C := R_SM) (T := T_SM) (N := 6) hx hb hts in_SM hown hK hP 0 kw_0 rfl 0 (by decide) (hts _ q_174) (fun _ h9 => h9) rfl d_SM_newTree_1 ?_
  obtain ⟨v1, σ2, hc3, h⟩ := k_call_e h
  refine k_calli (va_runV (As := []) (rest := []) ⟨hx, hb, hml, hown, hts⟩ (K_F_isFull l D a c9 H.size hc3) (cwV 0 hts (k_gV q_305 q_306 q_307 q_2 q_308) rfl rfl rfl h_F_isFull ⟨Nat.le_of_ble_eq_true rfl, Nat.le_of_ble_eq_true rfl⟩) (k_preV (ci := 2) (q0 := 1) rfl kw_1 hP hK hN hD) rfl rfl hl.1 rfl (lv_room (Nat.le_of_ble_eq_true rfl)) d_SM_newTree_4 ⟨Nat.le_of_ble_eq_true rfl, Nat.le_of_ble_eq_true rfl⟩) hD hS hA (fun H locs hP hD hS => ?_)
  refine lv_if_eq (tgt := 20) hx hb d_SM_newTree_7 (by decide) (fun cn4 => ?_) (fun cn4 => ?_)
  · replace h := (if_pos cn4).symm.trans h
    refine lv_aload_n hx hb d_SM_newTree_20 rfl (lv_at hl 0 rfl) ?_
    refine va_get (ci := 0) (C := R_SM) (T := T_SM) (N := 6) hx hb hts in_SM hown hK hP 0 kw_0 rfl 0 (by decide) (hts _ q_174) (fun _ h9 => h9) rfl d_SM_newTree_21 ?_
    refine lv_iload_n hx hb d_SM_newTree_24 rfl (lv_at hl 1 rfl) ?_
    refine lv_iload_n hx hb d_SM_newTree_25 rfl (lv_at hl 2 rfl) ?_
    refine lv_iload_n hx hb d_SM_newTree_26 rfl (lv_at hl 3 rfl) ?_
    obtain ⟨v5, σ6, hc7, h⟩ := k_call_e h
    refine k_calli (va_runV (As := [.int x1, .int x2, .int x3]) (rest := []) ⟨hx, hb, hml, hown, hts⟩ (K_F_add l D a c9 H.size hc7) (cwV 3 hts (k_gV q_325 q_326 q_327 q_2 q_328) rfl rfl rfl h_F_add ⟨Nat.le_of_ble_eq_true rfl, Nat.le_of_ble_eq_true rfl⟩) (k_preV (ci := 2) (q0 := 1) rfl kw_1 hP hK hN hD) rfl rfl hl.1 rfl (lv_room (Nat.le_of_ble_eq_true rfl)) d_SM_newTree_27 ⟨Nat.le_of_ble_eq_true rfl, Nat.le_of_ble_eq_true rfl⟩) hD hS hA (fun H locs hP hD hS => ?_)
    cases h
    refine W.widen (k := 1) (n := 6) (by decide) (by decide) ?_
    exact k_iretX hx hb hr hlk hP hS d_SM_newTree_30
  · replace h := (if_neg cn4).symm.trans h
    cases h
    obtain ⟨sa, hsa⟩ := hX.2.2.2.2 (142, "no room for a tree") (by decide)
    exact vx_throwS (cls := "java/lang/IllegalStateException") (text := "no room for a tree") (names := kNm) hx hb hst hown (by decide) (by decide) (hts _ q_309) (hts _ q_12) hsa (k_hat hts hX k_x113a k_x113b) k_x113c hX.1 hX.2.1 hS (hl.1.trans hml.symm) d_SM_newTree_10 d_SM_newTree_13 d_SM_newTree_14 d_SM_newTree_16 d_SM_newTree_19 (fun x hx => (htab x hx).elim) (by decide) (by decide) (by decide) (by decide) hlk (k_thrown (by decide) rfl hP hS) hS.2.2 (by decide) (by decide)
theorem K_SM_newTree (l : Launch) (hst : l.stackTraces = false) (D : va_G) (a : Nat → Nat) (c9 : Nat → ClassId) (sz : Nat) {σ : kS} {x1 x2 x3 : Int32} {res : kR} (h : M_SM_newTree σ x1 x2 x3 = some res) : vx_Met l y_SM_newTree (Cond.code y_SM_newTree c_SM_newTree 4 (some .int) :: kG) rm_SM_newTree (k_PcX D a c9 sz σ [.ref (a 0), .int x1, .int x2, .int x3]) (k_QiX D a c9 res (k_A a c9 σ sz)) (k_XC D a c9 res (k_A a c9 σ sz)) 1 6 (k_A a c9 σ sz) :=
  k_metX (Qf := k_QiX D a c9 res) (Xf := k_XC D a c9 res) hst (by decide) (Nat.le_of_ble_eq_true rfl) (fun p e s m args below meth c A ls C0 hP hD hS hl => B_SM_newTree_0 C0 σ x1 x2 x3 s.heap [] ls hP hD hS hl h)
def rm_SM_leaf : Room := { frames := 7, cells := 2, slots := 12, locals := 113 }
def M_SM_leaf (σ : kS) (x1 : Int32) : Option kR := k_callx (M_SM_requireBelow σ x1 100) fun _ σ2 => k_callx (M_SM_newTree σ2 0 x1 0) fun v5 σ6 => some ((0, v5), σ6)
set_option maxHeartbeats 4000000 in
set_option maxRecDepth 100000 in
theorem B_SM_leaf_0 {p : Program} {l : Launch} {e : Env} {s : State} {m : MethodId} {args : Array Value} {below : List Frame} {meth : Method} {c : Code} {D : va_G} {a : Nat → Nat} {c9 : Nat → ClassId} {A : Nat → Prop} {res : kR} (C0 : k_Cy D c9 l p s m args meth c R_SM c_SM_leaf 2 (some .int) A) (σ : kS) (x1 : Int32) (H : Heap) (locs : List Loc) (ls : Array Slot) (hP : va_P D kcl (kw a c9 σ) H) (hD : va_D A (kw a c9 σ)) (hS : va_S A s.heap H locs) (hl : lv_has ls 2 [(0, .ref (a 0)), (1, .int x1)]) (h : M_SM_leaf σ x1 = some res) : W p l e rm_SM_leaf s m args below meth c H locs 0 0 (vx_MQ below (k_QiX D a c9 res A) (k_XC D a c9 res A) args s 2 12 A) (F0 m 0 ls []) := by
  obtain ⟨⟨hx, hb, hml, hown, hts, hr, hlk, hK, hN, hA⟩, hst, htab, hX⟩ := id C0
  unfold M_SM_leaf at h
  refine lv_iload_n hx hb d_SM_leaf_0 rfl (lv_at hl 1 rfl) ?_
  refine lv_bipush (v := 100) hx hb d_SM_leaf_1 (by decide) ?_
  obtain ⟨n4, v1, σ2, hc3, h0, hp⟩ := k_callx_e h
  refine k_xcallv (vx_runS (As := [.int x1, .int 100]) (rest := []) ⟨hx, hb, hml, hown, hts⟩ (K_SM_requireBelow l hst D a c9 H.size hc3) (va_cwS 2 hts (k_gS q_230 q_231 q_1 q_232) rfl rfl rfl h_SM_requireBelow.2 ⟨Nat.le_of_ble_eq_true rfl, Nat.le_of_ble_eq_true rfl⟩) (k_preSX hP hK hN hD hX hS hA) rfl rfl hl.1 rfl (lv_room (Nat.le_of_ble_eq_true rfl)) d_SM_leaf_3 ⟨Nat.le_of_ble_eq_true rfl, Nat.le_of_ble_eq_true rfl⟩) hD hS hA hp htab hlk (by decide) (by decide) (fun hn H locs hP hD hS => ?_)
  replace h := h0 hn
  refine lv_aload_n hx hb d_SM_leaf_6 rfl (lv_at hl 0 rfl) ?_
  refine lv_iconst (v := 0) hx hb d_SM_leaf_7 (by decide) ?_
  refine lv_iload_n hx hb d_SM_leaf_8 rfl (lv_at hl 1 rfl) ?_
  refine lv_iconst (v := 0) hx hb d_SM_leaf_9 (by decide) ?_
  obtain ⟨n8, v5, σ6, hc7, h0, hp⟩ := k_callx_e h
  refine k_xcalli (vx_runV (As := [.int 0, .int x1, .int 0]) (rest := []) ⟨hx, hb, hml, hown, hts⟩ (K_SM_newTree l hst D a c9 H.size hc7) (cwV 3 hts (k_gV q_301 q_303 s_1 q_1 q_304) rfl rfl rfl h_SM_newTree ⟨Nat.le_of_ble_eq_true rfl, Nat.le_of_ble_eq_true rfl⟩) (k_preVX (ci := 0) (q0 := 0) rfl kw_0 hP hK hN hD hX hS hA) rfl rfl hl.1 rfl (lv_room (Nat.le_of_ble_eq_true rfl)) d_SM_leaf_10 ⟨Nat.le_of_ble_eq_true rfl, Nat.le_of_ble_eq_true rfl⟩) hD hS hA hp htab hlk (by decide) (by decide) (fun hn H locs hP hD hS => ?_)
  replace h := h0 hn
  cases h
  refine W.widen (k := 2) (n := 12) (by decide) (by decide) ?_
  exact k_iretX hx hb hr hlk hP hS d_SM_leaf_13
theorem K_SM_leaf (l : Launch) (hst : l.stackTraces = false) (D : va_G) (a : Nat → Nat) (c9 : Nat → ClassId) (sz : Nat) {σ : kS} {x1 : Int32} {res : kR} (h : M_SM_leaf σ x1 = some res) : vx_Met l y_SM_leaf (Cond.code y_SM_leaf c_SM_leaf 2 (some .int) :: kG) rm_SM_leaf (k_PcX D a c9 sz σ [.ref (a 0), .int x1]) (k_QiX D a c9 res (k_A a c9 σ sz)) (k_XC D a c9 res (k_A a c9 σ sz)) 2 12 (k_A a c9 σ sz) :=
  k_metX (Qf := k_QiX D a c9 res) (Xf := k_XC D a c9 res) hst (by decide) (Nat.le_of_ble_eq_true rfl) (fun p e s m args below meth c A ls C0 hP hD hS hl => B_SM_leaf_0 C0 σ x1 s.heap [] ls hP hD hS hl h)
def rm_SM_node : Room := { frames := 7, cells := 2, slots := 12, locals := 113 }
def M_SM_node (σ : kS) (x1 : Int32) : Option kR := k_callx (M_SM_requireBelow σ x1 10) fun _ σ2 => k_callx (M_SM_newTree σ2 1 x1 0) fun v5 σ6 => some ((0, v5), σ6)
set_option maxHeartbeats 4000000 in
set_option maxRecDepth 100000 in
theorem B_SM_node_0 {p : Program} {l : Launch} {e : Env} {s : State} {m : MethodId} {args : Array Value} {below : List Frame} {meth : Method} {c : Code} {D : va_G} {a : Nat → Nat} {c9 : Nat → ClassId} {A : Nat → Prop} {res : kR} (C0 : k_Cy D c9 l p s m args meth c R_SM c_SM_node 2 (some .int) A) (σ : kS) (x1 : Int32) (H : Heap) (locs : List Loc) (ls : Array Slot) (hP : va_P D kcl (kw a c9 σ) H) (hD : va_D A (kw a c9 σ)) (hS : va_S A s.heap H locs) (hl : lv_has ls 2 [(0, .ref (a 0)), (1, .int x1)]) (h : M_SM_node σ x1 = some res) : W p l e rm_SM_node s m args below meth c H locs 0 0 (vx_MQ below (k_QiX D a c9 res A) (k_XC D a c9 res A) args s 2 12 A) (F0 m 0 ls []) := by
  obtain ⟨⟨hx, hb, hml, hown, hts, hr, hlk, hK, hN, hA⟩, hst, htab, hX⟩ := id C0
  unfold M_SM_node at h
  refine lv_iload_n hx hb d_SM_node_0 rfl (lv_at hl 1 rfl) ?_
  refine lv_bipush (v := 10) hx hb d_SM_node_1 (by decide) ?_
  obtain ⟨n4, v1, σ2, hc3, h0, hp⟩ := k_callx_e h
  refine k_xcallv (vx_runS (As := [.int x1, .int 10]) (rest := []) ⟨hx, hb, hml, hown, hts⟩ (K_SM_requireBelow l hst D a c9 H.size hc3) (va_cwS 2 hts (k_gS q_230 q_231 q_1 q_232) rfl rfl rfl h_SM_requireBelow.2 ⟨Nat.le_of_ble_eq_true rfl, Nat.le_of_ble_eq_true rfl⟩) (k_preSX hP hK hN hD hX hS hA) rfl rfl hl.1 rfl (lv_room (Nat.le_of_ble_eq_true rfl)) d_SM_node_3 ⟨Nat.le_of_ble_eq_true rfl, Nat.le_of_ble_eq_true rfl⟩) hD hS hA hp htab hlk (by decide) (by decide) (fun hn H locs hP hD hS => ?_)
  replace h := h0 hn
  refine lv_aload_n hx hb d_SM_node_6 rfl (lv_at hl 0 rfl) ?_
  refine lv_iconst (v := 1) hx hb d_SM_node_7 (by decide) ?_
  refine lv_iload_n hx hb d_SM_node_8 rfl (lv_at hl 1 rfl) ?_
  refine lv_iconst (v := 0) hx hb d_SM_node_9 (by decide) ?_
  obtain ⟨n8, v5, σ6, hc7, h0, hp⟩ := k_callx_e h
  refine k_xcalli (vx_runV (As := [.int 1, .int x1, .int 0]) (rest := []) ⟨hx, hb, hml, hown, hts⟩ (K_SM_newTree l hst D a c9 H.size hc7) (cwV 3 hts (k_gV q_301 q_303 s_1 q_1 q_304) rfl rfl rfl h_SM_newTree ⟨Nat.le_of_ble_eq_true rfl, Nat.le_of_ble_eq_true rfl⟩) (k_preVX (ci := 0) (q0 := 0) rfl kw_0 hP hK hN hD hX hS hA) rfl rfl hl.1 rfl (lv_room (Nat.le_of_ble_eq_true rfl)) d_SM_node_10 ⟨Nat.le_of_ble_eq_true rfl, Nat.le_of_ble_eq_true rfl⟩) hD hS hA hp htab hlk (by decide) (by decide) (fun hn H locs hP hD hS => ?_)
  replace h := h0 hn
  cases h
  refine W.widen (k := 2) (n := 12) (by decide) (by decide) ?_
  exact k_iretX hx hb hr hlk hP hS d_SM_node_13
theorem K_SM_node (l : Launch) (hst : l.stackTraces = false) (D : va_G) (a : Nat → Nat) (c9 : Nat → ClassId) (sz : Nat) {σ : kS} {x1 : Int32} {res : kR} (h : M_SM_node σ x1 = some res) : vx_Met l y_SM_node (Cond.code y_SM_node c_SM_node 2 (some .int) :: kG) rm_SM_node (k_PcX D a c9 sz σ [.ref (a 0), .int x1]) (k_QiX D a c9 res (k_A a c9 σ sz)) (k_XC D a c9 res (k_A a c9 σ sz)) 2 12 (k_A a c9 σ sz) :=
  k_metX (Qf := k_QiX D a c9 res) (Xf := k_XC D a c9 res) hst (by decide) (Nat.le_of_ble_eq_true rfl) (fun p e s m args below meth c A ls C0 hP hD hS hl => B_SM_node_0 C0 σ x1 s.heap [] ls hP hD hS hl h)
def rm_SM_more : Room := { frames := 26, cells := 3, slots := 18, locals := 715 }
def M_SM_more (σ : kS) (x1 x2 : Int32) : Option kR := k_callx (M_SM_requireTree σ x1) fun _ σ2 => k_callx (M_SM_requireTree σ2 x2) fun _ σ6 => k_call (M_F_mayTake σ6 x1 x2) fun v9 σ10 => if v9 = 0 then (some ((1, 0), σ10)) else (k_call (M_F_addPart σ10 x1 x2) fun v13 σ14 => k_z (v13) (some ((0, v13), σ14)))
set_option maxHeartbeats 4000000 in
set_option maxRecDepth 100000 in
theorem B_SM_more_0 {p : Program} {l : Launch} {e : Env} {s : State} {m : MethodId} {args : Array Value} {below : List Frame} {meth : Method} {c : Code} {D : va_G} {a : Nat → Nat} {c9 : Nat → ClassId} {A : Nat → Prop} {res : kR} (C0 : k_Cy D c9 l p s m args meth c R_SM c_SM_more 3 (some .boolean) A) (σ : kS) (x1 x2 : Int32) (H : Heap) (locs : List Loc) (ls : Array Slot) (hP : va_P D kcl (kw a c9 σ) H) (hD : va_D A (kw a c9 σ)) (hS : va_S A s.heap H locs) (hl : lv_has ls 3 [(0, .ref (a 0)), (1, .int x1), (2, .int x2)]) (h : M_SM_more σ x1 x2 = some res) : W p l e rm_SM_more s m args below meth c H locs 0 0 (vx_MQ below (k_QiX D a c9 res A) (k_XC D a c9 res A) args s 3 18 A) (F0 m 0 ls []) := by
  obtain ⟨⟨hx, hb, hml, hown, hts, hr, hlk, hK, hN, hA⟩, hst, htab, hX⟩ := id C0
  unfold M_SM_more at h
  refine lv_aload_n hx hb d_SM_more_0 rfl (lv_at hl 0 rfl) ?_
  refine lv_iload_n hx hb d_SM_more_1 rfl (lv_at hl 1 rfl) ?_
  obtain ⟨n4, v1, σ2, hc3, h0, hp⟩ := k_callx_e h
  refine k_xcallv (vx_runV (As := [.int x1]) (rest := []) ⟨hx, hb, hml, hown, hts⟩ (K_SM_requireTree l hst D a c9 H.size hc3) (cwV 1 hts (k_gV q_344 q_346 s_2 q_1 q_347) rfl rfl rfl h_SM_requireTree ⟨Nat.le_of_ble_eq_true rfl, Nat.le_of_ble_eq_true rfl⟩) (k_preVX (ci := 0) (q0 := 0) rfl kw_0 hP hK hN hD hX hS hA) rfl rfl hl.1 rfl (lv_room (Nat.le_of_ble_eq_true rfl)) d_SM_more_2 ⟨Nat.le_of_ble_eq_true rfl, Nat.le_of_ble_eq_true rfl⟩) hD hS hA hp htab hlk (by decide) (by decide) (fun hn H locs hP hD hS => ?_)
  replace h := h0 hn
  refine lv_aload_n hx hb d_SM_more_5 rfl (lv_at hl 0 rfl) ?_
  refine lv_iload_n hx hb d_SM_more_6 rfl (lv_at hl 2 rfl) ?_
  obtain ⟨n8, v5, σ6, hc7, h0, hp⟩ := k_callx_e h
  refine k_xcallv (vx_runV (As := [.int x2]) (rest := []) ⟨hx, hb, hml, hown, hts⟩ (K_SM_requireTree l hst D a c9 H.size hc7) (cwV 1 hts (k_gV q_344 q_346 s_2 q_1 q_347) rfl rfl rfl h_SM_requireTree ⟨Nat.le_of_ble_eq_true rfl, Nat.le_of_ble_eq_true rfl⟩) (k_preVX (ci := 0) (q0 := 0) rfl kw_0 hP hK hN hD hX hS hA) rfl rfl hl.1 rfl (lv_room (Nat.le_of_ble_eq_true rfl)) d_SM_more_7 ⟨Nat.le_of_ble_eq_true rfl, Nat.le_of_ble_eq_true rfl⟩) hD hS hA hp htab hlk (by decide) (by decide) (fun hn H locs hP hD hS => ?_)
  replace h := h0 hn
  refine lv_aload_n hx hb d_SM_more_10 rfl (lv_at hl 0 rfl) ?_
  refine va_get (ci := 0) (C := R_SM) (T := T_SM) (N := 6) hx hb hts in_SM hown hK hP 0 kw_0 rfl 0 (by decide) (hts _ q_174) (fun _ h9 => h9) rfl d_SM_more_11 ?_
  refine lv_iload_n hx hb d_SM_more_14 rfl (lv_at hl 1 rfl) ?_
  refine lv_iload_n hx hb d_SM_more_15 rfl (lv_at hl 2 rfl) ?_
  obtain ⟨v9, σ10, hc11, h⟩ := k_call_e h
  refine k_calli (va_runV (As := [.int x1, .int x2]) (rest := []) ⟨hx, hb, hml, hown, hts⟩ (K_F_mayTake l D a c9 H.size hc11) (cwV 2 hts (k_gV q_368 q_369 q_370 q_2 q_371) rfl rfl rfl h_F_mayTake ⟨Nat.le_of_ble_eq_true rfl, Nat.le_of_ble_eq_true rfl⟩) (k_preV (ci := 2) (q0 := 1) rfl kw_1 hP hK hN hD) rfl rfl hl.1 rfl (lv_room (Nat.le_of_ble_eq_true rfl)) d_SM_more_16 ⟨Nat.le_of_ble_eq_true rfl, Nat.le_of_ble_eq_true rfl⟩) hD hS hA (fun H locs hP hD hS => ?_)
  refine lv_if_ne (tgt := 32) hx hb d_SM_more_19 (by decide) (fun cn12 => ?_) (fun cn12 => ?_)
  · replace h := (if_neg cn12).symm.trans h
    refine lv_aload_n hx hb d_SM_more_32 rfl (lv_at hl 0 rfl) ?_
    refine va_get (ci := 0) (C := R_SM) (T := T_SM) (N := 6) hx hb hts in_SM hown hK hP 0 kw_0 rfl 0 (by decide) (hts _ q_174) (fun _ h9 => h9) rfl d_SM_more_33 ?_
    refine lv_iload_n hx hb d_SM_more_36 rfl (lv_at hl 1 rfl) ?_
    refine lv_iload_n hx hb d_SM_more_37 rfl (lv_at hl 2 rfl) ?_
    obtain ⟨v13, σ14, hc15, h⟩ := k_call_e h
    refine k_calli (va_runV (As := [.int x1, .int x2]) (rest := []) ⟨hx, hb, hml, hown, hts⟩ (K_F_addPart l D a c9 H.size hc15) (cwV 2 hts (k_gV q_373 q_374 q_375 q_2 q_376) rfl rfl rfl h_F_addPart ⟨Nat.le_of_ble_eq_true rfl, Nat.le_of_ble_eq_true rfl⟩) (k_preV (ci := 2) (q0 := 1) rfl kw_1 hP hK hN hD) rfl rfl hl.1 rfl (lv_room (Nat.le_of_ble_eq_true rfl)) d_SM_more_38 ⟨Nat.le_of_ble_eq_true rfl, Nat.le_of_ble_eq_true rfl⟩) hD hS hA (fun H locs hP hD hS => ?_)
    obtain ⟨hz, h⟩ := k_z_e h
    cases h
    refine W.widen (k := 3) (n := 18) (by decide) (by decide) ?_
    exact k_zretX hz hx hb hr hlk hP hS d_SM_more_41
  · replace h := (if_pos cn12).symm.trans h
    cases h
    obtain ⟨sa, hsa⟩ := hX.2.2.2.2 (57, "the node can't take this part") (by decide)
    exact vx_throwS (cls := "java/lang/IllegalArgumentException") (text := "the node can't take this part") (names := kNm) hx hb hst hown (by decide) (by decide) (hts _ q_233) (hts _ q_11) hsa (k_hat hts hX k_x59a k_x59b) k_x59c hX.1 hX.2.1 hS (hl.1.trans hml.symm) d_SM_more_22 d_SM_more_25 d_SM_more_26 d_SM_more_28 d_SM_more_31 (fun x hx => (htab x hx).elim) (by decide) (by decide) (by decide) (by decide) hlk (k_thrown (by decide) rfl hP hS) hS.2.2 (by decide) (by decide)
theorem K_SM_more (l : Launch) (hst : l.stackTraces = false) (D : va_G) (a : Nat → Nat) (c9 : Nat → ClassId) (sz : Nat) {σ : kS} {x1 x2 : Int32} {res : kR} (h : M_SM_more σ x1 x2 = some res) : vx_Met l y_SM_more (Cond.code y_SM_more c_SM_more 3 (some .boolean) :: kG) rm_SM_more (k_PcX D a c9 sz σ [.ref (a 0), .int x1, .int x2]) (k_QiX D a c9 res (k_A a c9 σ sz)) (k_XC D a c9 res (k_A a c9 σ sz)) 3 18 (k_A a c9 σ sz) :=
  k_metX (Qf := k_QiX D a c9 res) (Xf := k_XC D a c9 res) hst (by decide) (Nat.le_of_ble_eq_true rfl) (fun p e s m args below meth c A ls C0 hP hD hS hl => B_SM_more_0 C0 σ x1 x2 s.heap [] ls hP hD hS hl h)
def rm_SM_hole : Room := { frames := 7, cells := 3, slots := 18, locals := 113 }
def M_SM_hole (σ : kS) (x1 x2 : Int32) : Option kR := k_callx (M_SM_requireBelow σ x1 8) fun _ σ2 => k_callx (M_SM_requireBelow σ2 x2 4) fun _ σ6 => k_callx (M_SM_newTree σ6 2 x1 x2) fun v9 σ10 => some ((0, v9), σ10)
set_option maxHeartbeats 4000000 in
set_option maxRecDepth 100000 in
theorem B_SM_hole_0 {p : Program} {l : Launch} {e : Env} {s : State} {m : MethodId} {args : Array Value} {below : List Frame} {meth : Method} {c : Code} {D : va_G} {a : Nat → Nat} {c9 : Nat → ClassId} {A : Nat → Prop} {res : kR} (C0 : k_Cy D c9 l p s m args meth c R_SM c_SM_hole 3 (some .int) A) (σ : kS) (x1 x2 : Int32) (H : Heap) (locs : List Loc) (ls : Array Slot) (hP : va_P D kcl (kw a c9 σ) H) (hD : va_D A (kw a c9 σ)) (hS : va_S A s.heap H locs) (hl : lv_has ls 3 [(0, .ref (a 0)), (1, .int x1), (2, .int x2)]) (h : M_SM_hole σ x1 x2 = some res) : W p l e rm_SM_hole s m args below meth c H locs 0 0 (vx_MQ below (k_QiX D a c9 res A) (k_XC D a c9 res A) args s 3 18 A) (F0 m 0 ls []) := by
  obtain ⟨⟨hx, hb, hml, hown, hts, hr, hlk, hK, hN, hA⟩, hst, htab, hX⟩ := id C0
  unfold M_SM_hole at h
  refine lv_iload_n hx hb d_SM_hole_0 rfl (lv_at hl 1 rfl) ?_
  refine lv_bipush (v := 8) hx hb d_SM_hole_1 (by decide) ?_
  obtain ⟨n4, v1, σ2, hc3, h0, hp⟩ := k_callx_e h
  refine k_xcallv (vx_runS (As := [.int x1, .int 8]) (rest := []) ⟨hx, hb, hml, hown, hts⟩ (K_SM_requireBelow l hst D a c9 H.size hc3) (va_cwS 2 hts (k_gS q_230 q_231 q_1 q_232) rfl rfl rfl h_SM_requireBelow.2 ⟨Nat.le_of_ble_eq_true rfl, Nat.le_of_ble_eq_true rfl⟩) (k_preSX hP hK hN hD hX hS hA) rfl rfl hl.1 rfl (lv_room (Nat.le_of_ble_eq_true rfl)) d_SM_hole_3 ⟨Nat.le_of_ble_eq_true rfl, Nat.le_of_ble_eq_true rfl⟩) hD hS hA hp htab hlk (by decide) (by decide) (fun hn H locs hP hD hS => ?_)
  replace h := h0 hn
  refine lv_iload_n hx hb d_SM_hole_6 rfl (lv_at hl 2 rfl) ?_
  refine lv_iconst (v := 4) hx hb d_SM_hole_7 (by decide) ?_
  obtain ⟨n8, v5, σ6, hc7, h0, hp⟩ := k_callx_e h
  refine k_xcallv (vx_runS (As := [.int x2, .int 4]) (rest := []) ⟨hx, hb, hml, hown, hts⟩ (K_SM_requireBelow l hst D a c9 H.size hc7) (va_cwS 2 hts (k_gS q_230 q_231 q_1 q_232) rfl rfl rfl h_SM_requireBelow.2 ⟨Nat.le_of_ble_eq_true rfl, Nat.le_of_ble_eq_true rfl⟩) (k_preSX hP hK hN hD hX hS hA) rfl rfl hl.1 rfl (lv_room (Nat.le_of_ble_eq_true rfl)) d_SM_hole_8 ⟨Nat.le_of_ble_eq_true rfl, Nat.le_of_ble_eq_true rfl⟩) hD hS hA hp htab hlk (by decide) (by decide) (fun hn H locs hP hD hS => ?_)
  replace h := h0 hn
  refine lv_aload_n hx hb d_SM_hole_11 rfl (lv_at hl 0 rfl) ?_
  refine lv_iconst (v := 2) hx hb d_SM_hole_12 (by decide) ?_
  refine lv_iload_n hx hb d_SM_hole_13 rfl (lv_at hl 1 rfl) ?_
  refine lv_iload_n hx hb d_SM_hole_14 rfl (lv_at hl 2 rfl) ?_
  obtain ⟨n12, v9, σ10, hc11, h0, hp⟩ := k_callx_e h
  refine k_xcalli (vx_runV (As := [.int 2, .int x1, .int x2]) (rest := []) ⟨hx, hb, hml, hown, hts⟩ (K_SM_newTree l hst D a c9 H.size hc11) (cwV 3 hts (k_gV q_301 q_303 s_1 q_1 q_304) rfl rfl rfl h_SM_newTree ⟨Nat.le_of_ble_eq_true rfl, Nat.le_of_ble_eq_true rfl⟩) (k_preVX (ci := 0) (q0 := 0) rfl kw_0 hP hK hN hD hX hS hA) rfl rfl hl.1 rfl (lv_room (Nat.le_of_ble_eq_true rfl)) d_SM_hole_15 ⟨Nat.le_of_ble_eq_true rfl, Nat.le_of_ble_eq_true rfl⟩) hD hS hA hp htab hlk (by decide) (by decide) (fun hn H locs hP hD hS => ?_)
  replace h := h0 hn
  cases h
  refine W.widen (k := 3) (n := 18) (by decide) (by decide) ?_
  exact k_iretX hx hb hr hlk hP hS d_SM_hole_18
theorem K_SM_hole (l : Launch) (hst : l.stackTraces = false) (D : va_G) (a : Nat → Nat) (c9 : Nat → ClassId) (sz : Nat) {σ : kS} {x1 x2 : Int32} {res : kR} (h : M_SM_hole σ x1 x2 = some res) : vx_Met l y_SM_hole (Cond.code y_SM_hole c_SM_hole 3 (some .int) :: kG) rm_SM_hole (k_PcX D a c9 sz σ [.ref (a 0), .int x1, .int x2]) (k_QiX D a c9 res (k_A a c9 σ sz)) (k_XC D a c9 res (k_A a c9 σ sz)) 3 18 (k_A a c9 σ sz) :=
  k_metX (Qf := k_QiX D a c9 res) (Xf := k_XC D a c9 res) hst (by decide) (Nat.le_of_ble_eq_true rfl) (fun p e s m args below meth c A ls C0 hP hD hS hl => B_SM_hole_0 C0 σ x1 x2 s.heap [] ls hP hD hS hl h)
def rm_SM_test : Room := { frames := 7, cells := 2, slots := 12, locals := 111 }
def M_SM_test (σ : kS) (x1 x2 x3 : Int32) : Option kR := k_callx (M_SM_requireTree σ x1) fun _ σ2 => k_call (M_F_isHole σ2 x1) fun v5 σ6 => if v5 = 0 then (some ((1, 0), σ6)) else (k_callx (M_SM_requireBelow σ6 x2 5) fun _ σ10 => k_call (M_F_addTest σ10 x1 x2 x3) fun v13 σ14 => k_z (v13) (some ((0, v13), σ14)))
set_option maxHeartbeats 4000000 in
set_option maxRecDepth 100000 in
theorem B_SM_test_0 {p : Program} {l : Launch} {e : Env} {s : State} {m : MethodId} {args : Array Value} {below : List Frame} {meth : Method} {c : Code} {D : va_G} {a : Nat → Nat} {c9 : Nat → ClassId} {A : Nat → Prop} {res : kR} (C0 : k_Cy D c9 l p s m args meth c R_SM c_SM_test 4 (some .boolean) A) (σ : kS) (x1 x2 x3 : Int32) (H : Heap) (locs : List Loc) (ls : Array Slot) (hP : va_P D kcl (kw a c9 σ) H) (hD : va_D A (kw a c9 σ)) (hS : va_S A s.heap H locs) (hl : lv_has ls 4 [(0, .ref (a 0)), (1, .int x1), (2, .int x2), (3, .int x3)]) (h : M_SM_test σ x1 x2 x3 = some res) : W p l e rm_SM_test s m args below meth c H locs 0 0 (vx_MQ below (k_QiX D a c9 res A) (k_XC D a c9 res A) args s 2 12 A) (F0 m 0 ls []) := by
  obtain ⟨⟨hx, hb, hml, hown, hts, hr, hlk, hK, hN, hA⟩, hst, htab, hX⟩ := id C0
  unfold M_SM_test at h
  refine lv_aload_n hx hb d_SM_test_0 rfl (lv_at hl 0 rfl) ?_
  refine lv_iload_n hx hb d_SM_test_1 rfl (lv_at hl 1 rfl) ?_
  obtain ⟨n4, v1, σ2, hc3, h0, hp⟩ := k_callx_e h
  refine k_xcallv (vx_runV (As := [.int x1]) (rest := []) ⟨hx, hb, hml, hown, hts⟩ (K_SM_requireTree l hst D a c9 H.size hc3) (cwV 1 hts (k_gV q_344 q_346 s_2 q_1 q_347) rfl rfl rfl h_SM_requireTree ⟨Nat.le_of_ble_eq_true rfl, Nat.le_of_ble_eq_true rfl⟩) (k_preVX (ci := 0) (q0 := 0) rfl kw_0 hP hK hN hD hX hS hA) rfl rfl hl.1 rfl (lv_room (Nat.le_of_ble_eq_true rfl)) d_SM_test_2 ⟨Nat.le_of_ble_eq_true rfl, Nat.le_of_ble_eq_true rfl⟩) hD hS hA hp htab hlk (by decide) (by decide) (fun hn H locs hP hD hS => ?_)
  replace h := h0 hn
  refine lv_aload_n hx hb d_SM_test_5 rfl (lv_at hl 0 rfl) ?_
  refine va_get (ci := 0) (C := R_SM) (T := T_SM) (N := 6) hx hb hts in_SM hown hK hP 0 kw_0 rfl 0 (by decide) (hts _ q_174) (fun _ h9 => h9) rfl d_SM_test_6 ?_
  refine lv_iload_n hx hb d_SM_test_9 rfl (lv_at hl 1 rfl) ?_
  obtain ⟨v5, σ6, hc7, h⟩ := k_call_e h
  refine k_calli (va_runV (As := [.int x1]) (rest := []) ⟨hx, hb, hml, hown, hts⟩ (K_F_isHole l D a c9 H.size hc7) (cwV 1 hts (k_gV q_413 q_414 q_415 q_2 q_416) rfl rfl rfl h_F_isHole ⟨Nat.le_of_ble_eq_true rfl, Nat.le_of_ble_eq_true rfl⟩) (k_preV (ci := 2) (q0 := 1) rfl kw_1 hP hK hN hD) rfl rfl hl.1 rfl (lv_room (Nat.le_of_ble_eq_true rfl)) d_SM_test_10 ⟨Nat.le_of_ble_eq_true rfl, Nat.le_of_ble_eq_true rfl⟩) hD hS hA (fun H locs hP hD hS => ?_)
  refine lv_if_ne (tgt := 26) hx hb d_SM_test_13 (by decide) (fun cn8 => ?_) (fun cn8 => ?_)
  · replace h := (if_neg cn8).symm.trans h
    refine lv_iload_n hx hb d_SM_test_26 rfl (lv_at hl 2 rfl) ?_
    refine lv_iconst (v := 5) hx hb d_SM_test_27 (by decide) ?_
    obtain ⟨n12, v9, σ10, hc11, h0, hp⟩ := k_callx_e h
    refine k_xcallv (vx_runS (As := [.int x2, .int 5]) (rest := []) ⟨hx, hb, hml, hown, hts⟩ (K_SM_requireBelow l hst D a c9 H.size hc11) (va_cwS 2 hts (k_gS q_230 q_231 q_1 q_232) rfl rfl rfl h_SM_requireBelow.2 ⟨Nat.le_of_ble_eq_true rfl, Nat.le_of_ble_eq_true rfl⟩) (k_preSX hP hK hN hD hX hS hA) rfl rfl hl.1 rfl (lv_room (Nat.le_of_ble_eq_true rfl)) d_SM_test_28 ⟨Nat.le_of_ble_eq_true rfl, Nat.le_of_ble_eq_true rfl⟩) hD hS hA hp htab hlk (by decide) (by decide) (fun hn H locs hP hD hS => ?_)
    replace h := h0 hn
    refine lv_aload_n hx hb d_SM_test_31 rfl (lv_at hl 0 rfl) ?_
    refine va_get (ci := 0) (C := R_SM) (T := T_SM) (N := 6) hx hb hts in_SM hown hK hP 0 kw_0 rfl 0 (by decide) (hts _ q_174) (fun _ h9 => h9) rfl d_SM_test_32 ?_
    refine lv_iload_n hx hb d_SM_test_35 rfl (lv_at hl 1 rfl) ?_
    refine lv_iload_n hx hb d_SM_test_36 rfl (lv_at hl 2 rfl) ?_
    refine lv_iload_n hx hb d_SM_test_37 rfl (lv_at hl 3 rfl) ?_
    obtain ⟨v13, σ14, hc15, h⟩ := k_call_e h
    refine k_calli (va_runV (As := [.int x1, .int x2, .int x3]) (rest := []) ⟨hx, hb, hml, hown, hts⟩ (K_F_addTest l D a c9 H.size hc15) (cwV 3 hts (k_gV q_418 q_419 q_420 q_2 q_421) rfl rfl rfl h_F_addTest ⟨Nat.le_of_ble_eq_true rfl, Nat.le_of_ble_eq_true rfl⟩) (k_preV (ci := 2) (q0 := 1) rfl kw_1 hP hK hN hD) rfl rfl hl.1 rfl (lv_room (Nat.le_of_ble_eq_true rfl)) d_SM_test_38 ⟨Nat.le_of_ble_eq_true rfl, Nat.le_of_ble_eq_true rfl⟩) hD hS hA (fun H locs hP hD hS => ?_)
    obtain ⟨hz, h⟩ := k_z_e h
    cases h
    refine W.widen (k := 2) (n := 12) (by decide) (by decide) ?_
    exact k_zretX hz hx hb hr hlk hP hS d_SM_test_41
  · replace h := (if_pos cn8).symm.trans h
    cases h
    obtain ⟨sa, hsa⟩ := hX.2.2.2.2 (69, "it is no hole") (by decide)
    exact vx_throwS (cls := "java/lang/IllegalArgumentException") (text := "it is no hole") (names := kNm) hx hb hst hown (by decide) (by decide) (hts _ q_233) (hts _ q_11) hsa (k_hat hts hX k_x59a k_x59b) k_x59c hX.1 hX.2.1 hS (hl.1.trans hml.symm) d_SM_test_16 d_SM_test_19 d_SM_test_20 d_SM_test_22 d_SM_test_25 (fun x hx => (htab x hx).elim) (by decide) (by decide) (by decide) (by decide) hlk (k_thrown (by decide) rfl hP hS) hS.2.2 (by decide) (by decide)
theorem K_SM_test (l : Launch) (hst : l.stackTraces = false) (D : va_G) (a : Nat → Nat) (c9 : Nat → ClassId) (sz : Nat) {σ : kS} {x1 x2 x3 : Int32} {res : kR} (h : M_SM_test σ x1 x2 x3 = some res) : vx_Met l y_SM_test (Cond.code y_SM_test c_SM_test 4 (some .boolean) :: kG) rm_SM_test (k_PcX D a c9 sz σ [.ref (a 0), .int x1, .int x2, .int x3]) (k_QiX D a c9 res (k_A a c9 σ sz)) (k_XC D a c9 res (k_A a c9 σ sz)) 2 12 (k_A a c9 σ sz) :=
  k_metX (Qf := k_QiX D a c9 res) (Xf := k_XC D a c9 res) hst (by decide) (Nat.le_of_ble_eq_true rfl) (fun p e s m args below meth c A ls C0 hP hD hS hl => B_SM_test_0 C0 σ x1 x2 x3 s.heap [] ls hP hD hS hl h)
def rm_SM_match : Room := { frames := 28, cells := 4, slots := 24, locals := 762 }
def M_SM_match (σ : kS) (x1 x2 x3 : Int32) : Option kR := k_callx (M_SM_requireTree σ x1) fun _ σ2 => k_callx (M_SM_requirePlain σ2 x2) fun _ σ6 => k_callx (M_SM_requireBelow σ6 x3 401) fun _ σ10 => k_call (M_Se_run σ10 x1 x2 x3) fun _ σ14 => k_call (M_Se_isSpent σ14) fun v16 σ17 => if v16 = 0 then (k_call (M_Se_found σ17) fun v20 σ21 => some ((0, v20), σ21)) else (some ((0, (-1)), σ17))
set_option maxHeartbeats 4000000 in
set_option maxRecDepth 100000 in
theorem B_SM_match_0 {p : Program} {l : Launch} {e : Env} {s : State} {m : MethodId} {args : Array Value} {below : List Frame} {meth : Method} {c : Code} {D : va_G} {a : Nat → Nat} {c9 : Nat → ClassId} {A : Nat → Prop} {res : kR} (C0 : k_Cy D c9 l p s m args meth c R_SM c_SM_match 4 (some .int) A) (σ : kS) (x1 x2 x3 : Int32) (H : Heap) (locs : List Loc) (ls : Array Slot) (hP : va_P D kcl (kw a c9 σ) H) (hD : va_D A (kw a c9 σ)) (hS : va_S A s.heap H locs) (hl : lv_has ls 4 [(0, .ref (a 0)), (1, .int x1), (2, .int x2), (3, .int x3)]) (h : M_SM_match σ x1 x2 x3 = some res) : W p l e rm_SM_match s m args below meth c H locs 0 0 (vx_MQ below (k_QiX D a c9 res A) (k_XC D a c9 res A) args s 4 24 A) (F0 m 0 ls []) := by
  obtain ⟨⟨hx, hb, hml, hown, hts, hr, hlk, hK, hN, hA⟩, hst, htab, hX⟩ := id C0
  unfold M_SM_match at h
  refine lv_aload_n hx hb d_SM_match_0 rfl (lv_at hl 0 rfl) ?_
  refine lv_iload_n hx hb d_SM_match_1 rfl (lv_at hl 1 rfl) ?_
  obtain ⟨n4, v1, σ2, hc3, h0, hp⟩ := k_callx_e h
  refine k_xcallv (vx_runV (As := [.int x1]) (rest := []) ⟨hx, hb, hml, hown, hts⟩ (K_SM_requireTree l hst D a c9 H.size hc3) (cwV 1 hts (k_gV q_344 q_346 s_2 q_1 q_347) rfl rfl rfl h_SM_requireTree ⟨Nat.le_of_ble_eq_true rfl, Nat.le_of_ble_eq_true rfl⟩) (k_preVX (ci := 0) (q0 := 0) rfl kw_0 hP hK hN hD hX hS hA) rfl rfl hl.1 rfl (lv_room (Nat.le_of_ble_eq_true rfl)) d_SM_match_2 ⟨Nat.le_of_ble_eq_true rfl, Nat.le_of_ble_eq_true rfl⟩) hD hS hA hp htab hlk (by decide) (by decide) (fun hn H locs hP hD hS => ?_)
  replace h := h0 hn
  refine lv_aload_n hx hb d_SM_match_5 rfl (lv_at hl 0 rfl) ?_
  refine lv_iload_n hx hb d_SM_match_6 rfl (lv_at hl 2 rfl) ?_
  obtain ⟨n8, v5, σ6, hc7, h0, hp⟩ := k_callx_e h
  refine k_xcallv (vx_runV (As := [.int x2]) (rest := []) ⟨hx, hb, hml, hown, hts⟩ (K_SM_requirePlain l hst D a c9 H.size hc7) (cwV 1 hts (k_gV q_429 q_431 s_4 q_1 q_432) rfl rfl rfl h_SM_requirePlain ⟨Nat.le_of_ble_eq_true rfl, Nat.le_of_ble_eq_true rfl⟩) (k_preVX (ci := 0) (q0 := 0) rfl kw_0 hP hK hN hD hX hS hA) rfl rfl hl.1 rfl (lv_room (Nat.le_of_ble_eq_true rfl)) d_SM_match_7 ⟨Nat.le_of_ble_eq_true rfl, Nat.le_of_ble_eq_true rfl⟩) hD hS hA hp htab hlk (by decide) (by decide) (fun hn H locs hP hD hS => ?_)
  replace h := h0 hn
  refine lv_iload_n hx hb d_SM_match_10 rfl (lv_at hl 3 rfl) ?_
  refine lv_sipush (v := 401) hx hb d_SM_match_11 (by decide) ?_
  obtain ⟨n12, v9, σ10, hc11, h0, hp⟩ := k_callx_e h
  refine k_xcallv (vx_runS (As := [.int x3, .int 401]) (rest := []) ⟨hx, hb, hml, hown, hts⟩ (K_SM_requireBelow l hst D a c9 H.size hc11) (va_cwS 2 hts (k_gS q_230 q_231 q_1 q_232) rfl rfl rfl h_SM_requireBelow.2 ⟨Nat.le_of_ble_eq_true rfl, Nat.le_of_ble_eq_true rfl⟩) (k_preSX hP hK hN hD hX hS hA) rfl rfl hl.1 rfl (lv_room (Nat.le_of_ble_eq_true rfl)) d_SM_match_14 ⟨Nat.le_of_ble_eq_true rfl, Nat.le_of_ble_eq_true rfl⟩) hD hS hA hp htab hlk (by decide) (by decide) (fun hn H locs hP hD hS => ?_)
  replace h := h0 hn
  refine lv_aload_n hx hb d_SM_match_17 rfl (lv_at hl 0 rfl) ?_
  refine va_get (ci := 0) (C := R_SM) (T := T_SM) (N := 6) hx hb hts in_SM hown hK hP 0 kw_0 rfl 1 (by decide) (hts _ q_175) (fun _ h9 => h9) rfl d_SM_match_18 ?_
  refine lv_iload_n hx hb d_SM_match_21 rfl (lv_at hl 1 rfl) ?_
  refine lv_iload_n hx hb d_SM_match_22 rfl (lv_at hl 2 rfl) ?_
  refine lv_iload_n hx hb d_SM_match_23 rfl (lv_at hl 3 rfl) ?_
  obtain ⟨v13, σ14, hc15, h⟩ := k_call_e h
  refine k_callv (va_runV (As := [.int x1, .int x2, .int x3]) (rest := []) ⟨hx, hb, hml, hown, hts⟩ (K_Se_run l D a c9 H.size hc15) (cwV 3 hts (k_gV q_438 q_439 q_440 q_3 q_441) rfl rfl rfl h_Se_run ⟨Nat.le_of_ble_eq_true rfl, Nat.le_of_ble_eq_true rfl⟩) (k_preV (ci := 6) (q0 := 2) rfl kw_2 hP hK hN hD) rfl rfl hl.1 rfl (lv_room (Nat.le_of_ble_eq_true rfl)) d_SM_match_24 ⟨Nat.le_of_ble_eq_true rfl, Nat.le_of_ble_eq_true rfl⟩) hD hS hA (fun H locs hP hD hS => ?_)
  refine lv_aload_n hx hb d_SM_match_27 rfl (lv_at hl 0 rfl) ?_
  refine va_get (ci := 0) (C := R_SM) (T := T_SM) (N := 6) hx hb hts in_SM hown hK hP 0 kw_0 rfl 1 (by decide) (hts _ q_175) (fun _ h9 => h9) rfl d_SM_match_28 ?_
  obtain ⟨v16, σ17, hc18, h⟩ := k_call_e h
  refine k_calli (va_runV (As := []) (rest := []) ⟨hx, hb, hml, hown, hts⟩ (K_Se_isSpent l D a c9 H.size hc18) (cwV 0 hts (k_gV q_605 q_606 q_607 q_3 q_608) rfl rfl rfl h_Se_isSpent ⟨Nat.le_of_ble_eq_true rfl, Nat.le_of_ble_eq_true rfl⟩) (k_preV (ci := 6) (q0 := 2) rfl kw_2 hP hK hN hD) rfl rfl hl.1 rfl (lv_room (Nat.le_of_ble_eq_true rfl)) d_SM_match_31 ⟨Nat.le_of_ble_eq_true rfl, Nat.le_of_ble_eq_true rfl⟩) hD hS hA (fun H locs hP hD hS => ?_)
  refine lv_if_eq (tgt := 41) hx hb d_SM_match_34 (by decide) (fun cn19 => ?_) (fun cn19 => ?_)
  · replace h := (if_pos cn19).symm.trans h
    refine lv_aload_n hx hb d_SM_match_41 rfl (lv_at hl 0 rfl) ?_
    refine va_get (ci := 0) (C := R_SM) (T := T_SM) (N := 6) hx hb hts in_SM hown hK hP 0 kw_0 rfl 1 (by decide) (hts _ q_175) (fun _ h9 => h9) rfl d_SM_match_42 ?_
    obtain ⟨v20, σ21, hc22, h⟩ := k_call_e h
    refine k_calli (va_runV (As := []) (rest := []) ⟨hx, hb, hml, hown, hts⟩ (K_Se_found l D a c9 H.size hc22) (cwV 0 hts (k_gV q_609 q_610 q_611 q_3 q_612) rfl rfl rfl h_Se_found ⟨Nat.le_of_ble_eq_true rfl, Nat.le_of_ble_eq_true rfl⟩) (k_preV (ci := 6) (q0 := 2) rfl kw_2 hP hK hN hD) rfl rfl hl.1 rfl (lv_room (Nat.le_of_ble_eq_true rfl)) d_SM_match_45 ⟨Nat.le_of_ble_eq_true rfl, Nat.le_of_ble_eq_true rfl⟩) hD hS hA (fun H locs hP hD hS => ?_)
    cases h
    refine W.widen (k := 4) (n := 24) (by decide) (by decide) ?_
    exact k_iretX hx hb hr hlk hP hS d_SM_match_48
  · replace h := (if_neg cn19).symm.trans h
    refine lv_iconst (v := (-1)) hx hb d_SM_match_37 (by decide) ?_
    refine lv_goto (tgt := 48) hx hb d_SM_match_38 (by decide) ?_
    cases h
    refine W.widen (k := 4) (n := 24) (by decide) (by decide) ?_
    exact k_iretX hx hb hr hlk hP hS d_SM_match_48
theorem K_SM_match (l : Launch) (hst : l.stackTraces = false) (D : va_G) (a : Nat → Nat) (c9 : Nat → ClassId) (sz : Nat) {σ : kS} {x1 x2 x3 : Int32} {res : kR} (h : M_SM_match σ x1 x2 x3 = some res) : vx_Met l y_SM_match (Cond.code y_SM_match c_SM_match 4 (some .int) :: kG) rm_SM_match (k_PcX D a c9 sz σ [.ref (a 0), .int x1, .int x2, .int x3]) (k_QiX D a c9 res (k_A a c9 σ sz)) (k_XC D a c9 res (k_A a c9 σ sz)) 4 24 (k_A a c9 σ sz) :=
  k_metX (Qf := k_QiX D a c9 res) (Xf := k_XC D a c9 res) hst (by decide) (Nat.le_of_ble_eq_true rfl) (fun p e s m args below meth c A ls C0 hP hD hS hl => B_SM_match_0 C0 σ x1 x2 x3 s.heap [] ls hP hD hS hl h)
def rm_SM_bound : Room := { frames := 7, cells := 2, slots := 12, locals := 111 }
def M_SM_bound (σ : kS) (x1 x2 x3 : Int32) : Option kR := k_callx (M_SM_requireMatch σ x1) fun _ σ2 => k_callx (M_SM_requireBelow σ2 x2 8) fun _ σ6 => k_call (M_Se_matches σ6) fun _ σ10 => k_call (M_Mt_treeOf σ10 x1 x2 x3) fun v12 σ13 => some ((0, v12), σ13)
set_option maxHeartbeats 4000000 in
set_option maxRecDepth 100000 in
theorem B_SM_bound_0 {p : Program} {l : Launch} {e : Env} {s : State} {m : MethodId} {args : Array Value} {below : List Frame} {meth : Method} {c : Code} {D : va_G} {a : Nat → Nat} {c9 : Nat → ClassId} {A : Nat → Prop} {res : kR} (C0 : k_Cy D c9 l p s m args meth c R_SM c_SM_bound 4 (some .int) A) (σ : kS) (x1 x2 x3 : Int32) (H : Heap) (locs : List Loc) (ls : Array Slot) (hP : va_P D kcl (kw a c9 σ) H) (hD : va_D A (kw a c9 σ)) (hS : va_S A s.heap H locs) (hl : lv_has ls 4 [(0, .ref (a 0)), (1, .int x1), (2, .int x2), (3, .int x3)]) (h : M_SM_bound σ x1 x2 x3 = some res) : W p l e rm_SM_bound s m args below meth c H locs 0 0 (vx_MQ below (k_QiX D a c9 res A) (k_XC D a c9 res A) args s 2 12 A) (F0 m 0 ls []) := by
  obtain ⟨⟨hx, hb, hml, hown, hts, hr, hlk, hK, hN, hA⟩, hst, htab, hX⟩ := id C0
  unfold M_SM_bound at h
  refine lv_aload_n hx hb d_SM_bound_0 rfl (lv_at hl 0 rfl) ?_
  refine lv_iload_n hx hb d_SM_bound_1 rfl (lv_at hl 1 rfl) ?_
  obtain ⟨n4, v1, σ2, hc3, h0, hp⟩ := k_callx_e h
  refine k_xcallv (vx_runV (As := [.int x1]) (rest := []) ⟨hx, hb, hml, hown, hts⟩ (K_SM_requireMatch l hst D a c9 H.size hc3) (cwV 1 hts (k_gV q_620 q_622 s_15 q_1 q_623) rfl rfl rfl h_SM_requireMatch ⟨Nat.le_of_ble_eq_true rfl, Nat.le_of_ble_eq_true rfl⟩) (k_preVX (ci := 0) (q0 := 0) rfl kw_0 hP hK hN hD hX hS hA) rfl rfl hl.1 rfl (lv_room (Nat.le_of_ble_eq_true rfl)) d_SM_bound_2 ⟨Nat.le_of_ble_eq_true rfl, Nat.le_of_ble_eq_true rfl⟩) hD hS hA hp htab hlk (by decide) (by decide) (fun hn H locs hP hD hS => ?_)
  replace h := h0 hn
  refine lv_iload_n hx hb d_SM_bound_5 rfl (lv_at hl 2 rfl) ?_
  refine lv_bipush (v := 8) hx hb d_SM_bound_6 (by decide) ?_
  obtain ⟨n8, v5, σ6, hc7, h0, hp⟩ := k_callx_e h
  refine k_xcallv (vx_runS (As := [.int x2, .int 8]) (rest := []) ⟨hx, hb, hml, hown, hts⟩ (K_SM_requireBelow l hst D a c9 H.size hc7) (va_cwS 2 hts (k_gS q_230 q_231 q_1 q_232) rfl rfl rfl h_SM_requireBelow.2 ⟨Nat.le_of_ble_eq_true rfl, Nat.le_of_ble_eq_true rfl⟩) (k_preSX hP hK hN hD hX hS hA) rfl rfl hl.1 rfl (lv_room (Nat.le_of_ble_eq_true rfl)) d_SM_bound_8 ⟨Nat.le_of_ble_eq_true rfl, Nat.le_of_ble_eq_true rfl⟩) hD hS hA hp htab hlk (by decide) (by decide) (fun hn H locs hP hD hS => ?_)
  replace h := h0 hn
  refine lv_aload_n hx hb d_SM_bound_11 rfl (lv_at hl 0 rfl) ?_
  refine va_get (ci := 0) (C := R_SM) (T := T_SM) (N := 6) hx hb hts in_SM hown hK hP 0 kw_0 rfl 1 (by decide) (hts _ q_175) (fun _ h9 => h9) rfl d_SM_bound_12 ?_
  obtain ⟨v9, σ10, hc11, h⟩ := k_call_e h
  refine k_callr (va_runV (As := []) (rest := []) ⟨hx, hb, hml, hown, hts⟩ (K_Se_matches l D a c9 H.size hc11) (cwV 0 hts (k_gV q_213 q_214 q_215 q_3 q_216) rfl rfl rfl h_Se_matches ⟨Nat.le_of_ble_eq_true rfl, Nat.le_of_ble_eq_true rfl⟩) (k_preV (ci := 6) (q0 := 2) rfl kw_2 hP hK hN hD) rfl rfl hl.1 rfl (lv_room (Nat.le_of_ble_eq_true rfl)) d_SM_bound_15 ⟨Nat.le_of_ble_eq_true rfl, Nat.le_of_ble_eq_true rfl⟩) hD hS hA (fun H locs hP hD hS => ?_)
  refine lv_iload_n hx hb d_SM_bound_18 rfl (lv_at hl 1 rfl) ?_
  refine lv_iload_n hx hb d_SM_bound_19 rfl (lv_at hl 2 rfl) ?_
  refine lv_iload_n hx hb d_SM_bound_20 rfl (lv_at hl 3 rfl) ?_
  obtain ⟨v12, σ13, hc14, h⟩ := k_call_e h
  refine k_calli (va_runV (As := [.int x1, .int x2, .int x3]) (rest := []) ⟨hx, hb, hml, hown, hts⟩ (K_Mt_treeOf l D a c9 H.size hc14) (cwV 3 hts (k_gV q_625 q_626 q_627 q_6 q_628) rfl rfl rfl h_Mt_treeOf ⟨Nat.le_of_ble_eq_true rfl, Nat.le_of_ble_eq_true rfl⟩) (k_preV (ci := 3) (q0 := 5) rfl kw_5 hP hK hN hD) rfl rfl hl.1 rfl (lv_room (Nat.le_of_ble_eq_true rfl)) d_SM_bound_21 ⟨Nat.le_of_ble_eq_true rfl, Nat.le_of_ble_eq_true rfl⟩) hD hS hA (fun H locs hP hD hS => ?_)
  cases h
  refine W.widen (k := 2) (n := 12) (by decide) (by decide) ?_
  exact k_iretX hx hb hr hlk hP hS d_SM_bound_24
theorem K_SM_bound (l : Launch) (hst : l.stackTraces = false) (D : va_G) (a : Nat → Nat) (c9 : Nat → ClassId) (sz : Nat) {σ : kS} {x1 x2 x3 : Int32} {res : kR} (h : M_SM_bound σ x1 x2 x3 = some res) : vx_Met l y_SM_bound (Cond.code y_SM_bound c_SM_bound 4 (some .int) :: kG) rm_SM_bound (k_PcX D a c9 sz σ [.ref (a 0), .int x1, .int x2, .int x3]) (k_QiX D a c9 res (k_A a c9 σ sz)) (k_XC D a c9 res (k_A a c9 σ sz)) 2 12 (k_A a c9 σ sz) :=
  k_metX (Qf := k_QiX D a c9 res) (Xf := k_XC D a c9 res) hst (by decide) (Nat.le_of_ble_eq_true rfl) (fun p e s m args below meth c A ls C0 hP hD hS hl => B_SM_bound_0 C0 σ x1 x2 x3 s.heap [] ls hP hD hS hl h)
def rm_SM_many : Room := { frames := 7, cells := 2, slots := 12, locals := 111 }
def M_SM_many (σ : kS) (x1 x2 : Int32) : Option kR := k_callx (M_SM_requireMatch σ x1) fun _ σ2 => k_callx (M_SM_requireBelow σ2 x2 8) fun _ σ6 => k_call (M_Se_matches σ6) fun _ σ10 => k_call (M_Mt_lengthOf σ10 x1 x2) fun v12 σ13 => some ((0, v12), σ13)
set_option maxHeartbeats 4000000 in
set_option maxRecDepth 100000 in
theorem B_SM_many_0 {p : Program} {l : Launch} {e : Env} {s : State} {m : MethodId} {args : Array Value} {below : List Frame} {meth : Method} {c : Code} {D : va_G} {a : Nat → Nat} {c9 : Nat → ClassId} {A : Nat → Prop} {res : kR} (C0 : k_Cy D c9 l p s m args meth c R_SM c_SM_many 3 (some .int) A) (σ : kS) (x1 x2 : Int32) (H : Heap) (locs : List Loc) (ls : Array Slot) (hP : va_P D kcl (kw a c9 σ) H) (hD : va_D A (kw a c9 σ)) (hS : va_S A s.heap H locs) (hl : lv_has ls 3 [(0, .ref (a 0)), (1, .int x1), (2, .int x2)]) (h : M_SM_many σ x1 x2 = some res) : W p l e rm_SM_many s m args below meth c H locs 0 0 (vx_MQ below (k_QiX D a c9 res A) (k_XC D a c9 res A) args s 2 12 A) (F0 m 0 ls []) := by
  obtain ⟨⟨hx, hb, hml, hown, hts, hr, hlk, hK, hN, hA⟩, hst, htab, hX⟩ := id C0
  unfold M_SM_many at h
  refine lv_aload_n hx hb d_SM_many_0 rfl (lv_at hl 0 rfl) ?_
  refine lv_iload_n hx hb d_SM_many_1 rfl (lv_at hl 1 rfl) ?_
  obtain ⟨n4, v1, σ2, hc3, h0, hp⟩ := k_callx_e h
  refine k_xcallv (vx_runV (As := [.int x1]) (rest := []) ⟨hx, hb, hml, hown, hts⟩ (K_SM_requireMatch l hst D a c9 H.size hc3) (cwV 1 hts (k_gV q_620 q_622 s_15 q_1 q_623) rfl rfl rfl h_SM_requireMatch ⟨Nat.le_of_ble_eq_true rfl, Nat.le_of_ble_eq_true rfl⟩) (k_preVX (ci := 0) (q0 := 0) rfl kw_0 hP hK hN hD hX hS hA) rfl rfl hl.1 rfl (lv_room (Nat.le_of_ble_eq_true rfl)) d_SM_many_2 ⟨Nat.le_of_ble_eq_true rfl, Nat.le_of_ble_eq_true rfl⟩) hD hS hA hp htab hlk (by decide) (by decide) (fun hn H locs hP hD hS => ?_)
  replace h := h0 hn
  refine lv_iload_n hx hb d_SM_many_5 rfl (lv_at hl 2 rfl) ?_
  refine lv_bipush (v := 8) hx hb d_SM_many_6 (by decide) ?_
  obtain ⟨n8, v5, σ6, hc7, h0, hp⟩ := k_callx_e h
  refine k_xcallv (vx_runS (As := [.int x2, .int 8]) (rest := []) ⟨hx, hb, hml, hown, hts⟩ (K_SM_requireBelow l hst D a c9 H.size hc7) (va_cwS 2 hts (k_gS q_230 q_231 q_1 q_232) rfl rfl rfl h_SM_requireBelow.2 ⟨Nat.le_of_ble_eq_true rfl, Nat.le_of_ble_eq_true rfl⟩) (k_preSX hP hK hN hD hX hS hA) rfl rfl hl.1 rfl (lv_room (Nat.le_of_ble_eq_true rfl)) d_SM_many_8 ⟨Nat.le_of_ble_eq_true rfl, Nat.le_of_ble_eq_true rfl⟩) hD hS hA hp htab hlk (by decide) (by decide) (fun hn H locs hP hD hS => ?_)
  replace h := h0 hn
  refine lv_aload_n hx hb d_SM_many_11 rfl (lv_at hl 0 rfl) ?_
  refine va_get (ci := 0) (C := R_SM) (T := T_SM) (N := 6) hx hb hts in_SM hown hK hP 0 kw_0 rfl 1 (by decide) (hts _ q_175) (fun _ h9 => h9) rfl d_SM_many_12 ?_
  obtain ⟨v9, σ10, hc11, h⟩ := k_call_e h
  refine k_callr (va_runV (As := []) (rest := []) ⟨hx, hb, hml, hown, hts⟩ (K_Se_matches l D a c9 H.size hc11) (cwV 0 hts (k_gV q_213 q_214 q_215 q_3 q_216) rfl rfl rfl h_Se_matches ⟨Nat.le_of_ble_eq_true rfl, Nat.le_of_ble_eq_true rfl⟩) (k_preV (ci := 6) (q0 := 2) rfl kw_2 hP hK hN hD) rfl rfl hl.1 rfl (lv_room (Nat.le_of_ble_eq_true rfl)) d_SM_many_15 ⟨Nat.le_of_ble_eq_true rfl, Nat.le_of_ble_eq_true rfl⟩) hD hS hA (fun H locs hP hD hS => ?_)
  refine lv_iload_n hx hb d_SM_many_18 rfl (lv_at hl 1 rfl) ?_
  refine lv_iload_n hx hb d_SM_many_19 rfl (lv_at hl 2 rfl) ?_
  obtain ⟨v12, σ13, hc14, h⟩ := k_call_e h
  refine k_calli (va_runV (As := [.int x1, .int x2]) (rest := []) ⟨hx, hb, hml, hown, hts⟩ (K_Mt_lengthOf l D a c9 H.size hc14) (cwV 2 hts (k_gV q_640 q_630 q_631 q_6 q_632) rfl rfl rfl h_Mt_lengthOf ⟨Nat.le_of_ble_eq_true rfl, Nat.le_of_ble_eq_true rfl⟩) (k_preV (ci := 3) (q0 := 5) rfl kw_5 hP hK hN hD) rfl rfl hl.1 rfl (lv_room (Nat.le_of_ble_eq_true rfl)) d_SM_many_20 ⟨Nat.le_of_ble_eq_true rfl, Nat.le_of_ble_eq_true rfl⟩) hD hS hA (fun H locs hP hD hS => ?_)
  cases h
  refine W.widen (k := 2) (n := 12) (by decide) (by decide) ?_
  exact k_iretX hx hb hr hlk hP hS d_SM_many_23
theorem K_SM_many (l : Launch) (hst : l.stackTraces = false) (D : va_G) (a : Nat → Nat) (c9 : Nat → ClassId) (sz : Nat) {σ : kS} {x1 x2 : Int32} {res : kR} (h : M_SM_many σ x1 x2 = some res) : vx_Met l y_SM_many (Cond.code y_SM_many c_SM_many 3 (some .int) :: kG) rm_SM_many (k_PcX D a c9 sz σ [.ref (a 0), .int x1, .int x2]) (k_QiX D a c9 res (k_A a c9 σ sz)) (k_XC D a c9 res (k_A a c9 σ sz)) 2 12 (k_A a c9 σ sz) :=
  k_metX (Qf := k_QiX D a c9 res) (Xf := k_XC D a c9 res) hst (by decide) (Nat.le_of_ble_eq_true rfl) (fun p e s m args below meth c A ls C0 hP hD hS hl => B_SM_many_0 C0 σ x1 x2 s.heap [] ls hP hD hS hl h)
def rm_SM_rule : Room := { frames := 7, cells := 2, slots := 12, locals := 111 }
def M_SM_rule (σ : kS) (x1 : Int32) : Option kR := k_callx (M_SM_requireTree σ x1) fun _ σ2 => if σ2.1 0 < 30 then (k_call (M_F_close σ2 x1) fun _ σ7 => k_st σ7 0 30 (σ7.1 0) (x1) fun σ9 => k_set σ9 0 ((σ9.1 0 + 1)) fun σ10 => some ((0, (σ10.1 0 - 1)), σ10)) else (some ((2, 0), σ2))
set_option maxHeartbeats 4000000 in
set_option maxRecDepth 100000 in
theorem B_SM_rule_0 {p : Program} {l : Launch} {e : Env} {s : State} {m : MethodId} {args : Array Value} {below : List Frame} {meth : Method} {c : Code} {D : va_G} {a : Nat → Nat} {c9 : Nat → ClassId} {A : Nat → Prop} {res : kR} (C0 : k_Cy D c9 l p s m args meth c R_SM c_SM_rule 2 (some .int) A) (σ : kS) (x1 : Int32) (H : Heap) (locs : List Loc) (ls : Array Slot) (hP : va_P D kcl (kw a c9 σ) H) (hD : va_D A (kw a c9 σ)) (hS : va_S A s.heap H locs) (hl : lv_has ls 2 [(0, .ref (a 0)), (1, .int x1)]) (h : M_SM_rule σ x1 = some res) : W p l e rm_SM_rule s m args below meth c H locs 0 0 (vx_MQ below (k_QiX D a c9 res A) (k_XC D a c9 res A) args s 2 12 A) (F0 m 0 ls []) := by
  obtain ⟨⟨hx, hb, hml, hown, hts, hr, hlk, hK, hN, hA⟩, hst, htab, hX⟩ := id C0
  unfold M_SM_rule at h
  refine lv_aload_n hx hb d_SM_rule_0 rfl (lv_at hl 0 rfl) ?_
  refine lv_iload_n hx hb d_SM_rule_1 rfl (lv_at hl 1 rfl) ?_
  obtain ⟨n4, v1, σ2, hc3, h0, hp⟩ := k_callx_e h
  refine k_xcallv (vx_runV (As := [.int x1]) (rest := []) ⟨hx, hb, hml, hown, hts⟩ (K_SM_requireTree l hst D a c9 H.size hc3) (cwV 1 hts (k_gV q_344 q_346 s_2 q_1 q_347) rfl rfl rfl h_SM_requireTree ⟨Nat.le_of_ble_eq_true rfl, Nat.le_of_ble_eq_true rfl⟩) (k_preVX (ci := 0) (q0 := 0) rfl kw_0 hP hK hN hD hX hS hA) rfl rfl hl.1 rfl (lv_room (Nat.le_of_ble_eq_true rfl)) d_SM_rule_2 ⟨Nat.le_of_ble_eq_true rfl, Nat.le_of_ble_eq_true rfl⟩) hD hS hA hp htab hlk (by decide) (by decide) (fun hn H locs hP hD hS => ?_)
  replace h := h0 hn
  refine lv_aload_n hx hb d_SM_rule_5 rfl (lv_at hl 0 rfl) ?_
  refine va_get (ci := 0) (C := R_SM) (T := T_SM) (N := 6) hx hb hts in_SM hown hK hP 0 kw_0 rfl 3 (by decide) (hts _ q_177) (fun _ h9 => h9) rfl d_SM_rule_6 ?_
  refine lv_bipush (v := 30) hx hb d_SM_rule_9 (by decide) ?_
  refine lv_icmp_lt (tgt := 24) hx hb d_SM_rule_11 (by decide) (fun cn5 => ?_) (fun cn5 => ?_)
  · replace h := (if_pos cn5).symm.trans h
    refine lv_aload_n hx hb d_SM_rule_24 rfl (lv_at hl 0 rfl) ?_
    refine va_get (ci := 0) (C := R_SM) (T := T_SM) (N := 6) hx hb hts in_SM hown hK hP 0 kw_0 rfl 0 (by decide) (hts _ q_174) (fun _ h9 => h9) rfl d_SM_rule_25 ?_
    refine lv_iload_n hx hb d_SM_rule_28 rfl (lv_at hl 1 rfl) ?_
    obtain ⟨v6, σ7, hc8, h⟩ := k_call_e h
    refine k_callv (va_runV (As := [.int x1]) (rest := []) ⟨hx, hb, hml, hown, hts⟩ (K_F_close l D a c9 H.size hc8) (cwV 1 hts (k_gV q_649 q_650 q_651 q_2 q_652) rfl rfl rfl h_F_close ⟨Nat.le_of_ble_eq_true rfl, Nat.le_of_ble_eq_true rfl⟩) (k_preV (ci := 2) (q0 := 1) rfl kw_1 hP hK hN hD) rfl rfl hl.1 rfl (lv_room (Nat.le_of_ble_eq_true rfl)) d_SM_rule_29 ⟨Nat.le_of_ble_eq_true rfl, Nat.le_of_ble_eq_true rfl⟩) hD hS hA (fun H locs hP hD hS => ?_)
    refine lv_aload_n hx hb d_SM_rule_32 rfl (lv_at hl 0 rfl) ?_
    refine va_get (ci := 0) (C := R_SM) (T := T_SM) (N := 6) hx hb hts in_SM hown hK hP 0 kw_0 rfl 2 (by decide) (hts _ q_176) (fun _ h9 => h9) rfl d_SM_rule_33 ?_
    refine lv_aload_n hx hb d_SM_rule_36 rfl (lv_at hl 0 rfl) ?_
    refine va_get (ci := 0) (C := R_SM) (T := T_SM) (N := 6) hx hb hts in_SM hown hK hP 0 kw_0 rfl 3 (by decide) (hts _ q_177) (fun _ h9 => h9) rfl d_SM_rule_37 ?_
    refine lv_iload_n hx hb d_SM_rule_40 rfl (lv_at hl 1 rfl) ?_
    obtain ⟨σ9, eσ9, hiσ9, h⟩ := k_st_e h
    refine va_iast hx hb hK hP hD hS 7 0 kw_7 rfl hiσ9 d_SM_rule_41 (fun H locs hP hD hS => ?_)
    replace hP := k_mvP (kw_s7.trans (congrArg _ eσ9.symm)) hP
    replace hD := k_mvD (kw_s7.trans (congrArg _ eσ9.symm)) hD
    refine lv_aload_n hx hb d_SM_rule_42 rfl (lv_at hl 0 rfl) ?_
    refine lv_dup hx hb d_SM_rule_43 rfl ?_
    refine va_get (ci := 0) (C := R_SM) (T := T_SM) (N := 6) hx hb hts in_SM hown hK hP 0 kw_0 rfl 3 (by decide) (hts _ q_177) (fun _ h9 => h9) rfl d_SM_rule_44 ?_
    refine lv_iconst (v := 1) hx hb d_SM_rule_47 (by decide) ?_
    refine lv_iadd hx hb d_SM_rule_48 ?_
    obtain ⟨σ10, eσ10, h⟩ := k_set_e h
    refine va_put (ci := 0) (v := .int ((σ9.1 0 + 1))) (ty := .int) (C := R_SM) (T := T_SM) (N := 6) hx hb hts in_SM t_SM t_SM_ok n_SM hown hK hP hD hS 0 kw_0 rfl 3 (by decide) (hts _ q_177) (fun _ h9 => h9) rfl (by decide +kernel) rfl rfl (Nat.le_of_ble_eq_true rfl) d_SM_rule_49 (fun H locs hP hD hS => ?_)
    replace hP := k_mvP (kw_f0_3.trans (congrArg _ eσ10.symm)) hP
    replace hD := k_mvD (kw_f0_3.trans (congrArg _ eσ10.symm)) hD
    refine lv_aload_n hx hb d_SM_rule_52 rfl (lv_at hl 0 rfl) ?_
    refine va_get (ci := 0) (C := R_SM) (T := T_SM) (N := 6) hx hb hts in_SM hown hK hP 0 kw_0 rfl 3 (by decide) (hts _ q_177) (fun _ h9 => h9) rfl d_SM_rule_53 ?_
    refine lv_iconst (v := 1) hx hb d_SM_rule_56 (by decide) ?_
    refine lv_isub hx hb d_SM_rule_57 ?_
    cases h
    refine W.widen (k := 2) (n := 12) (by decide) (by decide) ?_
    exact k_iretX hx hb hr hlk hP hS d_SM_rule_58
  · replace h := (if_neg cn5).symm.trans h
    cases h
    obtain ⟨sa, hsa⟩ := hX.2.2.2.2 (111, "no room for a rule") (by decide)
    exact vx_throwS (cls := "java/lang/IllegalStateException") (text := "no room for a rule") (names := kNm) hx hb hst hown (by decide) (by decide) (hts _ q_309) (hts _ q_12) hsa (k_hat hts hX k_x113a k_x113b) k_x113c hX.1 hX.2.1 hS (hl.1.trans hml.symm) d_SM_rule_14 d_SM_rule_17 d_SM_rule_18 d_SM_rule_20 d_SM_rule_23 (fun x hx => (htab x hx).elim) (by decide) (by decide) (by decide) (by decide) hlk (k_thrown (by decide) rfl hP hS) hS.2.2 (by decide) (by decide)
theorem K_SM_rule (l : Launch) (hst : l.stackTraces = false) (D : va_G) (a : Nat → Nat) (c9 : Nat → ClassId) (sz : Nat) {σ : kS} {x1 : Int32} {res : kR} (h : M_SM_rule σ x1 = some res) : vx_Met l y_SM_rule (Cond.code y_SM_rule c_SM_rule 2 (some .int) :: kG) rm_SM_rule (k_PcX D a c9 sz σ [.ref (a 0), .int x1]) (k_QiX D a c9 res (k_A a c9 σ sz)) (k_XC D a c9 res (k_A a c9 σ sz)) 2 12 (k_A a c9 σ sz) :=
  k_metX (Qf := k_QiX D a c9 res) (Xf := k_XC D a c9 res) hst (by decide) (Nat.le_of_ble_eq_true rfl) (fun p e s m args below meth c A ls C0 hP hD hS hl => B_SM_rule_0 C0 σ x1 s.heap [] ls hP hD hS hl h)
def rm_SM_net : Room := { frames := 8, cells := 2, slots := 12, locals := 132 }
def M_SM_net_12_b (self9 : kS → Int32 → Int32 → Option kR) (σ : kS) (x1 x2 : Int32) : Option kR := if σ.1 0 ≤ x2 then (some ((0, σ.1 1), σ)) else (k_ld (σ.2.1 0) 30 (x2) fun v2 => k_call (M_F_mayMatch σ v2 x1) fun v3 σ4 => if v3 = 0 then (k_let (x2 + 1) fun v7 => self9 σ4 x1 v7) else (k_st σ4 1 30 (σ4.1 1) (x2) fun σ8 => k_set σ8 1 ((σ8.1 1 + 1)) fun σ9 => k_let (x2 + 1) fun v10 => self9 σ9 x1 v10))
def M_SM_net_12 : Nat → kS → Int32 → Int32 → Option kR
  | 0 => fun _ _ _ => none
  | n + 1 => M_SM_net_12_b (M_SM_net_12 n)
set_option maxHeartbeats 4000000 in
set_option maxRecDepth 100000 in
theorem B_SM_net_12 {p : Program} {l : Launch} {e : Env} {s : State} {m : MethodId} {args : Array Value} {below : List Frame} {meth : Method} {c : Code} {D : va_G} {a : Nat → Nat} {c9 : Nat → ClassId} {A : Nat → Prop} {res : kR} (C0 : k_Cy D c9 l p s m args meth c R_SM c_SM_net 3 (some .int) A) : ∀ (n : Nat) (σ : kS) (x1 x2 : Int32) (H : Heap) (locs : List Loc) (ls : Array Slot), va_P D kcl (kw a c9 σ) H → va_D A (kw a c9 σ) → va_S A s.heap H locs → lv_has ls 3 [(0, .ref (a 0)), (1, .int x1), (2, .int x2)] → M_SM_net_12 n σ x1 x2 = some res → W p l e rm_SM_net s m args below meth c H locs 2 12 (vx_MQ below (k_QiX D a c9 res A) (k_XC D a c9 res A) args s 2 12 A) (F0 m 12 ls []) := by
  obtain ⟨⟨hx, hb, hml, hown, hts, hr, hlk, hK, hN, hA⟩, hst, htab, hX⟩ := id C0
  intro n
  induction n with
  | zero =>
    intro σ x1 x2 H locs ls hP hD hS hl h
    replace h : (none : Option kR) = some res := h
    cases h
  | succ n ih =>
    intro σ x1 x2 H locs ls hP hD hS hl h
    replace h : M_SM_net_12_b (M_SM_net_12 n) σ x1 x2 = some res := h
    unfold M_SM_net_12_b at h
    refine lv_iload_n hx hb d_SM_net_12 rfl (lv_at hl 2 rfl) ?_
    refine lv_aload_n hx hb d_SM_net_13 rfl (lv_at hl 0 rfl) ?_
    refine va_get (ci := 0) (C := R_SM) (T := T_SM) (N := 6) hx hb hts in_SM hown hK hP 0 kw_0 rfl 3 (by decide) (hts _ q_177) (fun _ h9 => h9) rfl d_SM_net_14 ?_
    refine lv_icmp_ge (tgt := 63) hx hb d_SM_net_17 (by decide) (fun cn1 => ?_) (fun cn1 => ?_)
    · replace h := (if_pos cn1).symm.trans h
      refine lv_aload_n hx hb d_SM_net_63 rfl (lv_at hl 0 rfl) ?_
      refine va_get (ci := 0) (C := R_SM) (T := T_SM) (N := 6) hx hb hts in_SM hown hK hP 0 kw_0 rfl 5 (by decide) (hts _ q_179) (fun _ h9 => h9) rfl d_SM_net_64 ?_
      cases h
      refine W.widen (k := 2) (n := 12) (by decide) (by decide) ?_
      exact k_iretX hx hb hr hlk hP hS d_SM_net_67
    · replace h := (if_neg cn1).symm.trans h
      refine lv_aload_n hx hb d_SM_net_20 rfl (lv_at hl 0 rfl) ?_
      refine va_get (ci := 0) (C := R_SM) (T := T_SM) (N := 6) hx hb hts in_SM hown hK hP 0 kw_0 rfl 0 (by decide) (hts _ q_174) (fun _ h9 => h9) rfl d_SM_net_21 ?_
      refine lv_aload_n hx hb d_SM_net_24 rfl (lv_at hl 0 rfl) ?_
      refine va_get (ci := 0) (C := R_SM) (T := T_SM) (N := 6) hx hb hts in_SM hown hK hP 0 kw_0 rfl 2 (by decide) (hts _ q_176) (fun _ h9 => h9) rfl d_SM_net_25 ?_
      refine lv_iload_n hx hb d_SM_net_28 rfl (lv_at hl 2 rfl) ?_
      obtain ⟨v2, ev2, hv2, h⟩ := k_ld_e h
      refine va_iald hx hb hK hP 7 0 kw_7 rfl hv2 d_SM_net_29 (k_top ev2 ?_)
      refine lv_iload_n hx hb d_SM_net_30 rfl (lv_at hl 1 rfl) ?_
      obtain ⟨v3, σ4, hc5, h⟩ := k_call_e h
      refine k_calli (va_runV (As := [.int v2, .int x1]) (rest := []) ⟨hx, hb, hml, hown, hts⟩ (K_F_mayMatch l D a c9 H.size hc5) (cwV 2 hts (k_gV q_660 q_661 q_662 q_2 q_663) rfl rfl rfl h_F_mayMatch ⟨Nat.le_of_ble_eq_true rfl, Nat.le_of_ble_eq_true rfl⟩) (k_preV (ci := 2) (q0 := 1) rfl kw_1 hP hK hN hD) rfl rfl hl.1 rfl (lv_room (Nat.le_of_ble_eq_true rfl)) d_SM_net_31 ⟨Nat.le_of_ble_eq_true rfl, Nat.le_of_ble_eq_true rfl⟩) hD hS hA (fun H locs hP hD hS => ?_)
      refine lv_if_eq (tgt := 57) hx hb d_SM_net_34 (by decide) (fun cn6 => ?_) (fun cn6 => ?_)
      · replace h := (if_pos cn6).symm.trans h
        obtain ⟨v7, ev7, h⟩ := k_let_e h
        refine lv_iinc (v := v7) (lv' := [(2, .int v7), (0, .ref (a 0)), (1, .int x1)]) hx hb d_SM_net_57 hl (k := 2) rfl (by rw [ev7]; rfl) (by decide) rfl (fun ls hl => ?_)
        refine lv_goto (tgt := 12) hx hb d_SM_net_60 (by decide) ?_
        refine W.widen (k := 2) (n := 12) (by decide) (by decide) ?_
        exact ih _ _ _ H locs ls hP hD hS (lv_sub hl [1, 2, 0] rfl) h
      · replace h := (if_neg cn6).symm.trans h
        refine lv_aload_n hx hb d_SM_net_37 rfl (lv_at hl 0 rfl) ?_
        refine va_get (ci := 0) (C := R_SM) (T := T_SM) (N := 6) hx hb hts in_SM hown hK hP 0 kw_0 rfl 4 (by decide) (hts _ q_178) (fun _ h9 => h9) rfl d_SM_net_38 ?_
        refine lv_aload_n hx hb d_SM_net_41 rfl (lv_at hl 0 rfl) ?_
        refine va_get (ci := 0) (C := R_SM) (T := T_SM) (N := 6) hx hb hts in_SM hown hK hP 0 kw_0 rfl 5 (by decide) (hts _ q_179) (fun _ h9 => h9) rfl d_SM_net_42 ?_
        refine lv_iload_n hx hb d_SM_net_45 rfl (lv_at hl 2 rfl) ?_
        obtain ⟨σ8, eσ8, hiσ8, h⟩ := k_st_e h
        refine va_iast hx hb hK hP hD hS 8 0 kw_8 rfl hiσ8 d_SM_net_46 (fun H locs hP hD hS => ?_)
        replace hP := k_mvP (kw_s8.trans (congrArg _ eσ8.symm)) hP
        replace hD := k_mvD (kw_s8.trans (congrArg _ eσ8.symm)) hD
        refine lv_aload_n hx hb d_SM_net_47 rfl (lv_at hl 0 rfl) ?_
        refine lv_dup hx hb d_SM_net_48 rfl ?_
        refine va_get (ci := 0) (C := R_SM) (T := T_SM) (N := 6) hx hb hts in_SM hown hK hP 0 kw_0 rfl 5 (by decide) (hts _ q_179) (fun _ h9 => h9) rfl d_SM_net_49 ?_
        refine lv_iconst (v := 1) hx hb d_SM_net_52 (by decide) ?_
        refine lv_iadd hx hb d_SM_net_53 ?_
        obtain ⟨σ9, eσ9, h⟩ := k_set_e h
        refine va_put (ci := 0) (v := .int ((σ8.1 1 + 1))) (ty := .int) (C := R_SM) (T := T_SM) (N := 6) hx hb hts in_SM t_SM t_SM_ok n_SM hown hK hP hD hS 0 kw_0 rfl 5 (by decide) (hts _ q_179) (fun _ h9 => h9) rfl (by decide +kernel) rfl rfl (Nat.le_of_ble_eq_true rfl) d_SM_net_54 (fun H locs hP hD hS => ?_)
        replace hP := k_mvP (kw_f0_5.trans (congrArg _ eσ9.symm)) hP
        replace hD := k_mvD (kw_f0_5.trans (congrArg _ eσ9.symm)) hD
        obtain ⟨v10, ev10, h⟩ := k_let_e h
        refine lv_iinc (v := v10) (lv' := [(2, .int v10), (0, .ref (a 0)), (1, .int x1)]) hx hb d_SM_net_57 hl (k := 2) rfl (by rw [ev10]; rfl) (by decide) rfl (fun ls hl => ?_)
        refine lv_goto (tgt := 12) hx hb d_SM_net_60 (by decide) ?_
        refine W.widen (k := 2) (n := 12) (by decide) (by decide) ?_
        exact ih _ _ _ H locs ls hP hD hS (lv_sub hl [1, 2, 0] rfl) h
def M_SM_net (σ : kS) (x1 : Int32) : Option kR := k_callx (M_SM_requirePlain σ x1) fun _ σ2 => k_set σ2 1 (0) fun σ5 => M_SM_net_12 k_fu σ5 x1 0
set_option maxHeartbeats 4000000 in
set_option maxRecDepth 100000 in
theorem B_SM_net_0 {p : Program} {l : Launch} {e : Env} {s : State} {m : MethodId} {args : Array Value} {below : List Frame} {meth : Method} {c : Code} {D : va_G} {a : Nat → Nat} {c9 : Nat → ClassId} {A : Nat → Prop} {res : kR} (C0 : k_Cy D c9 l p s m args meth c R_SM c_SM_net 3 (some .int) A) (σ : kS) (x1 : Int32) (H : Heap) (locs : List Loc) (ls : Array Slot) (hP : va_P D kcl (kw a c9 σ) H) (hD : va_D A (kw a c9 σ)) (hS : va_S A s.heap H locs) (hl : lv_has ls 3 [(0, .ref (a 0)), (1, .int x1)]) (h : M_SM_net σ x1 = some res) : W p l e rm_SM_net s m args below meth c H locs 0 0 (vx_MQ below (k_QiX D a c9 res A) (k_XC D a c9 res A) args s 2 12 A) (F0 m 0 ls []) := by
  obtain ⟨⟨hx, hb, hml, hown, hts, hr, hlk, hK, hN, hA⟩, hst, htab, hX⟩ := id C0
  unfold M_SM_net at h
  refine lv_aload_n hx hb d_SM_net_0 rfl (lv_at hl 0 rfl) ?_
  refine lv_iload_n hx hb d_SM_net_1 rfl (lv_at hl 1 rfl) ?_
  obtain ⟨n4, v1, σ2, hc3, h0, hp⟩ := k_callx_e h
  refine k_xcallv (vx_runV (As := [.int x1]) (rest := []) ⟨hx, hb, hml, hown, hts⟩ (K_SM_requirePlain l hst D a c9 H.size hc3) (cwV 1 hts (k_gV q_429 q_431 s_4 q_1 q_432) rfl rfl rfl h_SM_requirePlain ⟨Nat.le_of_ble_eq_true rfl, Nat.le_of_ble_eq_true rfl⟩) (k_preVX (ci := 0) (q0 := 0) rfl kw_0 hP hK hN hD hX hS hA) rfl rfl hl.1 rfl (lv_room (Nat.le_of_ble_eq_true rfl)) d_SM_net_2 ⟨Nat.le_of_ble_eq_true rfl, Nat.le_of_ble_eq_true rfl⟩) hD hS hA hp htab hlk (by decide) (by decide) (fun hn H locs hP hD hS => ?_)
  replace h := h0 hn
  refine lv_aload_n hx hb d_SM_net_5 rfl (lv_at hl 0 rfl) ?_
  refine lv_iconst (v := 0) hx hb d_SM_net_6 (by decide) ?_
  obtain ⟨σ5, eσ5, h⟩ := k_set_e h
  refine va_put (ci := 0) (v := .int 0) (ty := .int) (C := R_SM) (T := T_SM) (N := 6) hx hb hts in_SM t_SM t_SM_ok n_SM hown hK hP hD hS 0 kw_0 rfl 5 (by decide) (hts _ q_179) (fun _ h9 => h9) rfl (by decide +kernel) rfl rfl (Nat.le_of_ble_eq_true rfl) d_SM_net_7 (fun H locs hP hD hS => ?_)
  replace hP := k_mvP (kw_f0_5.trans (congrArg _ eσ5.symm)) hP
  replace hD := k_mvD (kw_f0_5.trans (congrArg _ eσ5.symm)) hD
  refine lv_iconst (v := 0) hx hb d_SM_net_10 (by decide) ?_
  refine lv_istore_n (lv' := [(2, .int 0), (0, .ref (a 0)), (1, .int x1)]) hx hb d_SM_net_11 rfl hl (by decide) rfl (fun ls hl => ?_)
  refine W.widen (k := 2) (n := 12) (by decide) (by decide) ?_
  exact B_SM_net_12 C0 k_fu _ _ _ H locs ls hP hD hS (lv_sub hl [1, 2, 0] rfl) h
theorem K_SM_net (l : Launch) (hst : l.stackTraces = false) (D : va_G) (a : Nat → Nat) (c9 : Nat → ClassId) (sz : Nat) {σ : kS} {x1 : Int32} {res : kR} (h : M_SM_net σ x1 = some res) : vx_Met l y_SM_net (Cond.code y_SM_net c_SM_net 3 (some .int) :: kG) rm_SM_net (k_PcX D a c9 sz σ [.ref (a 0), .int x1]) (k_QiX D a c9 res (k_A a c9 σ sz)) (k_XC D a c9 res (k_A a c9 σ sz)) 2 12 (k_A a c9 σ sz) :=
  k_metX (Qf := k_QiX D a c9 res) (Xf := k_XC D a c9 res) hst (by decide) (Nat.le_of_ble_eq_true rfl) (fun p e s m args below meth c A ls C0 hP hD hS hl => B_SM_net_0 C0 σ x1 s.heap [] ls hP hD hS hl h)
def rm_SM_first : Room := { frames := 28, cells := 2, slots := 12, locals := 762 }
def M_SM_first_18_b (self9 : kS → Int32 → Int32 → Int32 → Option kR) (σ : kS) (x1 x2 x3 : Int32) : Option kR := if σ.1 0 ≤ x3 then (some ((0, (-1)), σ)) else (k_ld (σ.2.1 0) 30 (x3) fun v2 => k_call (M_F_mayMatch σ v2 x1) fun v3 σ4 => if v3 = 0 then (k_let (x3 + 1) fun v7 => self9 σ4 x1 x2 v7) else (k_ld (σ4.2.1 0) 30 (x3) fun v8 => k_call (M_Se_run σ4 v8 x1 x2) fun _ σ10 => k_call (M_Se_triesMade σ10) fun v12 σ13 => k_let ((x2 - v12)) fun v15 => k_call (M_Se_found σ13) fun v16 σ17 => if v16 ≤ 0 then (k_let (x3 + 1) fun v20 => self9 σ17 x1 v15 v20) else (some ((0, x3), σ17))))
def M_SM_first_18 : Nat → kS → Int32 → Int32 → Int32 → Option kR
  | 0 => fun _ _ _ _ => none
  | n + 1 => M_SM_first_18_b (M_SM_first_18 n)
set_option maxHeartbeats 4000000 in
set_option maxRecDepth 100000 in
theorem B_SM_first_18 {p : Program} {l : Launch} {e : Env} {s : State} {m : MethodId} {args : Array Value} {below : List Frame} {meth : Method} {c : Code} {D : va_G} {a : Nat → Nat} {c9 : Nat → ClassId} {A : Nat → Prop} {res : kR} (C0 : k_Cy D c9 l p s m args meth c R_SM c_SM_first 4 (some .int) A) : ∀ (n : Nat) (σ : kS) (x1 x2 x3 : Int32) (H : Heap) (locs : List Loc) (ls : Array Slot), va_P D kcl (kw a c9 σ) H → va_D A (kw a c9 σ) → va_S A s.heap H locs → lv_has ls 4 [(0, .ref (a 0)), (1, .int x1), (2, .int x2), (3, .int x3)] → M_SM_first_18 n σ x1 x2 x3 = some res → W p l e rm_SM_first s m args below meth c H locs 2 12 (vx_MQ below (k_QiX D a c9 res A) (k_XC D a c9 res A) args s 2 12 A) (F0 m 18 ls []) := by
  obtain ⟨⟨hx, hb, hml, hown, hts, hr, hlk, hK, hN, hA⟩, hst, htab, hX⟩ := id C0
  intro n
  induction n with
  | zero =>
    intro σ x1 x2 x3 H locs ls hP hD hS hl h
    replace h : (none : Option kR) = some res := h
    cases h
  | succ n ih =>
    intro σ x1 x2 x3 H locs ls hP hD hS hl h
    replace h : M_SM_first_18_b (M_SM_first_18 n) σ x1 x2 x3 = some res := h
    unfold M_SM_first_18_b at h
    refine lv_iload_n hx hb d_SM_first_18 rfl (lv_at hl 3 rfl) ?_
    refine lv_aload_n hx hb d_SM_first_19 rfl (lv_at hl 0 rfl) ?_
    refine va_get (ci := 0) (C := R_SM) (T := T_SM) (N := 6) hx hb hts in_SM hown hK hP 0 kw_0 rfl 3 (by decide) (hts _ q_177) (fun _ h9 => h9) rfl d_SM_first_20 ?_
    refine lv_icmp_ge (tgt := 86) hx hb d_SM_first_23 (by decide) (fun cn1 => ?_) (fun cn1 => ?_)
    · replace h := (if_pos cn1).symm.trans h
      refine lv_iconst (v := (-1)) hx hb d_SM_first_86 (by decide) ?_
      cases h
      refine W.widen (k := 2) (n := 12) (by decide) (by decide) ?_
      exact k_iretX hx hb hr hlk hP hS d_SM_first_87
    · replace h := (if_neg cn1).symm.trans h
      refine lv_aload_n hx hb d_SM_first_26 rfl (lv_at hl 0 rfl) ?_
      refine va_get (ci := 0) (C := R_SM) (T := T_SM) (N := 6) hx hb hts in_SM hown hK hP 0 kw_0 rfl 0 (by decide) (hts _ q_174) (fun _ h9 => h9) rfl d_SM_first_27 ?_
      refine lv_aload_n hx hb d_SM_first_30 rfl (lv_at hl 0 rfl) ?_
      refine va_get (ci := 0) (C := R_SM) (T := T_SM) (N := 6) hx hb hts in_SM hown hK hP 0 kw_0 rfl 2 (by decide) (hts _ q_176) (fun _ h9 => h9) rfl d_SM_first_31 ?_
      refine lv_iload_n hx hb d_SM_first_34 rfl (lv_at hl 3 rfl) ?_
      obtain ⟨v2, ev2, hv2, h⟩ := k_ld_e h
      refine va_iald hx hb hK hP 7 0 kw_7 rfl hv2 d_SM_first_35 (k_top ev2 ?_)
      refine lv_iload_n hx hb d_SM_first_36 rfl (lv_at hl 1 rfl) ?_
      obtain ⟨v3, σ4, hc5, h⟩ := k_call_e h
      refine k_calli (va_runV (As := [.int v2, .int x1]) (rest := []) ⟨hx, hb, hml, hown, hts⟩ (K_F_mayMatch l D a c9 H.size hc5) (cwV 2 hts (k_gV q_660 q_661 q_662 q_2 q_663) rfl rfl rfl h_F_mayMatch ⟨Nat.le_of_ble_eq_true rfl, Nat.le_of_ble_eq_true rfl⟩) (k_preV (ci := 2) (q0 := 1) rfl kw_1 hP hK hN hD) rfl rfl hl.1 rfl (lv_room (Nat.le_of_ble_eq_true rfl)) d_SM_first_37 ⟨Nat.le_of_ble_eq_true rfl, Nat.le_of_ble_eq_true rfl⟩) hD hS hA (fun H locs hP hD hS => ?_)
      refine lv_if_eq (tgt := 80) hx hb d_SM_first_40 (by decide) (fun cn6 => ?_) (fun cn6 => ?_)
      · replace h := (if_pos cn6).symm.trans h
        obtain ⟨v7, ev7, h⟩ := k_let_e h
        refine lv_iinc (v := v7) (lv' := [(3, .int v7), (0, .ref (a 0)), (1, .int x1), (2, .int x2)]) hx hb d_SM_first_80 hl (k := 3) rfl (by rw [ev7]; rfl) (by decide) rfl (fun ls hl => ?_)
        refine lv_goto (tgt := 18) hx hb d_SM_first_83 (by decide) ?_
        refine W.widen (k := 2) (n := 12) (by decide) (by decide) ?_
        exact ih _ _ _ _ H locs ls hP hD hS (lv_sub hl [1, 2, 3, 0] rfl) h
      · replace h := (if_neg cn6).symm.trans h
        refine lv_aload_n hx hb d_SM_first_43 rfl (lv_at hl 0 rfl) ?_
        refine va_get (ci := 0) (C := R_SM) (T := T_SM) (N := 6) hx hb hts in_SM hown hK hP 0 kw_0 rfl 1 (by decide) (hts _ q_175) (fun _ h9 => h9) rfl d_SM_first_44 ?_
        refine lv_aload_n hx hb d_SM_first_47 rfl (lv_at hl 0 rfl) ?_
        refine va_get (ci := 0) (C := R_SM) (T := T_SM) (N := 6) hx hb hts in_SM hown hK hP 0 kw_0 rfl 2 (by decide) (hts _ q_176) (fun _ h9 => h9) rfl d_SM_first_48 ?_
        refine lv_iload_n hx hb d_SM_first_51 rfl (lv_at hl 3 rfl) ?_
        obtain ⟨v8, ev8, hv8, h⟩ := k_ld_e h
        refine va_iald hx hb hK hP 7 0 kw_7 rfl hv8 d_SM_first_52 (k_top ev8 ?_)
        refine lv_iload_n hx hb d_SM_first_53 rfl (lv_at hl 1 rfl) ?_
        refine lv_iload_n hx hb d_SM_first_54 rfl (lv_at hl 2 rfl) ?_
        obtain ⟨v9, σ10, hc11, h⟩ := k_call_e h
        refine k_callv (va_runV (As := [.int v8, .int x1, .int x2]) (rest := []) ⟨hx, hb, hml, hown, hts⟩ (K_Se_run l D a c9 H.size hc11) (cwV 3 hts (k_gV q_438 q_439 q_440 q_3 q_441) rfl rfl rfl h_Se_run ⟨Nat.le_of_ble_eq_true rfl, Nat.le_of_ble_eq_true rfl⟩) (k_preV (ci := 6) (q0 := 2) rfl kw_2 hP hK hN hD) rfl rfl hl.1 rfl (lv_room (Nat.le_of_ble_eq_true rfl)) d_SM_first_55 ⟨Nat.le_of_ble_eq_true rfl, Nat.le_of_ble_eq_true rfl⟩) hD hS hA (fun H locs hP hD hS => ?_)
        refine lv_iload_n hx hb d_SM_first_58 rfl (lv_at hl 2 rfl) ?_
        refine lv_aload_n hx hb d_SM_first_59 rfl (lv_at hl 0 rfl) ?_
        refine va_get (ci := 0) (C := R_SM) (T := T_SM) (N := 6) hx hb hts in_SM hown hK hP 0 kw_0 rfl 1 (by decide) (hts _ q_175) (fun _ h9 => h9) rfl d_SM_first_60 ?_
        obtain ⟨v12, σ13, hc14, h⟩ := k_call_e h
        refine k_calli (va_runV (As := []) (rest := [.int x2]) ⟨hx, hb, hml, hown, hts⟩ (K_Se_triesMade l D a c9 H.size hc14) (cwV 0 hts (k_gV q_197 q_198 q_199 q_3 q_200) rfl rfl rfl h_Se_triesMade ⟨Nat.le_of_ble_eq_true rfl, Nat.le_of_ble_eq_true rfl⟩) (k_preV (ci := 6) (q0 := 2) rfl kw_2 hP hK hN hD) rfl rfl hl.1 rfl (lv_room (Nat.le_of_ble_eq_true rfl)) d_SM_first_63 ⟨Nat.le_of_ble_eq_true rfl, Nat.le_of_ble_eq_true rfl⟩) hD hS hA (fun H locs hP hD hS => ?_)
        refine lv_isub hx hb d_SM_first_66 ?_
        obtain ⟨v15, ev15, h⟩ := k_let_e h
        refine k_top ev15 ?_
        refine lv_istore_n (lv' := [(2, .int v15), (0, .ref (a 0)), (1, .int x1), (3, .int x3)]) hx hb d_SM_first_67 rfl hl (by decide) rfl (fun ls hl => ?_)
        refine lv_aload_n hx hb d_SM_first_68 rfl (lv_at hl 1 rfl) ?_
        refine va_get (ci := 0) (C := R_SM) (T := T_SM) (N := 6) hx hb hts in_SM hown hK hP 0 kw_0 rfl 1 (by decide) (hts _ q_175) (fun _ h9 => h9) rfl d_SM_first_69 ?_
        obtain ⟨v16, σ17, hc18, h⟩ := k_call_e h
        refine k_calli (va_runV (As := []) (rest := []) ⟨hx, hb, hml, hown, hts⟩ (K_Se_found l D a c9 H.size hc18) (cwV 0 hts (k_gV q_609 q_610 q_611 q_3 q_612) rfl rfl rfl h_Se_found ⟨Nat.le_of_ble_eq_true rfl, Nat.le_of_ble_eq_true rfl⟩) (k_preV (ci := 6) (q0 := 2) rfl kw_2 hP hK hN hD) rfl rfl hl.1 rfl (lv_room (Nat.le_of_ble_eq_true rfl)) d_SM_first_72 ⟨Nat.le_of_ble_eq_true rfl, Nat.le_of_ble_eq_true rfl⟩) hD hS hA (fun H locs hP hD hS => ?_)
        refine lv_if_le (tgt := 80) hx hb d_SM_first_75 (by decide) (fun cn19 => ?_) (fun cn19 => ?_)
        · replace h := (if_pos cn19).symm.trans h
          obtain ⟨v20, ev20, h⟩ := k_let_e h
          refine lv_iinc (v := v20) (lv' := [(3, .int v20), (2, .int v15), (0, .ref (a 0)), (1, .int x1)]) hx hb d_SM_first_80 hl (k := 3) rfl (by rw [ev20]; rfl) (by decide) rfl (fun ls hl => ?_)
          refine lv_goto (tgt := 18) hx hb d_SM_first_83 (by decide) ?_
          refine W.widen (k := 2) (n := 12) (by decide) (by decide) ?_
          exact ih _ _ _ _ H locs ls hP hD hS (lv_sub hl [2, 3, 1, 0] rfl) h
        · replace h := (if_neg cn19).symm.trans h
          refine lv_iload_n hx hb d_SM_first_78 rfl (lv_at hl 3 rfl) ?_
          cases h
          refine W.widen (k := 2) (n := 12) (by decide) (by decide) ?_
          exact k_iretX hx hb hr hlk hP hS d_SM_first_79
def M_SM_first (σ : kS) (x1 : Int32) : Option kR := k_callx (M_SM_requirePlain σ x1) fun _ σ2 => k_call (M_Se_clear σ2) fun _ σ6 => M_SM_first_18 k_fu σ6 x1 400 0
set_option maxHeartbeats 4000000 in
set_option maxRecDepth 100000 in
theorem B_SM_first_0 {p : Program} {l : Launch} {e : Env} {s : State} {m : MethodId} {args : Array Value} {below : List Frame} {meth : Method} {c : Code} {D : va_G} {a : Nat → Nat} {c9 : Nat → ClassId} {A : Nat → Prop} {res : kR} (C0 : k_Cy D c9 l p s m args meth c R_SM c_SM_first 4 (some .int) A) (σ : kS) (x1 : Int32) (H : Heap) (locs : List Loc) (ls : Array Slot) (hP : va_P D kcl (kw a c9 σ) H) (hD : va_D A (kw a c9 σ)) (hS : va_S A s.heap H locs) (hl : lv_has ls 4 [(0, .ref (a 0)), (1, .int x1)]) (h : M_SM_first σ x1 = some res) : W p l e rm_SM_first s m args below meth c H locs 0 0 (vx_MQ below (k_QiX D a c9 res A) (k_XC D a c9 res A) args s 2 12 A) (F0 m 0 ls []) := by
  obtain ⟨⟨hx, hb, hml, hown, hts, hr, hlk, hK, hN, hA⟩, hst, htab, hX⟩ := id C0
  unfold M_SM_first at h
  refine lv_aload_n hx hb d_SM_first_0 rfl (lv_at hl 0 rfl) ?_
  refine lv_iload_n hx hb d_SM_first_1 rfl (lv_at hl 1 rfl) ?_
  obtain ⟨n4, v1, σ2, hc3, h0, hp⟩ := k_callx_e h
  refine k_xcallv (vx_runV (As := [.int x1]) (rest := []) ⟨hx, hb, hml, hown, hts⟩ (K_SM_requirePlain l hst D a c9 H.size hc3) (cwV 1 hts (k_gV q_429 q_431 s_4 q_1 q_432) rfl rfl rfl h_SM_requirePlain ⟨Nat.le_of_ble_eq_true rfl, Nat.le_of_ble_eq_true rfl⟩) (k_preVX (ci := 0) (q0 := 0) rfl kw_0 hP hK hN hD hX hS hA) rfl rfl hl.1 rfl (lv_room (Nat.le_of_ble_eq_true rfl)) d_SM_first_2 ⟨Nat.le_of_ble_eq_true rfl, Nat.le_of_ble_eq_true rfl⟩) hD hS hA hp htab hlk (by decide) (by decide) (fun hn H locs hP hD hS => ?_)
  replace h := h0 hn
  refine lv_aload_n hx hb d_SM_first_5 rfl (lv_at hl 0 rfl) ?_
  refine va_get (ci := 0) (C := R_SM) (T := T_SM) (N := 6) hx hb hts in_SM hown hK hP 0 kw_0 rfl 1 (by decide) (hts _ q_175) (fun _ h9 => h9) rfl d_SM_first_6 ?_
  obtain ⟨v5, σ6, hc7, h⟩ := k_call_e h
  refine k_callv (va_runV (As := []) (rest := []) ⟨hx, hb, hml, hown, hts⟩ (K_Se_clear l D a c9 H.size hc7) (cwV 0 hts (k_gV q_682 q_443 q_444 q_3 q_445) rfl rfl rfl h_Se_clear ⟨Nat.le_of_ble_eq_true rfl, Nat.le_of_ble_eq_true rfl⟩) (k_preV (ci := 6) (q0 := 2) rfl kw_2 hP hK hN hD) rfl rfl hl.1 rfl (lv_room (Nat.le_of_ble_eq_true rfl)) d_SM_first_9 ⟨Nat.le_of_ble_eq_true rfl, Nat.le_of_ble_eq_true rfl⟩) hD hS hA (fun H locs hP hD hS => ?_)
  refine lv_sipush (v := 400) hx hb d_SM_first_12 (by decide) ?_
  refine lv_istore_n (lv' := [(2, .int 400), (0, .ref (a 0)), (1, .int x1)]) hx hb d_SM_first_15 rfl hl (by decide) rfl (fun ls hl => ?_)
  refine lv_iconst (v := 0) hx hb d_SM_first_16 (by decide) ?_
  refine lv_istore_n (lv' := [(3, .int 0), (2, .int 400), (0, .ref (a 0)), (1, .int x1)]) hx hb d_SM_first_17 rfl hl (by decide) rfl (fun ls hl => ?_)
  refine W.widen (k := 2) (n := 12) (by decide) (by decide) ?_
  exact B_SM_first_18 C0 k_fu _ _ _ _ H locs ls hP hD hS (lv_sub hl [2, 3, 1, 0] rfl) h
theorem K_SM_first (l : Launch) (hst : l.stackTraces = false) (D : va_G) (a : Nat → Nat) (c9 : Nat → ClassId) (sz : Nat) {σ : kS} {x1 : Int32} {res : kR} (h : M_SM_first σ x1 = some res) : vx_Met l y_SM_first (Cond.code y_SM_first c_SM_first 4 (some .int) :: kG) rm_SM_first (k_PcX D a c9 sz σ [.ref (a 0), .int x1]) (k_QiX D a c9 res (k_A a c9 σ sz)) (k_XC D a c9 res (k_A a c9 σ sz)) 2 12 (k_A a c9 σ sz) :=
  k_metX (Qf := k_QiX D a c9 res) (Xf := k_XC D a c9 res) hst (by decide) (Nat.le_of_ble_eq_true rfl) (fun p e s m args below meth c A ls C0 hP hD hS hl => B_SM_first_0 C0 σ x1 s.heap [] ls hP hD hS hl h)
def rm_SM_order : Room := { frames := 24, cells := 6, slots := 36, locals := 666 }
def M_SM_order (σ : kS) (x1 x2 : Int32) : Option kR := k_callx (M_SM_requireTree σ x1) fun _ σ2 => k_callx (M_SM_requireTree σ2 x2) fun _ σ6 => k_callx (M_SM_requirePlain σ6 x1) fun _ σ10 => k_callx (M_SM_requirePlain σ10 x2) fun _ σ14 => k_call (M_F_compare σ14 x1 x2) fun v17 σ18 => some ((0, v17), σ18)
set_option maxHeartbeats 4000000 in
set_option maxRecDepth 100000 in
theorem B_SM_order_0 {p : Program} {l : Launch} {e : Env} {s : State} {m : MethodId} {args : Array Value} {below : List Frame} {meth : Method} {c : Code} {D : va_G} {a : Nat → Nat} {c9 : Nat → ClassId} {A : Nat → Prop} {res : kR} (C0 : k_Cy D c9 l p s m args meth c R_SM c_SM_order 3 (some .int) A) (σ : kS) (x1 x2 : Int32) (H : Heap) (locs : List Loc) (ls : Array Slot) (hP : va_P D kcl (kw a c9 σ) H) (hD : va_D A (kw a c9 σ)) (hS : va_S A s.heap H locs) (hl : lv_has ls 3 [(0, .ref (a 0)), (1, .int x1), (2, .int x2)]) (h : M_SM_order σ x1 x2 = some res) : W p l e rm_SM_order s m args below meth c H locs 0 0 (vx_MQ below (k_QiX D a c9 res A) (k_XC D a c9 res A) args s 6 36 A) (F0 m 0 ls []) := by
  obtain ⟨⟨hx, hb, hml, hown, hts, hr, hlk, hK, hN, hA⟩, hst, htab, hX⟩ := id C0
  unfold M_SM_order at h
  refine lv_aload_n hx hb d_SM_order_0 rfl (lv_at hl 0 rfl) ?_
  refine lv_iload_n hx hb d_SM_order_1 rfl (lv_at hl 1 rfl) ?_
  obtain ⟨n4, v1, σ2, hc3, h0, hp⟩ := k_callx_e h
  refine k_xcallv (vx_runV (As := [.int x1]) (rest := []) ⟨hx, hb, hml, hown, hts⟩ (K_SM_requireTree l hst D a c9 H.size hc3) (cwV 1 hts (k_gV q_344 q_346 s_2 q_1 q_347) rfl rfl rfl h_SM_requireTree ⟨Nat.le_of_ble_eq_true rfl, Nat.le_of_ble_eq_true rfl⟩) (k_preVX (ci := 0) (q0 := 0) rfl kw_0 hP hK hN hD hX hS hA) rfl rfl hl.1 rfl (lv_room (Nat.le_of_ble_eq_true rfl)) d_SM_order_2 ⟨Nat.le_of_ble_eq_true rfl, Nat.le_of_ble_eq_true rfl⟩) hD hS hA hp htab hlk (by decide) (by decide) (fun hn H locs hP hD hS => ?_)
  replace h := h0 hn
  refine lv_aload_n hx hb d_SM_order_5 rfl (lv_at hl 0 rfl) ?_
  refine lv_iload_n hx hb d_SM_order_6 rfl (lv_at hl 2 rfl) ?_
  obtain ⟨n8, v5, σ6, hc7, h0, hp⟩ := k_callx_e h
  refine k_xcallv (vx_runV (As := [.int x2]) (rest := []) ⟨hx, hb, hml, hown, hts⟩ (K_SM_requireTree l hst D a c9 H.size hc7) (cwV 1 hts (k_gV q_344 q_346 s_2 q_1 q_347) rfl rfl rfl h_SM_requireTree ⟨Nat.le_of_ble_eq_true rfl, Nat.le_of_ble_eq_true rfl⟩) (k_preVX (ci := 0) (q0 := 0) rfl kw_0 hP hK hN hD hX hS hA) rfl rfl hl.1 rfl (lv_room (Nat.le_of_ble_eq_true rfl)) d_SM_order_7 ⟨Nat.le_of_ble_eq_true rfl, Nat.le_of_ble_eq_true rfl⟩) hD hS hA hp htab hlk (by decide) (by decide) (fun hn H locs hP hD hS => ?_)
  replace h := h0 hn
  refine lv_aload_n hx hb d_SM_order_10 rfl (lv_at hl 0 rfl) ?_
  refine lv_iload_n hx hb d_SM_order_11 rfl (lv_at hl 1 rfl) ?_
  obtain ⟨n12, v9, σ10, hc11, h0, hp⟩ := k_callx_e h
  refine k_xcallv (vx_runV (As := [.int x1]) (rest := []) ⟨hx, hb, hml, hown, hts⟩ (K_SM_requirePlain l hst D a c9 H.size hc11) (cwV 1 hts (k_gV q_429 q_431 s_4 q_1 q_432) rfl rfl rfl h_SM_requirePlain ⟨Nat.le_of_ble_eq_true rfl, Nat.le_of_ble_eq_true rfl⟩) (k_preVX (ci := 0) (q0 := 0) rfl kw_0 hP hK hN hD hX hS hA) rfl rfl hl.1 rfl (lv_room (Nat.le_of_ble_eq_true rfl)) d_SM_order_12 ⟨Nat.le_of_ble_eq_true rfl, Nat.le_of_ble_eq_true rfl⟩) hD hS hA hp htab hlk (by decide) (by decide) (fun hn H locs hP hD hS => ?_)
  replace h := h0 hn
  refine lv_aload_n hx hb d_SM_order_15 rfl (lv_at hl 0 rfl) ?_
  refine lv_iload_n hx hb d_SM_order_16 rfl (lv_at hl 2 rfl) ?_
  obtain ⟨n16, v13, σ14, hc15, h0, hp⟩ := k_callx_e h
  refine k_xcallv (vx_runV (As := [.int x2]) (rest := []) ⟨hx, hb, hml, hown, hts⟩ (K_SM_requirePlain l hst D a c9 H.size hc15) (cwV 1 hts (k_gV q_429 q_431 s_4 q_1 q_432) rfl rfl rfl h_SM_requirePlain ⟨Nat.le_of_ble_eq_true rfl, Nat.le_of_ble_eq_true rfl⟩) (k_preVX (ci := 0) (q0 := 0) rfl kw_0 hP hK hN hD hX hS hA) rfl rfl hl.1 rfl (lv_room (Nat.le_of_ble_eq_true rfl)) d_SM_order_17 ⟨Nat.le_of_ble_eq_true rfl, Nat.le_of_ble_eq_true rfl⟩) hD hS hA hp htab hlk (by decide) (by decide) (fun hn H locs hP hD hS => ?_)
  replace h := h0 hn
  refine lv_aload_n hx hb d_SM_order_20 rfl (lv_at hl 0 rfl) ?_
  refine va_get (ci := 0) (C := R_SM) (T := T_SM) (N := 6) hx hb hts in_SM hown hK hP 0 kw_0 rfl 0 (by decide) (hts _ q_174) (fun _ h9 => h9) rfl d_SM_order_21 ?_
  refine lv_iload_n hx hb d_SM_order_24 rfl (lv_at hl 1 rfl) ?_
  refine lv_iload_n hx hb d_SM_order_25 rfl (lv_at hl 2 rfl) ?_
  obtain ⟨v17, σ18, hc19, h⟩ := k_call_e h
  refine k_calli (va_runV (As := [.int x1, .int x2]) (rest := []) ⟨hx, hb, hml, hown, hts⟩ (K_F_compare l D a c9 H.size hc19) (cwV 2 hts (k_gV q_690 q_390 q_391 q_2 q_392) rfl rfl rfl h_F_compare ⟨Nat.le_of_ble_eq_true rfl, Nat.le_of_ble_eq_true rfl⟩) (k_preV (ci := 2) (q0 := 1) rfl kw_1 hP hK hN hD) rfl rfl hl.1 rfl (lv_room (Nat.le_of_ble_eq_true rfl)) d_SM_order_26 ⟨Nat.le_of_ble_eq_true rfl, Nat.le_of_ble_eq_true rfl⟩) hD hS hA (fun H locs hP hD hS => ?_)
  cases h
  refine W.widen (k := 6) (n := 36) (by decide) (by decide) ?_
  exact k_iretX hx hb hr hlk hP hS d_SM_order_29
theorem K_SM_order (l : Launch) (hst : l.stackTraces = false) (D : va_G) (a : Nat → Nat) (c9 : Nat → ClassId) (sz : Nat) {σ : kS} {x1 x2 : Int32} {res : kR} (h : M_SM_order σ x1 x2 = some res) : vx_Met l y_SM_order (Cond.code y_SM_order c_SM_order 3 (some .int) :: kG) rm_SM_order (k_PcX D a c9 sz σ [.ref (a 0), .int x1, .int x2]) (k_QiX D a c9 res (k_A a c9 σ sz)) (k_XC D a c9 res (k_A a c9 σ sz)) 6 36 (k_A a c9 σ sz) :=
  k_metX (Qf := k_QiX D a c9 res) (Xf := k_XC D a c9 res) hst (by decide) (Nat.le_of_ble_eq_true rfl) (fun p e s m args below meth c A ls C0 hP hD hS hl => B_SM_order_0 C0 σ x1 x2 s.heap [] ls hP hD hS hl h)
def rm_SM_parts : Room := { frames := 7, cells := 1, slots := 6, locals := 111 }
def M_SM_parts (σ : kS) (x1 : Int32) : Option kR := k_callx (M_SM_requireTree σ x1) fun _ σ2 => k_call (M_F_partCount σ2 x1) fun v5 σ6 => some ((0, v5), σ6)
set_option maxHeartbeats 4000000 in
set_option maxRecDepth 100000 in
theorem B_SM_parts_0 {p : Program} {l : Launch} {e : Env} {s : State} {m : MethodId} {args : Array Value} {below : List Frame} {meth : Method} {c : Code} {D : va_G} {a : Nat → Nat} {c9 : Nat → ClassId} {A : Nat → Prop} {res : kR} (C0 : k_Cy D c9 l p s m args meth c R_SM c_SM_parts 2 (some .int) A) (σ : kS) (x1 : Int32) (H : Heap) (locs : List Loc) (ls : Array Slot) (hP : va_P D kcl (kw a c9 σ) H) (hD : va_D A (kw a c9 σ)) (hS : va_S A s.heap H locs) (hl : lv_has ls 2 [(0, .ref (a 0)), (1, .int x1)]) (h : M_SM_parts σ x1 = some res) : W p l e rm_SM_parts s m args below meth c H locs 0 0 (vx_MQ below (k_QiX D a c9 res A) (k_XC D a c9 res A) args s 1 6 A) (F0 m 0 ls []) := by
  obtain ⟨⟨hx, hb, hml, hown, hts, hr, hlk, hK, hN, hA⟩, hst, htab, hX⟩ := id C0
  unfold M_SM_parts at h
  refine lv_aload_n hx hb d_SM_parts_0 rfl (lv_at hl 0 rfl) ?_
  refine lv_iload_n hx hb d_SM_parts_1 rfl (lv_at hl 1 rfl) ?_
  obtain ⟨n4, v1, σ2, hc3, h0, hp⟩ := k_callx_e h
  refine k_xcallv (vx_runV (As := [.int x1]) (rest := []) ⟨hx, hb, hml, hown, hts⟩ (K_SM_requireTree l hst D a c9 H.size hc3) (cwV 1 hts (k_gV q_344 q_346 s_2 q_1 q_347) rfl rfl rfl h_SM_requireTree ⟨Nat.le_of_ble_eq_true rfl, Nat.le_of_ble_eq_true rfl⟩) (k_preVX (ci := 0) (q0 := 0) rfl kw_0 hP hK hN hD hX hS hA) rfl rfl hl.1 rfl (lv_room (Nat.le_of_ble_eq_true rfl)) d_SM_parts_2 ⟨Nat.le_of_ble_eq_true rfl, Nat.le_of_ble_eq_true rfl⟩) hD hS hA hp htab hlk (by decide) (by decide) (fun hn H locs hP hD hS => ?_)
  replace h := h0 hn
  refine lv_aload_n hx hb d_SM_parts_5 rfl (lv_at hl 0 rfl) ?_
  refine va_get (ci := 0) (C := R_SM) (T := T_SM) (N := 6) hx hb hts in_SM hown hK hP 0 kw_0 rfl 0 (by decide) (hts _ q_174) (fun _ h9 => h9) rfl d_SM_parts_6 ?_
  refine lv_iload_n hx hb d_SM_parts_9 rfl (lv_at hl 1 rfl) ?_
  obtain ⟨v5, σ6, hc7, h⟩ := k_call_e h
  refine k_calli (va_runV (As := [.int x1]) (rest := []) ⟨hx, hb, hml, hown, hts⟩ (K_F_partCount l D a c9 H.size hc7) (cwV 1 hts (k_gV q_698 q_465 q_466 q_2 q_467) rfl rfl rfl h_F_partCount ⟨Nat.le_of_ble_eq_true rfl, Nat.le_of_ble_eq_true rfl⟩) (k_preV (ci := 2) (q0 := 1) rfl kw_1 hP hK hN hD) rfl rfl hl.1 rfl (lv_room (Nat.le_of_ble_eq_true rfl)) d_SM_parts_10 ⟨Nat.le_of_ble_eq_true rfl, Nat.le_of_ble_eq_true rfl⟩) hD hS hA (fun H locs hP hD hS => ?_)
  cases h
  refine W.widen (k := 1) (n := 6) (by decide) (by decide) ?_
  exact k_iretX hx hb hr hlk hP hS d_SM_parts_13
theorem K_SM_parts (l : Launch) (hst : l.stackTraces = false) (D : va_G) (a : Nat → Nat) (c9 : Nat → ClassId) (sz : Nat) {σ : kS} {x1 : Int32} {res : kR} (h : M_SM_parts σ x1 = some res) : vx_Met l y_SM_parts (Cond.code y_SM_parts c_SM_parts 2 (some .int) :: kG) rm_SM_parts (k_PcX D a c9 sz σ [.ref (a 0), .int x1]) (k_QiX D a c9 res (k_A a c9 σ sz)) (k_XC D a c9 res (k_A a c9 σ sz)) 1 6 (k_A a c9 σ sz) :=
  k_metX (Qf := k_QiX D a c9 res) (Xf := k_XC D a c9 res) hst (by decide) (Nat.le_of_ble_eq_true rfl) (fun p e s m args below meth c A ls C0 hP hD hS hl => B_SM_parts_0 C0 σ x1 s.heap [] ls hP hD hS hl h)
def rm_SM_part : Room := { frames := 7, cells := 1, slots := 6, locals := 111 }
def M_SM_part (σ : kS) (x1 x2 : Int32) : Option kR := k_callx (M_SM_requireTree σ x1) fun _ σ2 => if x2 < 0 then (some ((0, (-1)), σ2)) else (k_call (M_F_partCount σ2 x1) fun v6 σ7 => if v6 ≤ x2 then (some ((0, (-1)), σ7)) else (k_call (M_F_partAt σ7 x1 x2) fun v10 σ11 => some ((0, v10), σ11)))
set_option maxHeartbeats 4000000 in
set_option maxRecDepth 100000 in
theorem B_SM_part_0 {p : Program} {l : Launch} {e : Env} {s : State} {m : MethodId} {args : Array Value} {below : List Frame} {meth : Method} {c : Code} {D : va_G} {a : Nat → Nat} {c9 : Nat → ClassId} {A : Nat → Prop} {res : kR} (C0 : k_Cy D c9 l p s m args meth c R_SM c_SM_part 3 (some .int) A) (σ : kS) (x1 x2 : Int32) (H : Heap) (locs : List Loc) (ls : Array Slot) (hP : va_P D kcl (kw a c9 σ) H) (hD : va_D A (kw a c9 σ)) (hS : va_S A s.heap H locs) (hl : lv_has ls 3 [(0, .ref (a 0)), (1, .int x1), (2, .int x2)]) (h : M_SM_part σ x1 x2 = some res) : W p l e rm_SM_part s m args below meth c H locs 0 0 (vx_MQ below (k_QiX D a c9 res A) (k_XC D a c9 res A) args s 1 6 A) (F0 m 0 ls []) := by
  obtain ⟨⟨hx, hb, hml, hown, hts, hr, hlk, hK, hN, hA⟩, hst, htab, hX⟩ := id C0
  unfold M_SM_part at h
  refine lv_aload_n hx hb d_SM_part_0 rfl (lv_at hl 0 rfl) ?_
  refine lv_iload_n hx hb d_SM_part_1 rfl (lv_at hl 1 rfl) ?_
  obtain ⟨n4, v1, σ2, hc3, h0, hp⟩ := k_callx_e h
  refine k_xcallv (vx_runV (As := [.int x1]) (rest := []) ⟨hx, hb, hml, hown, hts⟩ (K_SM_requireTree l hst D a c9 H.size hc3) (cwV 1 hts (k_gV q_344 q_346 s_2 q_1 q_347) rfl rfl rfl h_SM_requireTree ⟨Nat.le_of_ble_eq_true rfl, Nat.le_of_ble_eq_true rfl⟩) (k_preVX (ci := 0) (q0 := 0) rfl kw_0 hP hK hN hD hX hS hA) rfl rfl hl.1 rfl (lv_room (Nat.le_of_ble_eq_true rfl)) d_SM_part_2 ⟨Nat.le_of_ble_eq_true rfl, Nat.le_of_ble_eq_true rfl⟩) hD hS hA hp htab hlk (by decide) (by decide) (fun hn H locs hP hD hS => ?_)
  replace h := h0 hn
  refine lv_iload_n hx hb d_SM_part_5 rfl (lv_at hl 2 rfl) ?_
  refine lv_if_lt (tgt := 33) hx hb d_SM_part_6 (by decide) (fun cn5 => ?_) (fun cn5 => ?_)
  · replace h := (if_pos cn5).symm.trans h
    refine lv_iconst (v := (-1)) hx hb d_SM_part_33 (by decide) ?_
    cases h
    refine W.widen (k := 1) (n := 6) (by decide) (by decide) ?_
    exact k_iretX hx hb hr hlk hP hS d_SM_part_34
  · replace h := (if_neg cn5).symm.trans h
    refine lv_iload_n hx hb d_SM_part_9 rfl (lv_at hl 2 rfl) ?_
    refine lv_aload_n hx hb d_SM_part_10 rfl (lv_at hl 0 rfl) ?_
    refine va_get (ci := 0) (C := R_SM) (T := T_SM) (N := 6) hx hb hts in_SM hown hK hP 0 kw_0 rfl 0 (by decide) (hts _ q_174) (fun _ h9 => h9) rfl d_SM_part_11 ?_
    refine lv_iload_n hx hb d_SM_part_14 rfl (lv_at hl 1 rfl) ?_
    obtain ⟨v6, σ7, hc8, h⟩ := k_call_e h
    refine k_calli (va_runV (As := [.int x1]) (rest := [.int x2]) ⟨hx, hb, hml, hown, hts⟩ (K_F_partCount l D a c9 H.size hc8) (cwV 1 hts (k_gV q_698 q_465 q_466 q_2 q_467) rfl rfl rfl h_F_partCount ⟨Nat.le_of_ble_eq_true rfl, Nat.le_of_ble_eq_true rfl⟩) (k_preV (ci := 2) (q0 := 1) rfl kw_1 hP hK hN hD) rfl rfl hl.1 rfl (lv_room (Nat.le_of_ble_eq_true rfl)) d_SM_part_15 ⟨Nat.le_of_ble_eq_true rfl, Nat.le_of_ble_eq_true rfl⟩) hD hS hA (fun H locs hP hD hS => ?_)
    refine lv_icmp_ge (tgt := 33) hx hb d_SM_part_18 (by decide) (fun cn9 => ?_) (fun cn9 => ?_)
    · replace h := (if_pos cn9).symm.trans h
      refine lv_iconst (v := (-1)) hx hb d_SM_part_33 (by decide) ?_
      cases h
      refine W.widen (k := 1) (n := 6) (by decide) (by decide) ?_
      exact k_iretX hx hb hr hlk hP hS d_SM_part_34
    · replace h := (if_neg cn9).symm.trans h
      refine lv_aload_n hx hb d_SM_part_21 rfl (lv_at hl 0 rfl) ?_
      refine va_get (ci := 0) (C := R_SM) (T := T_SM) (N := 6) hx hb hts in_SM hown hK hP 0 kw_0 rfl 0 (by decide) (hts _ q_174) (fun _ h9 => h9) rfl d_SM_part_22 ?_
      refine lv_iload_n hx hb d_SM_part_25 rfl (lv_at hl 1 rfl) ?_
      refine lv_iload_n hx hb d_SM_part_26 rfl (lv_at hl 2 rfl) ?_
      obtain ⟨v10, σ11, hc12, h⟩ := k_call_e h
      refine k_calli (va_runV (As := [.int x1, .int x2]) (rest := []) ⟨hx, hb, hml, hown, hts⟩ (K_F_partAt l D a c9 H.size hc12) (cwV 2 hts (k_gV q_706 q_386 q_387 q_2 q_388) rfl rfl rfl h_F_partAt ⟨Nat.le_of_ble_eq_true rfl, Nat.le_of_ble_eq_true rfl⟩) (k_preV (ci := 2) (q0 := 1) rfl kw_1 hP hK hN hD) rfl rfl hl.1 rfl (lv_room (Nat.le_of_ble_eq_true rfl)) d_SM_part_27 ⟨Nat.le_of_ble_eq_true rfl, Nat.le_of_ble_eq_true rfl⟩) hD hS hA (fun H locs hP hD hS => ?_)
      refine lv_goto (tgt := 34) hx hb d_SM_part_30 (by decide) ?_
      cases h
      refine W.widen (k := 1) (n := 6) (by decide) (by decide) ?_
      exact k_iretX hx hb hr hlk hP hS d_SM_part_34
theorem K_SM_part (l : Launch) (hst : l.stackTraces = false) (D : va_G) (a : Nat → Nat) (c9 : Nat → ClassId) (sz : Nat) {σ : kS} {x1 x2 : Int32} {res : kR} (h : M_SM_part σ x1 x2 = some res) : vx_Met l y_SM_part (Cond.code y_SM_part c_SM_part 3 (some .int) :: kG) rm_SM_part (k_PcX D a c9 sz σ [.ref (a 0), .int x1, .int x2]) (k_QiX D a c9 res (k_A a c9 σ sz)) (k_XC D a c9 res (k_A a c9 σ sz)) 1 6 (k_A a c9 σ sz) :=
  k_metX (Qf := k_QiX D a c9 res) (Xf := k_XC D a c9 res) hst (by decide) (Nat.le_of_ble_eq_true rfl) (fun p e s m args below meth c A ls C0 hP hD hS hl => B_SM_part_0 C0 σ x1 x2 s.heap [] ls hP hD hS hl h)

