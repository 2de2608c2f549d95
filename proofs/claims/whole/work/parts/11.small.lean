/-! mirrors and contracts, by program (wip/whole/run.py) -/
def rm_Mt_clear : Room := { frames := 0, cells := 0, slots := 0, locals := 0 }
def M_Mt_clear (σ : kS) : Option (Int32 × kS) := k_set σ 9 (0) fun σ1 => some (0, σ1)
set_option maxHeartbeats 4000000 in
set_option maxRecDepth 100000 in
theorem B_Mt_clear_0 {p : Program} {l : Launch} {e : Env} {s : State} {m : MethodId} {args : Array Value} {below : List Frame} {meth : Method} {c : Code} {D : va_G} {a : Nat → Nat} {c9 : Nat → ClassId} {A : Nat → Prop} {r9 : Int32} {σo : kS} (C0 : k_Cx D c9 p s m args meth c R_Mt c_Mt_clear 1 none A) (σ : kS) (H : Heap) (locs : List Loc) (ls : Array Slot) (hP : va_P D kcl (kw a c9 σ) H) (hD : va_D A (kw a c9 σ)) (hS : va_S A s.heap H locs) (hl : lv_has ls 1 [(0, .ref (a 5))]) (h : M_Mt_clear σ  = some (r9, σo)) : W p l e rm_Mt_clear s m args below meth c H locs 0 0 (MQ below (k_Qv D a c9 σo A) args s 0 0 A) (F0 m 0 ls []) := by
  obtain ⟨hx, hb, hml, hown, hts, hr, hlk, hK, hN, hA⟩ := id C0
  unfold M_Mt_clear at h
  refine lv_aload_n hx hb d_Mt_clear_0 rfl (lv_at hl 0 rfl) ?_
  refine lv_iconst (v := 0) hx hb d_Mt_clear_1 (by decide) ?_
  obtain ⟨σ1, eσ1, h⟩ := k_set_e h
  refine va_put (ci := 3) (v := .int 0) (ty := .int) (C := R_Mt) (T := T_Mt) (N := 3) hx hb hts in_Mt t_Mt t_Mt_ok n_Mt hown hK hP hD hS 5 kw_5 rfl 0 (by decide) (hts _ q_124) (fun _ h9 => h9) rfl (by decide +kernel) rfl rfl (Nat.le_of_ble_eq_true rfl) d_Mt_clear_2 (fun H locs hP hD hS => ?_)
  replace hP := k_mvP (kw_f5_0.trans (congrArg _ eσ1.symm)) hP
  replace hD := k_mvD (kw_f5_0.trans (congrArg _ eσ1.symm)) hD
  cases h
  exact k_vret hx hb hr hlk hP hS d_Mt_clear_5
theorem K_Mt_clear (l : Launch) (D : va_G) (a : Nat → Nat) (c9 : Nat → ClassId) (sz : Nat) {σ : kS} {r9 : Int32} {σo : kS} (h : M_Mt_clear σ  = some (r9, σo)) : Met l y_Mt_clear (Cond.code y_Mt_clear c_Mt_clear 1 none :: kG) rm_Mt_clear (k_Pc D a c9 sz σ [.ref (a 5)]) (k_Qv D a c9 σo (k_A a c9 σ sz)) 0 0 (k_A a c9 σ sz) :=
  k_met (Qf := k_Qv D a c9 σo) (by decide) (Nat.le_of_ble_eq_true rfl) (fun p e s m args below meth c A ls C0 hP hD hS hl => B_Mt_clear_0 C0 σ  s.heap [] ls hP hD hS hl h)
def rm_Mt_keptCount : Room := { frames := 0, cells := 0, slots := 0, locals := 0 }
def M_Mt_keptCount (σ : kS) : Option (Int32 × kS) := some (σ.1 9, σ)
set_option maxHeartbeats 4000000 in
set_option maxRecDepth 100000 in
theorem B_Mt_keptCount_0 {p : Program} {l : Launch} {e : Env} {s : State} {m : MethodId} {args : Array Value} {below : List Frame} {meth : Method} {c : Code} {D : va_G} {a : Nat → Nat} {c9 : Nat → ClassId} {A : Nat → Prop} {r9 : Int32} {σo : kS} (C0 : k_Cx D c9 p s m args meth c R_Mt c_Mt_keptCount 1 (some .int) A) (σ : kS) (H : Heap) (locs : List Loc) (ls : Array Slot) (hP : va_P D kcl (kw a c9 σ) H) (hD : va_D A (kw a c9 σ)) (hS : va_S A s.heap H locs) (hl : lv_has ls 1 [(0, .ref (a 5))]) (h : M_Mt_keptCount σ  = some (r9, σo)) : W p l e rm_Mt_keptCount s m args below meth c H locs 0 0 (MQ below (k_Qi D a c9 r9 σo A) args s 0 0 A) (F0 m 0 ls []) := by
  obtain ⟨hx, hb, hml, hown, hts, hr, hlk, hK, hN, hA⟩ := id C0
  unfold M_Mt_keptCount at h
  refine lv_aload_n hx hb d_Mt_keptCount_0 rfl (lv_at hl 0 rfl) ?_
  refine va_get (ci := 3) (C := R_Mt) (T := T_Mt) (N := 3) hx hb hts in_Mt hown hK hP 5 kw_5 rfl 0 (by decide) (hts _ q_124) (fun _ h9 => h9) rfl d_Mt_keptCount_1 ?_
  cases h
  exact k_iret hx hb hr hlk hP hS d_Mt_keptCount_4
theorem K_Mt_keptCount (l : Launch) (D : va_G) (a : Nat → Nat) (c9 : Nat → ClassId) (sz : Nat) {σ : kS} {r9 : Int32} {σo : kS} (h : M_Mt_keptCount σ  = some (r9, σo)) : Met l y_Mt_keptCount (Cond.code y_Mt_keptCount c_Mt_keptCount 1 (some .int) :: kG) rm_Mt_keptCount (k_Pc D a c9 sz σ [.ref (a 5)]) (k_Qi D a c9 r9 σo (k_A a c9 σ sz)) 0 0 (k_A a c9 σ sz) :=
  k_met (Qf := k_Qi D a c9 r9 σo) (by decide) (Nat.le_of_ble_eq_true rfl) (fun p e s m args below meth c A ls C0 hP hD hS hl => B_Mt_keptCount_0 C0 σ  s.heap [] ls hP hD hS hl h)
def rm_Mt_lengthOf : Room := { frames := 0, cells := 0, slots := 0, locals := 0 }
def M_Mt_lengthOf (σ : kS) (x1 x2 : Int32) : Option (Int32 × kS) := k_ld (σ.2.1 24) 160 (((x1 * 8) + x2)) fun v1 => some (v1, σ)
set_option maxHeartbeats 4000000 in
set_option maxRecDepth 100000 in
theorem B_Mt_lengthOf_0 {p : Program} {l : Launch} {e : Env} {s : State} {m : MethodId} {args : Array Value} {below : List Frame} {meth : Method} {c : Code} {D : va_G} {a : Nat → Nat} {c9 : Nat → ClassId} {A : Nat → Prop} {r9 : Int32} {σo : kS} (C0 : k_Cx D c9 p s m args meth c R_Mt c_Mt_lengthOf 3 (some .int) A) (σ : kS) (x1 x2 : Int32) (H : Heap) (locs : List Loc) (ls : Array Slot) (hP : va_P D kcl (kw a c9 σ) H) (hD : va_D A (kw a c9 σ)) (hS : va_S A s.heap H locs) (hl : lv_has ls 3 [(0, .ref (a 5)), (1, .int x1), (2, .int x2)]) (h : M_Mt_lengthOf σ x1 x2 = some (r9, σo)) : W p l e rm_Mt_lengthOf s m args below meth c H locs 0 0 (MQ below (k_Qi D a c9 r9 σo A) args s 0 0 A) (F0 m 0 ls []) := by
  obtain ⟨hx, hb, hml, hown, hts, hr, hlk, hK, hN, hA⟩ := id C0
  unfold M_Mt_lengthOf at h
  refine lv_aload_n hx hb d_Mt_lengthOf_0 rfl (lv_at hl 0 rfl) ?_
  refine va_get (ci := 3) (C := R_Mt) (T := T_Mt) (N := 3) hx hb hts in_Mt hown hK hP 5 kw_5 rfl 1 (by decide) (hts _ q_125) (fun _ h9 => h9) rfl d_Mt_lengthOf_1 ?_
  refine lv_iload_n hx hb d_Mt_lengthOf_4 rfl (lv_at hl 1 rfl) ?_
  refine lv_bipush (v := 8) hx hb d_Mt_lengthOf_5 (by decide) ?_
  refine lv_imul hx hb d_Mt_lengthOf_7 ?_
  refine lv_iload_n hx hb d_Mt_lengthOf_8 rfl (lv_at hl 2 rfl) ?_
  refine lv_iadd hx hb d_Mt_lengthOf_9 ?_
  obtain ⟨v1, ev1, hv1, h⟩ := k_ld_e h
  refine va_iald hx hb hK hP 31 0 kw_31 rfl hv1 d_Mt_lengthOf_10 (k_top ev1 ?_)
  cases h
  exact k_iret hx hb hr hlk hP hS d_Mt_lengthOf_11
theorem K_Mt_lengthOf (l : Launch) (D : va_G) (a : Nat → Nat) (c9 : Nat → ClassId) (sz : Nat) {σ : kS} {x1 x2 : Int32} {r9 : Int32} {σo : kS} (h : M_Mt_lengthOf σ x1 x2 = some (r9, σo)) : Met l y_Mt_lengthOf (Cond.code y_Mt_lengthOf c_Mt_lengthOf 3 (some .int) :: kG) rm_Mt_lengthOf (k_Pc D a c9 sz σ [.ref (a 5), .int x1, .int x2]) (k_Qi D a c9 r9 σo (k_A a c9 σ sz)) 0 0 (k_A a c9 σ sz) :=
  k_met (Qf := k_Qi D a c9 r9 σo) (by decide) (Nat.le_of_ble_eq_true rfl) (fun p e s m args below meth c A ls C0 hP hD hS hl => B_Mt_lengthOf_0 C0 σ x1 x2 s.heap [] ls hP hD hS hl h)
def rm_Mt_treeOf : Room := { frames := 1, cells := 0, slots := 0, locals := 22 }
def M_Mt_treeOf (σ : kS) (x1 x2 x3 : Int32) : Option (Int32 × kS) := if x3 < 0 then (some ((-1), σ)) else (k_call (M_Mt_lengthOf σ x1 x2) fun v2 σ3 => if x3 < v2 then (k_ld (σ3.2.1 25) 1920 ((((x1 * 96) + (x2 * 12)) + x3)) fun v6 => some (v6, σ3)) else (some ((-1), σ3)))
set_option maxHeartbeats 4000000 in
set_option maxRecDepth 100000 in
theorem B_Mt_treeOf_0 {p : Program} {l : Launch} {e : Env} {s : State} {m : MethodId} {args : Array Value} {below : List Frame} {meth : Method} {c : Code} {D : va_G} {a : Nat → Nat} {c9 : Nat → ClassId} {A : Nat → Prop} {r9 : Int32} {σo : kS} (C0 : k_Cx D c9 p s m args meth c R_Mt c_Mt_treeOf 4 (some .int) A) (σ : kS) (x1 x2 x3 : Int32) (H : Heap) (locs : List Loc) (ls : Array Slot) (hP : va_P D kcl (kw a c9 σ) H) (hD : va_D A (kw a c9 σ)) (hS : va_S A s.heap H locs) (hl : lv_has ls 4 [(0, .ref (a 5)), (1, .int x1), (2, .int x2), (3, .int x3)]) (h : M_Mt_treeOf σ x1 x2 x3 = some (r9, σo)) : W p l e rm_Mt_treeOf s m args below meth c H locs 0 0 (MQ below (k_Qi D a c9 r9 σo A) args s 0 0 A) (F0 m 0 ls []) := by
  obtain ⟨hx, hb, hml, hown, hts, hr, hlk, hK, hN, hA⟩ := id C0
  unfold M_Mt_treeOf at h
  refine lv_iload_n hx hb d_Mt_treeOf_0 rfl (lv_at hl 3 rfl) ?_
  refine lv_if_lt (tgt := 14) hx hb d_Mt_treeOf_1 (by decide) (fun cn1 => ?_) (fun cn1 => ?_)
  · replace h := (if_pos cn1).symm.trans h
    refine lv_iconst (v := (-1)) hx hb d_Mt_treeOf_14 (by decide) ?_
    cases h
    exact k_iret hx hb hr hlk hP hS d_Mt_treeOf_15
  · replace h := (if_neg cn1).symm.trans h
    refine lv_iload_n hx hb d_Mt_treeOf_4 rfl (lv_at hl 3 rfl) ?_
    refine lv_aload_n hx hb d_Mt_treeOf_5 rfl (lv_at hl 0 rfl) ?_
    refine lv_iload_n hx hb d_Mt_treeOf_6 rfl (lv_at hl 1 rfl) ?_
    refine lv_iload_n hx hb d_Mt_treeOf_7 rfl (lv_at hl 2 rfl) ?_
    obtain ⟨v2, σ3, hc4, h⟩ := k_call_e h
    refine k_calli (va_runV (As := [.int x1, .int x2]) (rest := [.int x3]) ⟨hx, hb, hml, hown, hts⟩ (K_Mt_lengthOf l D a c9 H.size hc4) (cwV 2 hts (k_gV q_629 q_630 q_631 q_6 q_632) rfl rfl rfl h_Mt_lengthOf ⟨Nat.le_of_ble_eq_true rfl, Nat.le_of_ble_eq_true rfl⟩) (k_preV (ci := 3) (q0 := 5) rfl kw_5 hP hK hN hD) rfl rfl hl.1 rfl (lv_room (Nat.le_of_ble_eq_true rfl)) d_Mt_treeOf_8 ⟨Nat.zero_le _, Nat.zero_le _⟩) hD hS hA (fun H locs hP hD hS => ?_)
    refine lv_icmp_lt (tgt := 16) hx hb d_Mt_treeOf_11 (by decide) (fun cn5 => ?_) (fun cn5 => ?_)
    · replace h := (if_pos cn5).symm.trans h
      refine lv_aload_n hx hb d_Mt_treeOf_16 rfl (lv_at hl 0 rfl) ?_
      refine va_get (ci := 3) (C := R_Mt) (T := T_Mt) (N := 3) hx hb hts in_Mt hown hK hP 5 kw_5 rfl 2 (by decide) (hts _ q_126) (fun _ h9 => h9) rfl d_Mt_treeOf_17 ?_
      refine lv_iload_n hx hb d_Mt_treeOf_20 rfl (lv_at hl 1 rfl) ?_
      refine lv_bipush (v := 96) hx hb d_Mt_treeOf_21 (by decide) ?_
      refine lv_imul hx hb d_Mt_treeOf_23 ?_
      refine lv_iload_n hx hb d_Mt_treeOf_24 rfl (lv_at hl 2 rfl) ?_
      refine lv_bipush (v := 12) hx hb d_Mt_treeOf_25 (by decide) ?_
      refine lv_imul hx hb d_Mt_treeOf_27 ?_
      refine lv_iadd hx hb d_Mt_treeOf_28 ?_
      refine lv_iload_n hx hb d_Mt_treeOf_29 rfl (lv_at hl 3 rfl) ?_
      refine lv_iadd hx hb d_Mt_treeOf_30 ?_
      obtain ⟨v6, ev6, hv6, h⟩ := k_ld_e h
      refine va_iald hx hb hK hP 32 0 kw_32 rfl hv6 d_Mt_treeOf_31 (k_top ev6 ?_)
      cases h
      exact k_iret hx hb hr hlk hP hS d_Mt_treeOf_32
    · replace h := (if_neg cn5).symm.trans h
      refine lv_iconst (v := (-1)) hx hb d_Mt_treeOf_14 (by decide) ?_
      cases h
      exact k_iret hx hb hr hlk hP hS d_Mt_treeOf_15
theorem K_Mt_treeOf (l : Launch) (D : va_G) (a : Nat → Nat) (c9 : Nat → ClassId) (sz : Nat) {σ : kS} {x1 x2 x3 : Int32} {r9 : Int32} {σo : kS} (h : M_Mt_treeOf σ x1 x2 x3 = some (r9, σo)) : Met l y_Mt_treeOf (Cond.code y_Mt_treeOf c_Mt_treeOf 4 (some .int) :: kG) rm_Mt_treeOf (k_Pc D a c9 sz σ [.ref (a 5), .int x1, .int x2, .int x3]) (k_Qi D a c9 r9 σo (k_A a c9 σ sz)) 0 0 (k_A a c9 σ sz) :=
  k_met (Qf := k_Qi D a c9 r9 σo) (by decide) (Nat.le_of_ble_eq_true rfl) (fun p e s m args below meth c A ls C0 hP hD hS hl => B_Mt_treeOf_0 C0 σ x1 x2 x3 s.heap [] ls hP hD hS hl h)
def rm_Mt_keep : Room := { frames := 1, cells := 0, slots := 0, locals := 64 }
def M_Mt_keep (σ : kS) : Option (Int32 × kS) := if 20 ≤ σ.1 9 then (some (0, σ)) else (k_cp σ 21 8 24 160 (0) ((σ.1 9 * 8)) (8) fun σ2 => k_cp σ2 22 96 25 1920 (0) ((σ2.1 9 * 96)) (96) fun σ3 => k_set σ3 9 ((σ3.1 9 + 1)) fun σ4 => some (0, σ4))
set_option maxHeartbeats 4000000 in
set_option maxRecDepth 100000 in
theorem B_Mt_keep_0 {p : Program} {l : Launch} {e : Env} {s : State} {m : MethodId} {args : Array Value} {below : List Frame} {meth : Method} {c : Code} {D : va_G} {a : Nat → Nat} {c9 : Nat → ClassId} {A : Nat → Prop} {r9 : Int32} {σo : kS} (C0 : k_Cx D c9 p s m args meth c R_Mt c_Mt_keep 2 none A) (σ : kS) (H : Heap) (locs : List Loc) (ls : Array Slot) (hP : va_P D kcl (kw a c9 σ) H) (hD : va_D A (kw a c9 σ)) (hS : va_S A s.heap H locs) (hl : lv_has ls 2 [(0, .ref (a 5)), (1, .ref (a 4))]) (h : M_Mt_keep σ  = some (r9, σo)) : W p l e rm_Mt_keep s m args below meth c H locs 0 0 (MQ below (k_Qv D a c9 σo A) args s 0 0 A) (F0 m 0 ls []) := by
  obtain ⟨hx, hb, hml, hown, hts, hr, hlk, hK, hN, hA⟩ := id C0
  unfold M_Mt_keep at h
  refine lv_aload_n hx hb d_Mt_keep_0 rfl (lv_at hl 0 rfl) ?_
  refine va_get (ci := 3) (C := R_Mt) (T := T_Mt) (N := 3) hx hb hts in_Mt hown hK hP 5 kw_5 rfl 0 (by decide) (hts _ q_124) (fun _ h9 => h9) rfl d_Mt_keep_1 ?_
  refine lv_bipush (v := 20) hx hb d_Mt_keep_4 (by decide) ?_
  refine lv_icmp_ge (tgt := 61) hx hb d_Mt_keep_6 (by decide) (fun cn1 => ?_) (fun cn1 => ?_)
  · replace h := (if_pos cn1).symm.trans h
    cases h
    exact k_vret hx hb hr hlk hP hS d_Mt_keep_61
  · replace h := (if_neg cn1).symm.trans h
    refine lv_aload_n hx hb d_Mt_keep_9 rfl (lv_at hl 1 rfl) ?_
    refine va_getN (ci := 4) (C := R_Nm) (T := T_Nm) (N := 3) hx hb hts in_Nm hown hK hP 4 kw_4 rfl 0 (by decide) (va_Nw.use rfl hN.1) (fun _ h9 => h9) rfl d_Mt_keep_10 ?_
    refine lv_iconst (v := 0) hx hb d_Mt_keep_13 (by decide) ?_
    refine lv_aload_n hx hb d_Mt_keep_14 rfl (lv_at hl 0 rfl) ?_
    refine va_get (ci := 3) (C := R_Mt) (T := T_Mt) (N := 3) hx hb hts in_Mt hown hK hP 5 kw_5 rfl 1 (by decide) (hts _ q_125) (fun _ h9 => h9) rfl d_Mt_keep_15 ?_
    refine lv_aload_n hx hb d_Mt_keep_18 rfl (lv_at hl 0 rfl) ?_
    refine va_get (ci := 3) (C := R_Mt) (T := T_Mt) (N := 3) hx hb hts in_Mt hown hK hP 5 kw_5 rfl 0 (by decide) (hts _ q_124) (fun _ h9 => h9) rfl d_Mt_keep_19 ?_
    refine lv_bipush (v := 8) hx hb d_Mt_keep_22 (by decide) ?_
    refine lv_imul hx hb d_Mt_keep_24 ?_
    refine lv_bipush (v := 8) hx hb d_Mt_keep_25 (by decide) ?_
    obtain ⟨σ2, eσ2, hq1, hq2, hq3, hq4, hq5, h⟩ := k_cp_e h
    refine va_copyi hx hb (hml.trans hl.1.symm) hown (hts _ q_604) (hts _ q_570) (hts _ q_569) (hts _ q_18) hK hP hD hS 28 31 0 0 kw_28 kw_31 rfl rfl rfl hq1 hq2 hq3 hq4 hq5 (fun _ _ => rfl) (Nat.le_of_ble_eq_true rfl) (by decide) d_Mt_keep_27 (fun H locs hP hD hS => ?_)
    replace hP := k_mvP (kw_s31.trans (congrArg _ eσ2.symm)) hP
    replace hD := k_mvD (kw_s31.trans (congrArg _ eσ2.symm)) hD
    refine lv_aload_n hx hb d_Mt_keep_30 rfl (lv_at hl 1 rfl) ?_
    refine va_getN (ci := 4) (C := R_Nm) (T := T_Nm) (N := 3) hx hb hts in_Nm hown hK hP 4 kw_4 rfl 1 (by decide) (va_Nw.use rfl hN.2) (fun _ h9 => h9) rfl d_Mt_keep_31 ?_
    refine lv_iconst (v := 0) hx hb d_Mt_keep_34 (by decide) ?_
    refine lv_aload_n hx hb d_Mt_keep_35 rfl (lv_at hl 0 rfl) ?_
    refine va_get (ci := 3) (C := R_Mt) (T := T_Mt) (N := 3) hx hb hts in_Mt hown hK hP 5 kw_5 rfl 2 (by decide) (hts _ q_126) (fun _ h9 => h9) rfl d_Mt_keep_36 ?_
    refine lv_aload_n hx hb d_Mt_keep_39 rfl (lv_at hl 0 rfl) ?_
    refine va_get (ci := 3) (C := R_Mt) (T := T_Mt) (N := 3) hx hb hts in_Mt hown hK hP 5 kw_5 rfl 0 (by decide) (hts _ q_124) (fun _ h9 => h9) rfl d_Mt_keep_40 ?_
    refine lv_bipush (v := 96) hx hb d_Mt_keep_43 (by decide) ?_
    refine lv_imul hx hb d_Mt_keep_45 ?_
    refine lv_bipush (v := 96) hx hb d_Mt_keep_46 (by decide) ?_
    obtain ⟨σ3, eσ3, hq1, hq2, hq3, hq4, hq5, h⟩ := k_cp_e h
    refine va_copyi hx hb (hml.trans hl.1.symm) hown (hts _ q_604) (hts _ q_570) (hts _ q_569) (hts _ q_18) hK hP hD hS 29 32 0 0 kw_29 kw_32 rfl rfl rfl hq1 hq2 hq3 hq4 hq5 (fun _ _ => rfl) (Nat.le_of_ble_eq_true rfl) (by decide) d_Mt_keep_48 (fun H locs hP hD hS => ?_)
    replace hP := k_mvP (kw_s32.trans (congrArg _ eσ3.symm)) hP
    replace hD := k_mvD (kw_s32.trans (congrArg _ eσ3.symm)) hD
    refine lv_aload_n hx hb d_Mt_keep_51 rfl (lv_at hl 0 rfl) ?_
    refine lv_dup hx hb d_Mt_keep_52 rfl ?_
    refine va_get (ci := 3) (C := R_Mt) (T := T_Mt) (N := 3) hx hb hts in_Mt hown hK hP 5 kw_5 rfl 0 (by decide) (hts _ q_124) (fun _ h9 => h9) rfl d_Mt_keep_53 ?_
    refine lv_iconst (v := 1) hx hb d_Mt_keep_56 (by decide) ?_
    refine lv_iadd hx hb d_Mt_keep_57 ?_
    obtain ⟨σ4, eσ4, h⟩ := k_set_e h
    refine va_put (ci := 3) (v := .int ((σ3.1 9 + 1))) (ty := .int) (C := R_Mt) (T := T_Mt) (N := 3) hx hb hts in_Mt t_Mt t_Mt_ok n_Mt hown hK hP hD hS 5 kw_5 rfl 0 (by decide) (hts _ q_124) (fun _ h9 => h9) rfl (by decide +kernel) rfl rfl (Nat.le_of_ble_eq_true rfl) d_Mt_keep_58 (fun H locs hP hD hS => ?_)
    replace hP := k_mvP (kw_f5_0.trans (congrArg _ eσ4.symm)) hP
    replace hD := k_mvD (kw_f5_0.trans (congrArg _ eσ4.symm)) hD
    cases h
    exact k_vret hx hb hr hlk hP hS d_Mt_keep_61
theorem K_Mt_keep (l : Launch) (D : va_G) (a : Nat → Nat) (c9 : Nat → ClassId) (sz : Nat) {σ : kS} {r9 : Int32} {σo : kS} (h : M_Mt_keep σ  = some (r9, σo)) : Met l y_Mt_keep (Cond.code y_Mt_keep c_Mt_keep 2 none :: kG) rm_Mt_keep (k_Pc D a c9 sz σ [.ref (a 5), .ref (a 4)]) (k_Qv D a c9 σo (k_A a c9 σ sz)) 0 0 (k_A a c9 σ sz) :=
  k_met (Qf := k_Qv D a c9 σo) (by decide) (Nat.le_of_ble_eq_true rfl) (fun p e s m args below meth c A ls C0 hP hD hS hl => B_Mt_keep_0 C0 σ  s.heap [] ls hP hD hS hl h)
def rm_Ar_fill_28 : Room := { frames := 0, cells := 0, slots := 0, locals := 0 }
def M_Ar_fill_28_5_b (self9 : kS → Int32 → Int32 → Int32 → Option (Int32 × kS)) (σ : kS) (x1 x2 x3 : Int32) : Option (Int32 × kS) := if x3 ≤ x2 then (some (0, σ)) else (k_st σ 21 8 (x2) (x1) fun σ2 => k_let (x2 + 1) fun v3 => self9 σ2 x1 v3 x3)
def M_Ar_fill_28_5 : Nat → kS → Int32 → Int32 → Int32 → Option (Int32 × kS)
  | 0 => fun _ _ _ _ => none
  | n + 1 => M_Ar_fill_28_5_b (M_Ar_fill_28_5 n)
set_option maxHeartbeats 4000000 in
set_option maxRecDepth 100000 in
theorem B_Ar_fill_28_5 {p : Program} {l : Launch} {e : Env} {s : State} {m : MethodId} {args : Array Value} {below : List Frame} {meth : Method} {c : Code} {D : va_G} {a : Nat → Nat} {c9 : Nat → ClassId} {A : Nat → Prop} {r9 : Int32} {σo : kS} (C0 : k_Cx D c9 p s m args meth c R_Ar c_Ar_fill 4 none A) : ∀ (n : Nat) (σ : kS) (x1 x2 x3 : Int32) (H : Heap) (locs : List Loc) (ls : Array Slot), va_P D kcl (kw a c9 σ) H → va_D A (kw a c9 σ) → va_S A s.heap H locs → lv_has ls 4 [(0, .ref (a 28)), (1, .int x1), (2, .int x2), (3, .int x3)] → M_Ar_fill_28_5 n σ x1 x2 x3 = some (r9, σo) → W p l e rm_Ar_fill_28 s m args below meth c H locs 0 0 (MQ below (k_Qv D a c9 σo A) args s 0 0 A) (F0 m 5 ls []) := by
  obtain ⟨hx, hb, hml, hown, hts, hr, hlk, hK, hN, hA⟩ := id C0
  intro n
  induction n with
  | zero =>
    intro σ x1 x2 x3 H locs ls hP hD hS hl h
    replace h : (none : Option (Int32 × kS)) = some (r9, σo) := h
    cases h
  | succ n ih =>
    intro σ x1 x2 x3 H locs ls hP hD hS hl h
    replace h : M_Ar_fill_28_5_b (M_Ar_fill_28_5 n) σ x1 x2 x3 = some (r9, σo) := h
    unfold M_Ar_fill_28_5_b at h
    refine lv_iload_n hx hb d_Ar_fill_5 rfl (lv_at hl 2 rfl) ?_
    refine lv_iload_n hx hb d_Ar_fill_6 rfl (lv_at hl 3 rfl) ?_
    refine lv_icmp_ge (tgt := 20) hx hb d_Ar_fill_7 (by decide) (fun cn1 => ?_) (fun cn1 => ?_)
    · replace h := (if_pos cn1).symm.trans h
      cases h
      exact k_vret hx hb hr hlk hP hS d_Ar_fill_20
    · replace h := (if_neg cn1).symm.trans h
      refine lv_aload_n hx hb d_Ar_fill_10 rfl (lv_at hl 0 rfl) ?_
      refine lv_iload_n hx hb d_Ar_fill_11 rfl (lv_at hl 2 rfl) ?_
      refine lv_iload_n hx hb d_Ar_fill_12 rfl (lv_at hl 1 rfl) ?_
      obtain ⟨σ2, eσ2, hiσ2, h⟩ := k_st_e h
      refine va_iast hx hb hK hP hD hS 28 0 kw_28 rfl hiσ2 d_Ar_fill_13 (fun H locs hP hD hS => ?_)
      replace hP := k_mvP (kw_s28.trans (congrArg _ eσ2.symm)) hP
      replace hD := k_mvD (kw_s28.trans (congrArg _ eσ2.symm)) hD
      obtain ⟨v3, ev3, h⟩ := k_let_e h
      refine lv_iinc (v := v3) (lv' := [(2, .int v3), (0, .ref (a 28)), (1, .int x1), (3, .int x3)]) hx hb d_Ar_fill_14 hl (k := 2) rfl (by rw [ev3]; rfl) (by decide) rfl (fun ls hl => ?_)
      refine lv_goto (tgt := 5) hx hb d_Ar_fill_17 (by decide) ?_
      exact ih _ _ _ _ H locs ls hP hD hS (lv_sub hl [1, 2, 0, 3] rfl) h
def M_Ar_fill_28 (σ : kS) (x1 : Int32) : Option (Int32 × kS) := M_Ar_fill_28_5 k_fu σ x1 0 8
set_option maxHeartbeats 4000000 in
set_option maxRecDepth 100000 in
theorem B_Ar_fill_28_0 {p : Program} {l : Launch} {e : Env} {s : State} {m : MethodId} {args : Array Value} {below : List Frame} {meth : Method} {c : Code} {D : va_G} {a : Nat → Nat} {c9 : Nat → ClassId} {A : Nat → Prop} {r9 : Int32} {σo : kS} (C0 : k_Cx D c9 p s m args meth c R_Ar c_Ar_fill 4 none A) (σ : kS) (x1 : Int32) (H : Heap) (locs : List Loc) (ls : Array Slot) (hP : va_P D kcl (kw a c9 σ) H) (hD : va_D A (kw a c9 σ)) (hS : va_S A s.heap H locs) (hl : lv_has ls 4 [(0, .ref (a 28)), (1, .int x1)]) (h : M_Ar_fill_28 σ x1 = some (r9, σo)) : W p l e rm_Ar_fill_28 s m args below meth c H locs 0 0 (MQ below (k_Qv D a c9 σo A) args s 0 0 A) (F0 m 0 ls []) := by
  obtain ⟨hx, hb, hml, hown, hts, hr, hlk, hK, hN, hA⟩ := id C0
  unfold M_Ar_fill_28 at h
  refine lv_iconst (v := 0) hx hb d_Ar_fill_0 (by decide) ?_
  refine lv_istore_n (lv' := [(2, .int 0), (0, .ref (a 28)), (1, .int x1)]) hx hb d_Ar_fill_1 rfl hl (by decide) rfl (fun ls hl => ?_)
  refine lv_aload_n hx hb d_Ar_fill_2 rfl (lv_at hl 1 rfl) ?_
  refine va_alen hx hb hK hP 28 0 kw_28 rfl (v := 8) rfl d_Ar_fill_3 ?_
  refine lv_istore_n (lv' := [(3, .int 8), (2, .int 0), (0, .ref (a 28)), (1, .int x1)]) hx hb d_Ar_fill_4 rfl hl (by decide) rfl (fun ls hl => ?_)
  exact B_Ar_fill_28_5 C0 k_fu _ _ _ _ H locs ls hP hD hS (lv_sub hl [2, 3, 1, 0] rfl) h
theorem K_Ar_fill_28 (l : Launch) (D : va_G) (a : Nat → Nat) (c9 : Nat → ClassId) (sz : Nat) {σ : kS} {x1 : Int32} {r9 : Int32} {σo : kS} (h : M_Ar_fill_28 σ x1 = some (r9, σo)) : Met l y_Ar_fill (Cond.code y_Ar_fill c_Ar_fill 4 none :: kG) rm_Ar_fill_28 (k_Pc D a c9 sz σ [.ref (a 28), .int x1]) (k_Qv D a c9 σo (k_A a c9 σ sz)) 0 0 (k_A a c9 σ sz) :=
  k_met (Qf := k_Qv D a c9 σo) (by decide) (Nat.le_of_ble_eq_true rfl) (fun p e s m args below meth c A ls C0 hP hD hS hl => B_Ar_fill_28_0 C0 σ x1 s.heap [] ls hP hD hS hl h)
def rm_Ar_fill_30 : Room := { frames := 0, cells := 0, slots := 0, locals := 0 }
def M_Ar_fill_30_5_b (self9 : kS → Int32 → Int32 → Int32 → Option (Int32 × kS)) (σ : kS) (x1 x2 x3 : Int32) : Option (Int32 × kS) := if x3 ≤ x2 then (some (0, σ)) else (k_st σ 23 8 (x2) (x1) fun σ2 => k_let (x2 + 1) fun v3 => self9 σ2 x1 v3 x3)
def M_Ar_fill_30_5 : Nat → kS → Int32 → Int32 → Int32 → Option (Int32 × kS)
  | 0 => fun _ _ _ _ => none
  | n + 1 => M_Ar_fill_30_5_b (M_Ar_fill_30_5 n)
set_option maxHeartbeats 4000000 in
set_option maxRecDepth 100000 in
theorem B_Ar_fill_30_5 {p : Program} {l : Launch} {e : Env} {s : State} {m : MethodId} {args : Array Value} {below : List Frame} {meth : Method} {c : Code} {D : va_G} {a : Nat → Nat} {c9 : Nat → ClassId} {A : Nat → Prop} {r9 : Int32} {σo : kS} (C0 : k_Cx D c9 p s m args meth c R_Ar c_Ar_fill 4 none A) : ∀ (n : Nat) (σ : kS) (x1 x2 x3 : Int32) (H : Heap) (locs : List Loc) (ls : Array Slot), va_P D kcl (kw a c9 σ) H → va_D A (kw a c9 σ) → va_S A s.heap H locs → lv_has ls 4 [(0, .ref (a 30)), (1, .int x1), (2, .int x2), (3, .int x3)] → M_Ar_fill_30_5 n σ x1 x2 x3 = some (r9, σo) → W p l e rm_Ar_fill_30 s m args below meth c H locs 0 0 (MQ below (k_Qv D a c9 σo A) args s 0 0 A) (F0 m 5 ls []) := by
  obtain ⟨hx, hb, hml, hown, hts, hr, hlk, hK, hN, hA⟩ := id C0
  intro n
  induction n with
  | zero =>
    intro σ x1 x2 x3 H locs ls hP hD hS hl h
    replace h : (none : Option (Int32 × kS)) = some (r9, σo) := h
    cases h
  | succ n ih =>
    intro σ x1 x2 x3 H locs ls hP hD hS hl h
    replace h : M_Ar_fill_30_5_b (M_Ar_fill_30_5 n) σ x1 x2 x3 = some (r9, σo) := h
    unfold M_Ar_fill_30_5_b at h
    refine lv_iload_n hx hb d_Ar_fill_5 rfl (lv_at hl 2 rfl) ?_
    refine lv_iload_n hx hb d_Ar_fill_6 rfl (lv_at hl 3 rfl) ?_
    refine lv_icmp_ge (tgt := 20) hx hb d_Ar_fill_7 (by decide) (fun cn1 => ?_) (fun cn1 => ?_)
    · replace h := (if_pos cn1).symm.trans h
      cases h
      exact k_vret hx hb hr hlk hP hS d_Ar_fill_20
    · replace h := (if_neg cn1).symm.trans h
      refine lv_aload_n hx hb d_Ar_fill_10 rfl (lv_at hl 0 rfl) ?_
      refine lv_iload_n hx hb d_Ar_fill_11 rfl (lv_at hl 2 rfl) ?_
      refine lv_iload_n hx hb d_Ar_fill_12 rfl (lv_at hl 1 rfl) ?_
      obtain ⟨σ2, eσ2, hiσ2, h⟩ := k_st_e h
      refine va_iast hx hb hK hP hD hS 30 0 kw_30 rfl hiσ2 d_Ar_fill_13 (fun H locs hP hD hS => ?_)
      replace hP := k_mvP (kw_s30.trans (congrArg _ eσ2.symm)) hP
      replace hD := k_mvD (kw_s30.trans (congrArg _ eσ2.symm)) hD
      obtain ⟨v3, ev3, h⟩ := k_let_e h
      refine lv_iinc (v := v3) (lv' := [(2, .int v3), (0, .ref (a 30)), (1, .int x1), (3, .int x3)]) hx hb d_Ar_fill_14 hl (k := 2) rfl (by rw [ev3]; rfl) (by decide) rfl (fun ls hl => ?_)
      refine lv_goto (tgt := 5) hx hb d_Ar_fill_17 (by decide) ?_
      exact ih _ _ _ _ H locs ls hP hD hS (lv_sub hl [1, 2, 0, 3] rfl) h
def M_Ar_fill_30 (σ : kS) (x1 : Int32) : Option (Int32 × kS) := M_Ar_fill_30_5 k_fu σ x1 0 8
set_option maxHeartbeats 4000000 in
set_option maxRecDepth 100000 in
theorem B_Ar_fill_30_0 {p : Program} {l : Launch} {e : Env} {s : State} {m : MethodId} {args : Array Value} {below : List Frame} {meth : Method} {c : Code} {D : va_G} {a : Nat → Nat} {c9 : Nat → ClassId} {A : Nat → Prop} {r9 : Int32} {σo : kS} (C0 : k_Cx D c9 p s m args meth c R_Ar c_Ar_fill 4 none A) (σ : kS) (x1 : Int32) (H : Heap) (locs : List Loc) (ls : Array Slot) (hP : va_P D kcl (kw a c9 σ) H) (hD : va_D A (kw a c9 σ)) (hS : va_S A s.heap H locs) (hl : lv_has ls 4 [(0, .ref (a 30)), (1, .int x1)]) (h : M_Ar_fill_30 σ x1 = some (r9, σo)) : W p l e rm_Ar_fill_30 s m args below meth c H locs 0 0 (MQ below (k_Qv D a c9 σo A) args s 0 0 A) (F0 m 0 ls []) := by
  obtain ⟨hx, hb, hml, hown, hts, hr, hlk, hK, hN, hA⟩ := id C0
  unfold M_Ar_fill_30 at h
  refine lv_iconst (v := 0) hx hb d_Ar_fill_0 (by decide) ?_
  refine lv_istore_n (lv' := [(2, .int 0), (0, .ref (a 30)), (1, .int x1)]) hx hb d_Ar_fill_1 rfl hl (by decide) rfl (fun ls hl => ?_)
  refine lv_aload_n hx hb d_Ar_fill_2 rfl (lv_at hl 1 rfl) ?_
  refine va_alen hx hb hK hP 30 0 kw_30 rfl (v := 8) rfl d_Ar_fill_3 ?_
  refine lv_istore_n (lv' := [(3, .int 8), (2, .int 0), (0, .ref (a 30)), (1, .int x1)]) hx hb d_Ar_fill_4 rfl hl (by decide) rfl (fun ls hl => ?_)
  exact B_Ar_fill_30_5 C0 k_fu _ _ _ _ H locs ls hP hD hS (lv_sub hl [2, 3, 1, 0] rfl) h
theorem K_Ar_fill_30 (l : Launch) (D : va_G) (a : Nat → Nat) (c9 : Nat → ClassId) (sz : Nat) {σ : kS} {x1 : Int32} {r9 : Int32} {σo : kS} (h : M_Ar_fill_30 σ x1 = some (r9, σo)) : Met l y_Ar_fill (Cond.code y_Ar_fill c_Ar_fill 4 none :: kG) rm_Ar_fill_30 (k_Pc D a c9 sz σ [.ref (a 30), .int x1]) (k_Qv D a c9 σo (k_A a c9 σ sz)) 0 0 (k_A a c9 σ sz) :=
  k_met (Qf := k_Qv D a c9 σo) (by decide) (Nat.le_of_ble_eq_true rfl) (fun p e s m args below meth c A ls C0 hP hD hS hl => B_Ar_fill_30_0 C0 σ x1 s.heap [] ls hP hD hS hl h)
def rm_Nm_clear : Room := { frames := 1, cells := 0, slots := 0, locals := 23 }
def M_Nm_clear (σ : kS) : Option (Int32 × kS) := k_call (M_Ar_fill_28 σ (-1)) fun _ σ2 => k_call (M_Ar_fill_30 σ2 (-1)) fun _ σ5 => some (0, σ5)
set_option maxHeartbeats 4000000 in
set_option maxRecDepth 100000 in
theorem B_Nm_clear_0 {p : Program} {l : Launch} {e : Env} {s : State} {m : MethodId} {args : Array Value} {below : List Frame} {meth : Method} {c : Code} {D : va_G} {a : Nat → Nat} {c9 : Nat → ClassId} {A : Nat → Prop} {r9 : Int32} {σo : kS} (C0 : k_Cx D c9 p s m args meth c R_Nm c_Nm_clear 1 none A) (σ : kS) (H : Heap) (locs : List Loc) (ls : Array Slot) (hP : va_P D kcl (kw a c9 σ) H) (hD : va_D A (kw a c9 σ)) (hS : va_S A s.heap H locs) (hl : lv_has ls 1 [(0, .ref (a 4))]) (h : M_Nm_clear σ  = some (r9, σo)) : W p l e rm_Nm_clear s m args below meth c H locs 0 0 (MQ below (k_Qv D a c9 σo A) args s 0 0 A) (F0 m 0 ls []) := by
  obtain ⟨hx, hb, hml, hown, hts, hr, hlk, hK, hN, hA⟩ := id C0
  unfold M_Nm_clear at h
  refine lv_aload_n hx hb d_Nm_clear_0 rfl (lv_at hl 0 rfl) ?_
  refine va_get (ci := 4) (C := R_Nm) (T := T_Nm) (N := 3) hx hb hts in_Nm hown hK hP 4 kw_4 rfl 0 (by decide) (hts _ q_106) (fun _ h9 => h9) rfl d_Nm_clear_1 ?_
  refine lv_iconst (v := (-1)) hx hb d_Nm_clear_4 (by decide) ?_
  obtain ⟨v1, σ2, hc3, h⟩ := k_call_e h
  refine k_callv (va_runS (As := [.ref (a 28), .int (-1)]) (rest := []) ⟨hx, hb, hml, hown, hts⟩ (K_Ar_fill_28 l D a c9 H.size hc3) (va_cwS 2 hts (k_gS q_454 q_455 q_15 q_456) rfl rfl rfl h_Ar_fill.2 ⟨Nat.le_of_ble_eq_true rfl, Nat.le_of_ble_eq_true rfl⟩) (k_preS hP hK hN hD) rfl rfl hl.1 rfl (lv_room (Nat.le_of_ble_eq_true rfl)) d_Nm_clear_5 ⟨Nat.zero_le _, Nat.zero_le _⟩) hD hS hA (fun H locs hP hD hS => ?_)
  refine lv_aload_n hx hb d_Nm_clear_8 rfl (lv_at hl 0 rfl) ?_
  refine va_get (ci := 4) (C := R_Nm) (T := T_Nm) (N := 3) hx hb hts in_Nm hown hK hP 4 kw_4 rfl 2 (by decide) (hts _ q_110) (fun _ h9 => h9) rfl d_Nm_clear_9 ?_
  refine lv_iconst (v := (-1)) hx hb d_Nm_clear_12 (by decide) ?_
  obtain ⟨v4, σ5, hc6, h⟩ := k_call_e h
  refine k_callv (va_runS (As := [.ref (a 30), .int (-1)]) (rest := []) ⟨hx, hb, hml, hown, hts⟩ (K_Ar_fill_30 l D a c9 H.size hc6) (va_cwS 2 hts (k_gS q_454 q_455 q_15 q_456) rfl rfl rfl h_Ar_fill.2 ⟨Nat.le_of_ble_eq_true rfl, Nat.le_of_ble_eq_true rfl⟩) (k_preS hP hK hN hD) rfl rfl hl.1 rfl (lv_room (Nat.le_of_ble_eq_true rfl)) d_Nm_clear_13 ⟨Nat.zero_le _, Nat.zero_le _⟩) hD hS hA (fun H locs hP hD hS => ?_)
  cases h
  exact k_vret hx hb hr hlk hP hS d_Nm_clear_16
theorem K_Nm_clear (l : Launch) (D : va_G) (a : Nat → Nat) (c9 : Nat → ClassId) (sz : Nat) {σ : kS} {r9 : Int32} {σo : kS} (h : M_Nm_clear σ  = some (r9, σo)) : Met l y_Nm_clear (Cond.code y_Nm_clear c_Nm_clear 1 none :: kG) rm_Nm_clear (k_Pc D a c9 sz σ [.ref (a 4)]) (k_Qv D a c9 σo (k_A a c9 σ sz)) 0 0 (k_A a c9 σ sz) :=
  k_met (Qf := k_Qv D a c9 σo) (by decide) (Nat.le_of_ble_eq_true rfl) (fun p e s m args below meth c A ls C0 hP hD hS hl => B_Nm_clear_0 C0 σ  s.heap [] ls hP hD hS hl h)
def rm_Nm_hasNothing : Room := { frames := 0, cells := 0, slots := 0, locals := 0 }
def M_Nm_hasNothing (σ : kS) (x1 : Int32) : Option (Int32 × kS) := k_ld (σ.2.1 21) 8 (x1) fun v1 => if 0 ≤ v1 then (some (0, σ)) else (some (1, σ))
set_option maxHeartbeats 4000000 in
set_option maxRecDepth 100000 in
theorem B_Nm_hasNothing_0 {p : Program} {l : Launch} {e : Env} {s : State} {m : MethodId} {args : Array Value} {below : List Frame} {meth : Method} {c : Code} {D : va_G} {a : Nat → Nat} {c9 : Nat → ClassId} {A : Nat → Prop} {r9 : Int32} {σo : kS} (C0 : k_Cx D c9 p s m args meth c R_Nm c_Nm_hasNothing 2 (some .boolean) A) (σ : kS) (x1 : Int32) (H : Heap) (locs : List Loc) (ls : Array Slot) (hP : va_P D kcl (kw a c9 σ) H) (hD : va_D A (kw a c9 σ)) (hS : va_S A s.heap H locs) (hl : lv_has ls 2 [(0, .ref (a 4)), (1, .int x1)]) (h : M_Nm_hasNothing σ x1 = some (r9, σo)) : W p l e rm_Nm_hasNothing s m args below meth c H locs 0 0 (MQ below (k_Qi D a c9 r9 σo A) args s 0 0 A) (F0 m 0 ls []) := by
  obtain ⟨hx, hb, hml, hown, hts, hr, hlk, hK, hN, hA⟩ := id C0
  unfold M_Nm_hasNothing at h
  refine lv_aload_n hx hb d_Nm_hasNothing_0 rfl (lv_at hl 0 rfl) ?_
  refine va_get (ci := 4) (C := R_Nm) (T := T_Nm) (N := 3) hx hb hts in_Nm hown hK hP 4 kw_4 rfl 0 (by decide) (hts _ q_106) (fun _ h9 => h9) rfl d_Nm_hasNothing_1 ?_
  refine lv_iload_n hx hb d_Nm_hasNothing_4 rfl (lv_at hl 1 rfl) ?_
  obtain ⟨v1, ev1, hv1, h⟩ := k_ld_e h
  refine va_iald hx hb hK hP 28 0 kw_28 rfl hv1 d_Nm_hasNothing_5 (k_top ev1 ?_)
  refine lv_if_ge (tgt := 13) hx hb d_Nm_hasNothing_6 (by decide) (fun cn2 => ?_) (fun cn2 => ?_)
  · replace h := (if_pos cn2).symm.trans h
    refine lv_iconst (v := 0) hx hb d_Nm_hasNothing_13 (by decide) ?_
    cases h
    exact k_zret (Or.inl rfl) hx hb hr hlk hP hS d_Nm_hasNothing_14
  · replace h := (if_neg cn2).symm.trans h
    refine lv_iconst (v := 1) hx hb d_Nm_hasNothing_9 (by decide) ?_
    refine lv_goto (tgt := 14) hx hb d_Nm_hasNothing_10 (by decide) ?_
    cases h
    exact k_zret (Or.inr rfl) hx hb hr hlk hP hS d_Nm_hasNothing_14
theorem K_Nm_hasNothing (l : Launch) (D : va_G) (a : Nat → Nat) (c9 : Nat → ClassId) (sz : Nat) {σ : kS} {x1 : Int32} {r9 : Int32} {σo : kS} (h : M_Nm_hasNothing σ x1 = some (r9, σo)) : Met l y_Nm_hasNothing (Cond.code y_Nm_hasNothing c_Nm_hasNothing 2 (some .boolean) :: kG) rm_Nm_hasNothing (k_Pc D a c9 sz σ [.ref (a 4), .int x1]) (k_Qi D a c9 r9 σo (k_A a c9 σ sz)) 0 0 (k_A a c9 σ sz) :=
  k_met (Qf := k_Qi D a c9 r9 σo) (by decide) (Nat.le_of_ble_eq_true rfl) (fun p e s m args below meth c A ls C0 hP hD hS hl => B_Nm_hasNothing_0 C0 σ x1 s.heap [] ls hP hD hS hl h)
def rm_Nm_give : Room := { frames := 1, cells := 0, slots := 0, locals := 64 }
def M_Nm_give (σ : kS) (x1 x3 x4 : Int32) : Option (Int32 × kS) := k_cp σ 17 12 22 96 (0) ((x1 * 12)) (x3) fun σ1 => k_st σ1 21 8 (x1) (x3) fun σ2 => k_st σ2 23 8 (x1) (x4) fun σ3 => some (0, σ3)
set_option maxHeartbeats 4000000 in
set_option maxRecDepth 100000 in
theorem B_Nm_give_0 {p : Program} {l : Launch} {e : Env} {s : State} {m : MethodId} {args : Array Value} {below : List Frame} {meth : Method} {c : Code} {D : va_G} {a : Nat → Nat} {c9 : Nat → ClassId} {A : Nat → Prop} {r9 : Int32} {σo : kS} (C0 : k_Cx D c9 p s m args meth c R_Nm c_Nm_give 5 none A) (σ : kS) (x1 x3 x4 : Int32) (H : Heap) (locs : List Loc) (ls : Array Slot) (hP : va_P D kcl (kw a c9 σ) H) (hD : va_D A (kw a c9 σ)) (hS : va_S A s.heap H locs) (hl : lv_has ls 5 [(0, .ref (a 4)), (1, .int x1), (2, .ref (a 24)), (3, .int x3), (4, .int x4)]) (h : M_Nm_give σ x1 x3 x4 = some (r9, σo)) : W p l e rm_Nm_give s m args below meth c H locs 0 0 (MQ below (k_Qv D a c9 σo A) args s 0 0 A) (F0 m 0 ls []) := by
  obtain ⟨hx, hb, hml, hown, hts, hr, hlk, hK, hN, hA⟩ := id C0
  unfold M_Nm_give at h
  refine lv_aload_n hx hb d_Nm_give_0 rfl (lv_at hl 2 rfl) ?_
  refine lv_iconst (v := 0) hx hb d_Nm_give_1 (by decide) ?_
  refine lv_aload_n hx hb d_Nm_give_2 rfl (lv_at hl 0 rfl) ?_
  refine va_get (ci := 4) (C := R_Nm) (T := T_Nm) (N := 3) hx hb hts in_Nm hown hK hP 4 kw_4 rfl 1 (by decide) (hts _ q_108) (fun _ h9 => h9) rfl d_Nm_give_3 ?_
  refine lv_iload_n hx hb d_Nm_give_6 rfl (lv_at hl 1 rfl) ?_
  refine lv_bipush (v := 12) hx hb d_Nm_give_7 (by decide) ?_
  refine lv_imul hx hb d_Nm_give_9 ?_
  refine lv_iload_n hx hb d_Nm_give_10 rfl (lv_at hl 3 rfl) ?_
  obtain ⟨σ1, eσ1, hq1, hq2, hq3, hq4, hq5, h⟩ := k_cp_e h
  refine va_copyi hx hb (hml.trans hl.1.symm) hown (hts _ q_568) (hts _ q_570) (hts _ q_569) (hts _ q_18) hK hP hD hS 24 29 0 0 kw_24 kw_29 rfl rfl rfl hq1 hq2 hq3 hq4 hq5 (fun _ _ => rfl) (Nat.le_of_ble_eq_true rfl) (by decide) d_Nm_give_11 (fun H locs hP hD hS => ?_)
  replace hP := k_mvP (kw_s29.trans (congrArg _ eσ1.symm)) hP
  replace hD := k_mvD (kw_s29.trans (congrArg _ eσ1.symm)) hD
  refine lv_aload_n hx hb d_Nm_give_14 rfl (lv_at hl 0 rfl) ?_
  refine va_get (ci := 4) (C := R_Nm) (T := T_Nm) (N := 3) hx hb hts in_Nm hown hK hP 4 kw_4 rfl 0 (by decide) (hts _ q_106) (fun _ h9 => h9) rfl d_Nm_give_15 ?_
  refine lv_iload_n hx hb d_Nm_give_18 rfl (lv_at hl 1 rfl) ?_
  refine lv_iload_n hx hb d_Nm_give_19 rfl (lv_at hl 3 rfl) ?_
  obtain ⟨σ2, eσ2, hiσ2, h⟩ := k_st_e h
  refine va_iast hx hb hK hP hD hS 28 0 kw_28 rfl hiσ2 d_Nm_give_20 (fun H locs hP hD hS => ?_)
  replace hP := k_mvP (kw_s28.trans (congrArg _ eσ2.symm)) hP
  replace hD := k_mvD (kw_s28.trans (congrArg _ eσ2.symm)) hD
  refine lv_aload_n hx hb d_Nm_give_21 rfl (lv_at hl 0 rfl) ?_
  refine va_get (ci := 4) (C := R_Nm) (T := T_Nm) (N := 3) hx hb hts in_Nm hown hK hP 4 kw_4 rfl 2 (by decide) (hts _ q_110) (fun _ h9 => h9) rfl d_Nm_give_22 ?_
  refine lv_iload_n hx hb d_Nm_give_25 rfl (lv_at hl 1 rfl) ?_
  refine lv_iload hx hb d_Nm_give_26 (lv_at hl 4 rfl) ?_
  obtain ⟨σ3, eσ3, hiσ3, h⟩ := k_st_e h
  refine va_iast hx hb hK hP hD hS 30 0 kw_30 rfl hiσ3 d_Nm_give_28 (fun H locs hP hD hS => ?_)
  replace hP := k_mvP (kw_s30.trans (congrArg _ eσ3.symm)) hP
  replace hD := k_mvD (kw_s30.trans (congrArg _ eσ3.symm)) hD
  cases h
  exact k_vret hx hb hr hlk hP hS d_Nm_give_29
theorem K_Nm_give (l : Launch) (D : va_G) (a : Nat → Nat) (c9 : Nat → ClassId) (sz : Nat) {σ : kS} {x1 x3 x4 : Int32} {r9 : Int32} {σo : kS} (h : M_Nm_give σ x1 x3 x4 = some (r9, σo)) : Met l y_Nm_give (Cond.code y_Nm_give c_Nm_give 5 none :: kG) rm_Nm_give (k_Pc D a c9 sz σ [.ref (a 4), .int x1, .ref (a 24), .int x3, .int x4]) (k_Qv D a c9 σo (k_A a c9 σ sz)) 0 0 (k_A a c9 σ sz) :=
  k_met (Qf := k_Qv D a c9 σo) (by decide) (Nat.le_of_ble_eq_true rfl) (fun p e s m args below meth c A ls C0 hP hD hS hl => B_Nm_give_0 C0 σ x1 x3 x4 s.heap [] ls hP hD hS hl h)
def rm_Nm_takeBack : Room := { frames := 0, cells := 0, slots := 0, locals := 0 }
def M_Nm_takeBack (σ : kS) (x1 x2 : Int32) : Option (Int32 × kS) := k_ld (σ.2.1 23) 8 (x1) fun v1 => if v1 = x2 then (k_st σ 21 8 (x1) ((-1)) fun σ3 => k_st σ3 23 8 (x1) ((-1)) fun σ4 => some (0, σ4)) else (some (0, σ))
set_option maxHeartbeats 4000000 in
set_option maxRecDepth 100000 in
theorem B_Nm_takeBack_0 {p : Program} {l : Launch} {e : Env} {s : State} {m : MethodId} {args : Array Value} {below : List Frame} {meth : Method} {c : Code} {D : va_G} {a : Nat → Nat} {c9 : Nat → ClassId} {A : Nat → Prop} {r9 : Int32} {σo : kS} (C0 : k_Cx D c9 p s m args meth c R_Nm c_Nm_takeBack 3 none A) (σ : kS) (x1 x2 : Int32) (H : Heap) (locs : List Loc) (ls : Array Slot) (hP : va_P D kcl (kw a c9 σ) H) (hD : va_D A (kw a c9 σ)) (hS : va_S A s.heap H locs) (hl : lv_has ls 3 [(0, .ref (a 4)), (1, .int x1), (2, .int x2)]) (h : M_Nm_takeBack σ x1 x2 = some (r9, σo)) : W p l e rm_Nm_takeBack s m args below meth c H locs 0 0 (MQ below (k_Qv D a c9 σo A) args s 0 0 A) (F0 m 0 ls []) := by
  obtain ⟨hx, hb, hml, hown, hts, hr, hlk, hK, hN, hA⟩ := id C0
  unfold M_Nm_takeBack at h
  refine lv_aload_n hx hb d_Nm_takeBack_0 rfl (lv_at hl 0 rfl) ?_
  refine va_get (ci := 4) (C := R_Nm) (T := T_Nm) (N := 3) hx hb hts in_Nm hown hK hP 4 kw_4 rfl 2 (by decide) (hts _ q_110) (fun _ h9 => h9) rfl d_Nm_takeBack_1 ?_
  refine lv_iload_n hx hb d_Nm_takeBack_4 rfl (lv_at hl 1 rfl) ?_
  obtain ⟨v1, ev1, hv1, h⟩ := k_ld_e h
  refine va_iald hx hb hK hP 30 0 kw_30 rfl hv1 d_Nm_takeBack_5 (k_top ev1 ?_)
  refine lv_iload_n hx hb d_Nm_takeBack_6 rfl (lv_at hl 2 rfl) ?_
  refine lv_icmp_ne (tgt := 24) hx hb d_Nm_takeBack_7 (by decide) (fun cn2 => ?_) (fun cn2 => ?_)
  · replace h := (if_neg cn2).symm.trans h
    cases h
    exact k_vret hx hb hr hlk hP hS d_Nm_takeBack_24
  · replace h := (if_pos cn2).symm.trans h
    refine lv_aload_n hx hb d_Nm_takeBack_10 rfl (lv_at hl 0 rfl) ?_
    refine va_get (ci := 4) (C := R_Nm) (T := T_Nm) (N := 3) hx hb hts in_Nm hown hK hP 4 kw_4 rfl 0 (by decide) (hts _ q_106) (fun _ h9 => h9) rfl d_Nm_takeBack_11 ?_
    refine lv_iload_n hx hb d_Nm_takeBack_14 rfl (lv_at hl 1 rfl) ?_
    refine lv_iconst (v := (-1)) hx hb d_Nm_takeBack_15 (by decide) ?_
    obtain ⟨σ3, eσ3, hiσ3, h⟩ := k_st_e h
    refine va_iast hx hb hK hP hD hS 28 0 kw_28 rfl hiσ3 d_Nm_takeBack_16 (fun H locs hP hD hS => ?_)
    replace hP := k_mvP (kw_s28.trans (congrArg _ eσ3.symm)) hP
    replace hD := k_mvD (kw_s28.trans (congrArg _ eσ3.symm)) hD
    refine lv_aload_n hx hb d_Nm_takeBack_17 rfl (lv_at hl 0 rfl) ?_
    refine va_get (ci := 4) (C := R_Nm) (T := T_Nm) (N := 3) hx hb hts in_Nm hown hK hP 4 kw_4 rfl 2 (by decide) (hts _ q_110) (fun _ h9 => h9) rfl d_Nm_takeBack_18 ?_
    refine lv_iload_n hx hb d_Nm_takeBack_21 rfl (lv_at hl 1 rfl) ?_
    refine lv_iconst (v := (-1)) hx hb d_Nm_takeBack_22 (by decide) ?_
    obtain ⟨σ4, eσ4, hiσ4, h⟩ := k_st_e h
    refine va_iast hx hb hK hP hD hS 30 0 kw_30 rfl hiσ4 d_Nm_takeBack_23 (fun H locs hP hD hS => ?_)
    replace hP := k_mvP (kw_s30.trans (congrArg _ eσ4.symm)) hP
    replace hD := k_mvD (kw_s30.trans (congrArg _ eσ4.symm)) hD
    cases h
    exact k_vret hx hb hr hlk hP hS d_Nm_takeBack_24
theorem K_Nm_takeBack (l : Launch) (D : va_G) (a : Nat → Nat) (c9 : Nat → ClassId) (sz : Nat) {σ : kS} {x1 x2 : Int32} {r9 : Int32} {σo : kS} (h : M_Nm_takeBack σ x1 x2 = some (r9, σo)) : Met l y_Nm_takeBack (Cond.code y_Nm_takeBack c_Nm_takeBack 3 none :: kG) rm_Nm_takeBack (k_Pc D a c9 sz σ [.ref (a 4), .int x1, .int x2]) (k_Qv D a c9 σo (k_A a c9 σ sz)) 0 0 (k_A a c9 σ sz) :=
  k_met (Qf := k_Qv D a c9 σo) (by decide) (Nat.le_of_ble_eq_true rfl) (fun p e s m args below meth c A ls C0 hP hD hS hl => B_Nm_takeBack_0 C0 σ x1 x2 s.heap [] ls hP hD hS hl h)
def rm_Nm_hasSame : Room := { frames := 24, cells := 0, slots := 0, locals := 666 }
def M_Nm_hasSame_16_b (self9 : kS → Int32 → Int32 → Int32 → Option (Int32 × kS)) (σ : kS) (x2 x4 x5 : Int32) : Option (Int32 × kS) := if x4 ≤ x5 then (some (1, σ)) else (k_ld (σ.2.1 22) 96 (((x2 * 12) + x5)) fun v2 => k_ld (σ.2.1 17) 12 (x5) fun v3 => k_call (M_F_compare σ v2 v3) fun v4 σ5 => if v4 = 0 then (k_let (x5 + 1) fun v8 => self9 σ5 x2 x4 v8) else (some (0, σ5)))
def M_Nm_hasSame_16 : Nat → kS → Int32 → Int32 → Int32 → Option (Int32 × kS)
  | 0 => fun _ _ _ _ => none
  | n + 1 => M_Nm_hasSame_16_b (M_Nm_hasSame_16 n)
set_option maxHeartbeats 4000000 in
set_option maxRecDepth 100000 in
theorem B_Nm_hasSame_16 {p : Program} {l : Launch} {e : Env} {s : State} {m : MethodId} {args : Array Value} {below : List Frame} {meth : Method} {c : Code} {D : va_G} {a : Nat → Nat} {c9 : Nat → ClassId} {A : Nat → Prop} {r9 : Int32} {σo : kS} (C0 : k_Cx D c9 p s m args meth c R_Nm c_Nm_hasSame 6 (some .boolean) A) : ∀ (n : Nat) (σ : kS) (x2 x4 x5 : Int32) (H : Heap) (locs : List Loc) (ls : Array Slot), va_P D kcl (kw a c9 σ) H → va_D A (kw a c9 σ) → va_S A s.heap H locs → lv_has ls 6 [(0, .ref (a 4)), (1, .ref (a 1)), (2, .int x2), (3, .ref (a 24)), (4, .int x4), (5, .int x5)] → M_Nm_hasSame_16 n σ x2 x4 x5 = some (r9, σo) → W p l e rm_Nm_hasSame s m args below meth c H locs 0 0 (MQ below (k_Qi D a c9 r9 σo A) args s 0 0 A) (F0 m 16 ls []) := by
  obtain ⟨hx, hb, hml, hown, hts, hr, hlk, hK, hN, hA⟩ := id C0
  intro n
  induction n with
  | zero =>
    intro σ x2 x4 x5 H locs ls hP hD hS hl h
    replace h : (none : Option (Int32 × kS)) = some (r9, σo) := h
    cases h
  | succ n ih =>
    intro σ x2 x4 x5 H locs ls hP hD hS hl h
    replace h : M_Nm_hasSame_16_b (M_Nm_hasSame_16 n) σ x2 x4 x5 = some (r9, σo) := h
    unfold M_Nm_hasSame_16_b at h
    refine lv_iload hx hb d_Nm_hasSame_16 (lv_at hl 5 rfl) ?_
    refine lv_iload hx hb d_Nm_hasSame_18 (lv_at hl 4 rfl) ?_
    refine lv_icmp_ge (tgt := 54) hx hb d_Nm_hasSame_20 (by decide) (fun cn1 => ?_) (fun cn1 => ?_)
    · replace h := (if_pos cn1).symm.trans h
      refine lv_iconst (v := 1) hx hb d_Nm_hasSame_54 (by decide) ?_
      cases h
      exact k_zret (Or.inr rfl) hx hb hr hlk hP hS d_Nm_hasSame_55
    · replace h := (if_neg cn1).symm.trans h
      refine lv_aload_n hx hb d_Nm_hasSame_23 rfl (lv_at hl 1 rfl) ?_
      refine lv_aload_n hx hb d_Nm_hasSame_24 rfl (lv_at hl 0 rfl) ?_
      refine va_get (ci := 4) (C := R_Nm) (T := T_Nm) (N := 3) hx hb hts in_Nm hown hK hP 4 kw_4 rfl 1 (by decide) (hts _ q_108) (fun _ h9 => h9) rfl d_Nm_hasSame_25 ?_
      refine lv_iload_n hx hb d_Nm_hasSame_28 rfl (lv_at hl 2 rfl) ?_
      refine lv_bipush (v := 12) hx hb d_Nm_hasSame_29 (by decide) ?_
      refine lv_imul hx hb d_Nm_hasSame_31 ?_
      refine lv_iload hx hb d_Nm_hasSame_32 (lv_at hl 5 rfl) ?_
      refine lv_iadd hx hb d_Nm_hasSame_34 ?_
      obtain ⟨v2, ev2, hv2, h⟩ := k_ld_e h
      refine va_iald hx hb hK hP 29 0 kw_29 rfl hv2 d_Nm_hasSame_35 (k_top ev2 ?_)
      refine lv_aload_n hx hb d_Nm_hasSame_36 rfl (lv_at hl 3 rfl) ?_
      refine lv_iload hx hb d_Nm_hasSame_37 (lv_at hl 5 rfl) ?_
      obtain ⟨v3, ev3, hv3, h⟩ := k_ld_e h
      refine va_iald hx hb hK hP 24 0 kw_24 rfl hv3 d_Nm_hasSame_39 (k_top ev3 ?_)
      obtain ⟨v4, σ5, hc6, h⟩ := k_call_e h
      refine k_calli (va_runV (As := [.int v2, .int v3]) (rest := []) ⟨hx, hb, hml, hown, hts⟩ (K_F_compare l D a c9 H.size hc6) (cwV 2 hts (k_gV q_575 q_390 q_391 q_2 q_392) rfl rfl rfl h_F_compare ⟨Nat.le_of_ble_eq_true rfl, Nat.le_of_ble_eq_true rfl⟩) (k_preV (ci := 2) (q0 := 1) rfl kw_1 hP hK hN hD) rfl rfl hl.1 rfl (lv_room (Nat.le_of_ble_eq_true rfl)) d_Nm_hasSame_40 ⟨Nat.zero_le _, Nat.zero_le _⟩) hD hS hA (fun H locs hP hD hS => ?_)
      refine lv_if_eq (tgt := 48) hx hb d_Nm_hasSame_43 (by decide) (fun cn7 => ?_) (fun cn7 => ?_)
      · replace h := (if_pos cn7).symm.trans h
        obtain ⟨v8, ev8, h⟩ := k_let_e h
        refine lv_iinc (v := v8) (lv' := [(5, .int v8), (0, .ref (a 4)), (1, .ref (a 1)), (2, .int x2), (3, .ref (a 24)), (4, .int x4)]) hx hb d_Nm_hasSame_48 hl (k := 5) rfl (by rw [ev8]; rfl) (by decide) rfl (fun ls hl => ?_)
        refine lv_goto (tgt := 16) hx hb d_Nm_hasSame_51 (by decide) ?_
        exact ih _ _ _ _ H locs ls hP hD hS (lv_sub hl [1, 2, 3, 4, 5, 0] rfl) h
      · replace h := (if_neg cn7).symm.trans h
        refine lv_iconst (v := 0) hx hb d_Nm_hasSame_46 (by decide) ?_
        cases h
        exact k_zret (Or.inl rfl) hx hb hr hlk hP hS d_Nm_hasSame_47
def M_Nm_hasSame (σ : kS) (x2 x4 : Int32) : Option (Int32 × kS) := k_ld (σ.2.1 21) 8 (x2) fun v1 => if v1 = x4 then (M_Nm_hasSame_16 k_fu σ x2 x4 0) else (some (0, σ))
set_option maxHeartbeats 4000000 in
set_option maxRecDepth 100000 in
theorem B_Nm_hasSame_0 {p : Program} {l : Launch} {e : Env} {s : State} {m : MethodId} {args : Array Value} {below : List Frame} {meth : Method} {c : Code} {D : va_G} {a : Nat → Nat} {c9 : Nat → ClassId} {A : Nat → Prop} {r9 : Int32} {σo : kS} (C0 : k_Cx D c9 p s m args meth c R_Nm c_Nm_hasSame 6 (some .boolean) A) (σ : kS) (x2 x4 : Int32) (H : Heap) (locs : List Loc) (ls : Array Slot) (hP : va_P D kcl (kw a c9 σ) H) (hD : va_D A (kw a c9 σ)) (hS : va_S A s.heap H locs) (hl : lv_has ls 6 [(0, .ref (a 4)), (1, .ref (a 1)), (2, .int x2), (3, .ref (a 24)), (4, .int x4)]) (h : M_Nm_hasSame σ x2 x4 = some (r9, σo)) : W p l e rm_Nm_hasSame s m args below meth c H locs 0 0 (MQ below (k_Qi D a c9 r9 σo A) args s 0 0 A) (F0 m 0 ls []) := by
  obtain ⟨hx, hb, hml, hown, hts, hr, hlk, hK, hN, hA⟩ := id C0
  unfold M_Nm_hasSame at h
  refine lv_aload_n hx hb d_Nm_hasSame_0 rfl (lv_at hl 0 rfl) ?_
  refine va_get (ci := 4) (C := R_Nm) (T := T_Nm) (N := 3) hx hb hts in_Nm hown hK hP 4 kw_4 rfl 0 (by decide) (hts _ q_106) (fun _ h9 => h9) rfl d_Nm_hasSame_1 ?_
  refine lv_iload_n hx hb d_Nm_hasSame_4 rfl (lv_at hl 2 rfl) ?_
  obtain ⟨v1, ev1, hv1, h⟩ := k_ld_e h
  refine va_iald hx hb hK hP 28 0 kw_28 rfl hv1 d_Nm_hasSame_5 (k_top ev1 ?_)
  refine lv_iload hx hb d_Nm_hasSame_6 (lv_at hl 4 rfl) ?_
  refine lv_icmp_eq (tgt := 13) hx hb d_Nm_hasSame_8 (by decide) (fun cn2 => ?_) (fun cn2 => ?_)
  · replace h := (if_pos cn2).symm.trans h
    refine lv_iconst (v := 0) hx hb d_Nm_hasSame_13 (by decide) ?_
    refine lv_istore (lv' := [(5, .int 0), (0, .ref (a 4)), (1, .ref (a 1)), (2, .int x2), (3, .ref (a 24)), (4, .int x4)]) hx hb d_Nm_hasSame_14 hl (by decide) rfl (fun ls hl => ?_)
    exact B_Nm_hasSame_16 C0 k_fu _ _ _ _ H locs ls hP hD hS (lv_sub hl [1, 2, 3, 4, 5, 0] rfl) h
  · replace h := (if_neg cn2).symm.trans h
    refine lv_iconst (v := 0) hx hb d_Nm_hasSame_11 (by decide) ?_
    cases h
    exact k_zret (Or.inl rfl) hx hb hr hlk hP hS d_Nm_hasSame_12
theorem K_Nm_hasSame (l : Launch) (D : va_G) (a : Nat → Nat) (c9 : Nat → ClassId) (sz : Nat) {σ : kS} {x2 x4 : Int32} {r9 : Int32} {σo : kS} (h : M_Nm_hasSame σ x2 x4 = some (r9, σo)) : Met l y_Nm_hasSame (Cond.code y_Nm_hasSame c_Nm_hasSame 6 (some .boolean) :: kG) rm_Nm_hasSame (k_Pc D a c9 sz σ [.ref (a 4), .ref (a 1), .int x2, .ref (a 24), .int x4]) (k_Qi D a c9 r9 σo (k_A a c9 σ sz)) 0 0 (k_A a c9 σ sz) :=
  k_met (Qf := k_Qi D a c9 r9 σo) (by decide) (Nat.le_of_ble_eq_true rfl) (fun p e s m args below meth c A ls C0 hP hD hS hl => B_Nm_hasSame_0 C0 σ x2 x4 s.heap [] ls hP hD hS hl h)
def rm_Pc_all : Room := { frames := 0, cells := 0, slots := 0, locals := 0 }
def M_Pc_all (σ : kS) (x0 : Int32) : Option (Int32 × kS) := some (((1 <<< (x0 &&& 31)) - 1), σ)
set_option maxHeartbeats 4000000 in
set_option maxRecDepth 100000 in
theorem B_Pc_all_0 {p : Program} {l : Launch} {e : Env} {s : State} {m : MethodId} {args : Array Value} {below : List Frame} {meth : Method} {c : Code} {D : va_G} {a : Nat → Nat} {c9 : Nat → ClassId} {A : Nat → Prop} {r9 : Int32} {σo : kS} (C0 : k_Cx D c9 p s m args meth c R_Pc c_Pc_all 1 (some .int) A) (σ : kS) (x0 : Int32) (H : Heap) (locs : List Loc) (ls : Array Slot) (hP : va_P D kcl (kw a c9 σ) H) (hD : va_D A (kw a c9 σ)) (hS : va_S A s.heap H locs) (hl : lv_has ls 1 [(0, .int x0)]) (h : M_Pc_all σ x0 = some (r9, σo)) : W p l e rm_Pc_all s m args below meth c H locs 0 0 (MQ below (k_Qi D a c9 r9 σo A) args s 0 0 A) (F0 m 0 ls []) := by
  obtain ⟨hx, hb, hml, hown, hts, hr, hlk, hK, hN, hA⟩ := id C0
  unfold M_Pc_all at h
  refine lv_iconst (v := 1) hx hb d_Pc_all_0 (by decide) ?_
  refine lv_iload_n hx hb d_Pc_all_1 rfl (lv_at hl 0 rfl) ?_
  refine lv_ishl hx hb d_Pc_all_2 ?_
  refine lv_iconst (v := 1) hx hb d_Pc_all_3 (by decide) ?_
  refine lv_isub hx hb d_Pc_all_4 ?_
  cases h
  exact k_iret hx hb hr hlk hP hS d_Pc_all_5
theorem K_Pc_all (l : Launch) (D : va_G) (a : Nat → Nat) (c9 : Nat → ClassId) (sz : Nat) {σ : kS} {x0 : Int32} {r9 : Int32} {σo : kS} (h : M_Pc_all σ x0 = some (r9, σo)) : Met l y_Pc_all (Cond.code y_Pc_all c_Pc_all 1 (some .int) :: kG) rm_Pc_all (k_Pc D a c9 sz σ [.int x0]) (k_Qi D a c9 r9 σo (k_A a c9 σ sz)) 0 0 (k_A a c9 σ sz) :=
  k_met (Qf := k_Qi D a c9 r9 σo) (by decide) (Nat.le_of_ble_eq_true rfl) (fun p e s m args below meth c A ls C0 hP hD hS hl => B_Pc_all_0 C0 σ x0 s.heap [] ls hP hD hS hl h)
def rm_Pc_lowest : Room := { frames := 0, cells := 0, slots := 0, locals := 0 }
def M_Pc_lowest_45 (σ : kS) (x0 x1 x2 x3 x4 : Int32) : Option (Int32 × kS) := if x3 = 0 then (some (x2, σ)) else (some ((-1), σ))
set_option maxHeartbeats 4000000 in
set_option maxRecDepth 100000 in
theorem B_Pc_lowest_45 {p : Program} {l : Launch} {e : Env} {s : State} {m : MethodId} {args : Array Value} {below : List Frame} {meth : Method} {c : Code} {D : va_G} {a : Nat → Nat} {c9 : Nat → ClassId} {A : Nat → Prop} {r9 : Int32} {σo : kS} (C0 : k_Cx D c9 p s m args meth c R_Pc c_Pc_lowest 6 (some .int) A) (σ : kS) (x0 x1 x2 x3 x4 : Int32) (H : Heap) (locs : List Loc) (ls : Array Slot) (hP : va_P D kcl (kw a c9 σ) H) (hD : va_D A (kw a c9 σ)) (hS : va_S A s.heap H locs) (hl : lv_has ls 6 [(0, .int x0), (1, .int x1), (2, .int x2), (3, .int x3), (4, .int x4)]) (h : M_Pc_lowest_45 σ x0 x1 x2 x3 x4 = some (r9, σo)) : W p l e rm_Pc_lowest s m args below meth c H locs 0 0 (MQ below (k_Qi D a c9 r9 σo A) args s 0 0 A) (F0 m 45 ls []) := by
  obtain ⟨hx, hb, hml, hown, hts, hr, hlk, hK, hN, hA⟩ := id C0
  unfold M_Pc_lowest_45 at h
  refine lv_iload_n hx hb d_Pc_lowest_45 rfl (lv_at hl 3 rfl) ?_
  refine lv_if_ne (tgt := 53) hx hb d_Pc_lowest_46 (by decide) (fun cn1 => ?_) (fun cn1 => ?_)
  · replace h := (if_neg cn1).symm.trans h
    refine lv_iconst (v := (-1)) hx hb d_Pc_lowest_53 (by decide) ?_
    cases h
    exact k_iret hx hb hr hlk hP hS d_Pc_lowest_54
  · replace h := (if_pos cn1).symm.trans h
    refine lv_iload_n hx hb d_Pc_lowest_49 rfl (lv_at hl 2 rfl) ?_
    refine lv_goto (tgt := 54) hx hb d_Pc_lowest_50 (by decide) ?_
    cases h
    exact k_iret hx hb hr hlk hP hS d_Pc_lowest_54
def M_Pc_lowest_7_b (self9 : kS → Int32 → Int32 → Int32 → Int32 → Int32 → Option (Int32 × kS)) (σ : kS) (x0 x1 x2 x3 x4 : Int32) : Option (Int32 × kS) := if 12 ≤ x4 then (M_Pc_lowest_45 σ x0 x1 x2 x3 x4) else (if x3 ≤ 0 then (M_Pc_lowest_45 σ x0 x1 x2 x3 x4) else (k_let ((1 <<< (x4 &&& 31))) fun v3 => if (x0 &&& v3) = 0 then (k_let (x4 + 1) fun v5 => self9 σ x0 x1 x2 x3 v5) else (k_let ((x2 ||| v3)) fun v6 => k_let (x3 + (-1)) fun v7 => k_let (x4 + 1) fun v8 => self9 σ x0 x1 v6 v7 v8)))
def M_Pc_lowest_7 : Nat → kS → Int32 → Int32 → Int32 → Int32 → Int32 → Option (Int32 × kS)
  | 0 => fun _ _ _ _ _ _ => none
  | n + 1 => M_Pc_lowest_7_b (M_Pc_lowest_7 n)
set_option maxHeartbeats 4000000 in
set_option maxRecDepth 100000 in
theorem B_Pc_lowest_7 {p : Program} {l : Launch} {e : Env} {s : State} {m : MethodId} {args : Array Value} {below : List Frame} {meth : Method} {c : Code} {D : va_G} {a : Nat → Nat} {c9 : Nat → ClassId} {A : Nat → Prop} {r9 : Int32} {σo : kS} (C0 : k_Cx D c9 p s m args meth c R_Pc c_Pc_lowest 6 (some .int) A) : ∀ (n : Nat) (σ : kS) (x0 x1 x2 x3 x4 : Int32) (H : Heap) (locs : List Loc) (ls : Array Slot), va_P D kcl (kw a c9 σ) H → va_D A (kw a c9 σ) → va_S A s.heap H locs → lv_has ls 6 [(0, .int x0), (1, .int x1), (2, .int x2), (3, .int x3), (4, .int x4)] → M_Pc_lowest_7 n σ x0 x1 x2 x3 x4 = some (r9, σo) → W p l e rm_Pc_lowest s m args below meth c H locs 0 0 (MQ below (k_Qi D a c9 r9 σo A) args s 0 0 A) (F0 m 7 ls []) := by
  obtain ⟨hx, hb, hml, hown, hts, hr, hlk, hK, hN, hA⟩ := id C0
  intro n
  induction n with
  | zero =>
    intro σ x0 x1 x2 x3 x4 H locs ls hP hD hS hl h
    replace h : (none : Option (Int32 × kS)) = some (r9, σo) := h
    cases h
  | succ n ih =>
    intro σ x0 x1 x2 x3 x4 H locs ls hP hD hS hl h
    replace h : M_Pc_lowest_7_b (M_Pc_lowest_7 n) σ x0 x1 x2 x3 x4 = some (r9, σo) := h
    unfold M_Pc_lowest_7_b at h
    refine lv_iload hx hb d_Pc_lowest_7 (lv_at hl 4 rfl) ?_
    refine lv_bipush (v := 12) hx hb d_Pc_lowest_9 (by decide) ?_
    refine lv_icmp_ge (tgt := 45) hx hb d_Pc_lowest_11 (by decide) (fun cn1 => ?_) (fun cn1 => ?_)
    · replace h := (if_pos cn1).symm.trans h
      exact B_Pc_lowest_45 C0 _ _ _ _ _ _ H locs ls hP hD hS (lv_sub hl [0, 1, 2, 3, 4] rfl) h
    · replace h := (if_neg cn1).symm.trans h
      refine lv_iload_n hx hb d_Pc_lowest_14 rfl (lv_at hl 3 rfl) ?_
      refine lv_if_le (tgt := 45) hx hb d_Pc_lowest_15 (by decide) (fun cn2 => ?_) (fun cn2 => ?_)
      · replace h := (if_pos cn2).symm.trans h
        exact B_Pc_lowest_45 C0 _ _ _ _ _ _ H locs ls hP hD hS (lv_sub hl [0, 1, 2, 3, 4] rfl) h
      · replace h := (if_neg cn2).symm.trans h
        refine lv_iconst (v := 1) hx hb d_Pc_lowest_18 (by decide) ?_
        refine lv_iload hx hb d_Pc_lowest_19 (lv_at hl 4 rfl) ?_
        refine lv_ishl hx hb d_Pc_lowest_21 ?_
        obtain ⟨v3, ev3, h⟩ := k_let_e h
        refine k_top ev3 ?_
        refine lv_istore (lv' := [(5, .int v3), (0, .int x0), (1, .int x1), (2, .int x2), (3, .int x3), (4, .int x4)]) hx hb d_Pc_lowest_22 hl (by decide) rfl (fun ls hl => ?_)
        refine lv_iload_n hx hb d_Pc_lowest_24 rfl (lv_at hl 1 rfl) ?_
        refine lv_iload hx hb d_Pc_lowest_25 (lv_at hl 0 rfl) ?_
        refine lv_iand hx hb d_Pc_lowest_27 ?_
        refine lv_if_eq (tgt := 39) hx hb d_Pc_lowest_28 (by decide) (fun cn4 => ?_) (fun cn4 => ?_)
        · replace h := (if_pos cn4).symm.trans h
          obtain ⟨v5, ev5, h⟩ := k_let_e h
          refine lv_iinc (v := v5) (lv' := [(4, .int v5), (5, .int v3), (0, .int x0), (1, .int x1), (2, .int x2), (3, .int x3)]) hx hb d_Pc_lowest_39 hl (k := 5) rfl (by rw [ev5]; rfl) (by decide) rfl (fun ls hl => ?_)
          refine lv_goto (tgt := 7) hx hb d_Pc_lowest_42 (by decide) ?_
          exact ih _ _ _ _ _ _ H locs ls hP hD hS (lv_sub hl [2, 3, 4, 5, 0] rfl) h
        · replace h := (if_neg cn4).symm.trans h
          refine lv_iload_n hx hb d_Pc_lowest_31 rfl (lv_at hl 3 rfl) ?_
          refine lv_iload hx hb d_Pc_lowest_32 (lv_at hl 0 rfl) ?_
          refine lv_ior hx hb d_Pc_lowest_34 ?_
          obtain ⟨v6, ev6, h⟩ := k_let_e h
          refine k_top ev6 ?_
          refine lv_istore_n (lv' := [(2, .int v6), (5, .int v3), (0, .int x0), (1, .int x1), (3, .int x3), (4, .int x4)]) hx hb d_Pc_lowest_35 rfl hl (by decide) rfl (fun ls hl => ?_)
          obtain ⟨v7, ev7, h⟩ := k_let_e h
          refine lv_iinc (v := v7) (lv' := [(3, .int v7), (2, .int v6), (5, .int v3), (0, .int x0), (1, .int x1), (4, .int x4)]) hx hb d_Pc_lowest_36 hl (k := 4) rfl (by rw [ev7]; rfl) (by decide) rfl (fun ls hl => ?_)
          obtain ⟨v8, ev8, h⟩ := k_let_e h
          refine lv_iinc (v := v8) (lv' := [(4, .int v8), (3, .int v7), (2, .int v6), (5, .int v3), (0, .int x0), (1, .int x1)]) hx hb d_Pc_lowest_39 hl (k := 5) rfl (by rw [ev8]; rfl) (by decide) rfl (fun ls hl => ?_)
          refine lv_goto (tgt := 7) hx hb d_Pc_lowest_42 (by decide) ?_
          exact ih _ _ _ _ _ _ H locs ls hP hD hS (lv_sub hl [4, 5, 2, 1, 0] rfl) h
def M_Pc_lowest (σ : kS) (x0 x1 : Int32) : Option (Int32 × kS) := M_Pc_lowest_7 k_fu σ x0 x1 0 x1 0
set_option maxHeartbeats 4000000 in
set_option maxRecDepth 100000 in
theorem B_Pc_lowest_0 {p : Program} {l : Launch} {e : Env} {s : State} {m : MethodId} {args : Array Value} {below : List Frame} {meth : Method} {c : Code} {D : va_G} {a : Nat → Nat} {c9 : Nat → ClassId} {A : Nat → Prop} {r9 : Int32} {σo : kS} (C0 : k_Cx D c9 p s m args meth c R_Pc c_Pc_lowest 6 (some .int) A) (σ : kS) (x0 x1 : Int32) (H : Heap) (locs : List Loc) (ls : Array Slot) (hP : va_P D kcl (kw a c9 σ) H) (hD : va_D A (kw a c9 σ)) (hS : va_S A s.heap H locs) (hl : lv_has ls 6 [(0, .int x0), (1, .int x1)]) (h : M_Pc_lowest σ x0 x1 = some (r9, σo)) : W p l e rm_Pc_lowest s m args below meth c H locs 0 0 (MQ below (k_Qi D a c9 r9 σo A) args s 0 0 A) (F0 m 0 ls []) := by
  obtain ⟨hx, hb, hml, hown, hts, hr, hlk, hK, hN, hA⟩ := id C0
  unfold M_Pc_lowest at h
  refine lv_iconst (v := 0) hx hb d_Pc_lowest_0 (by decide) ?_
  refine lv_istore_n (lv' := [(2, .int 0), (0, .int x0), (1, .int x1)]) hx hb d_Pc_lowest_1 rfl hl (by decide) rfl (fun ls hl => ?_)
  refine lv_iload_n hx hb d_Pc_lowest_2 rfl (lv_at hl 2 rfl) ?_
  refine lv_istore_n (lv' := [(3, .int x1), (2, .int 0), (0, .int x0), (1, .int x1)]) hx hb d_Pc_lowest_3 rfl hl (by decide) rfl (fun ls hl => ?_)
  refine lv_iconst (v := 0) hx hb d_Pc_lowest_4 (by decide) ?_
  refine lv_istore (lv' := [(4, .int 0), (3, .int x1), (2, .int 0), (0, .int x0), (1, .int x1)]) hx hb d_Pc_lowest_5 hl (by decide) rfl (fun ls hl => ?_)
  exact B_Pc_lowest_7 C0 k_fu _ _ _ _ _ _ H locs ls hP hD hS (lv_sub hl [3, 4, 2, 1, 0] rfl) h
theorem K_Pc_lowest (l : Launch) (D : va_G) (a : Nat → Nat) (c9 : Nat → ClassId) (sz : Nat) {σ : kS} {x0 x1 : Int32} {r9 : Int32} {σo : kS} (h : M_Pc_lowest σ x0 x1 = some (r9, σo)) : Met l y_Pc_lowest (Cond.code y_Pc_lowest c_Pc_lowest 6 (some .int) :: kG) rm_Pc_lowest (k_Pc D a c9 sz σ [.int x0, .int x1]) (k_Qi D a c9 r9 σo (k_A a c9 σ sz)) 0 0 (k_A a c9 σ sz) :=
  k_met (Qf := k_Qi D a c9 r9 σo) (by decide) (Nat.le_of_ble_eq_true rfl) (fun p e s m args below meth c A ls C0 hP hD hS hl => B_Pc_lowest_0 C0 σ x0 x1 s.heap [] ls hP hD hS hl h)
def rm_Pc_behind : Room := { frames := 0, cells := 0, slots := 0, locals := 0 }
def M_Pc_behind (σ : kS) (x0 x1 : Int32) : Option (Int32 × kS) := some ((x0 &&& ((x1 ||| (x1 - 1)) ^^^ (-1))), σ)
set_option maxHeartbeats 4000000 in
set_option maxRecDepth 100000 in
theorem B_Pc_behind_0 {p : Program} {l : Launch} {e : Env} {s : State} {m : MethodId} {args : Array Value} {below : List Frame} {meth : Method} {c : Code} {D : va_G} {a : Nat → Nat} {c9 : Nat → ClassId} {A : Nat → Prop} {r9 : Int32} {σo : kS} (C0 : k_Cx D c9 p s m args meth c R_Pc c_Pc_behind 2 (some .int) A) (σ : kS) (x0 x1 : Int32) (H : Heap) (locs : List Loc) (ls : Array Slot) (hP : va_P D kcl (kw a c9 σ) H) (hD : va_D A (kw a c9 σ)) (hS : va_S A s.heap H locs) (hl : lv_has ls 2 [(0, .int x0), (1, .int x1)]) (h : M_Pc_behind σ x0 x1 = some (r9, σo)) : W p l e rm_Pc_behind s m args below meth c H locs 0 0 (MQ below (k_Qi D a c9 r9 σo A) args s 0 0 A) (F0 m 0 ls []) := by
  obtain ⟨hx, hb, hml, hown, hts, hr, hlk, hK, hN, hA⟩ := id C0
  unfold M_Pc_behind at h
  refine lv_iload_n hx hb d_Pc_behind_0 rfl (lv_at hl 0 rfl) ?_
  refine lv_iload_n hx hb d_Pc_behind_1 rfl (lv_at hl 1 rfl) ?_
  refine lv_iload_n hx hb d_Pc_behind_2 rfl (lv_at hl 1 rfl) ?_
  refine lv_iconst (v := 1) hx hb d_Pc_behind_3 (by decide) ?_
  refine lv_isub hx hb d_Pc_behind_4 ?_
  refine lv_ior hx hb d_Pc_behind_5 ?_
  refine lv_iconst (v := (-1)) hx hb d_Pc_behind_6 (by decide) ?_
  refine lv_ixor hx hb d_Pc_behind_7 ?_
  refine lv_iand hx hb d_Pc_behind_8 ?_
  cases h
  exact k_iret hx hb hr hlk hP hS d_Pc_behind_9
theorem K_Pc_behind (l : Launch) (D : va_G) (a : Nat → Nat) (c9 : Nat → ClassId) (sz : Nat) {σ : kS} {x0 x1 : Int32} {r9 : Int32} {σo : kS} (h : M_Pc_behind σ x0 x1 = some (r9, σo)) : Met l y_Pc_behind (Cond.code y_Pc_behind c_Pc_behind 2 (some .int) :: kG) rm_Pc_behind (k_Pc D a c9 sz σ [.int x0, .int x1]) (k_Qi D a c9 r9 σo (k_A a c9 σ sz)) 0 0 (k_A a c9 σ sz) :=
  k_met (Qf := k_Qi D a c9 r9 σo) (by decide) (Nat.le_of_ble_eq_true rfl) (fun p e s m args below meth c A ls C0 hP hD hS hl => B_Pc_behind_0 C0 σ x0 x1 s.heap [] ls hP hD hS hl h)
def rm_Pc_nextChoice : Room := { frames := 1, cells := 0, slots := 0, locals := 25 }
def M_Pc_nextChoice_8_b (self9 : kS → Int32 → Int32 → Int32 → Int32 → Int32 → Option (Int32 × kS)) (σ : kS) (x0 x1 x2 x3 x4 : Int32) : Option (Int32 × kS) := if x4 < 0 then (k_call (M_Pc_lowest σ x0 ((x2 + 1))) fun v2 σ3 => some (v2, σ3)) else (k_let ((1 <<< (x4 &&& 31))) fun v5 => if (x1 &&& v5) = 0 then (if x3 = 0 then (if (x0 &&& v5) = 0 then (k_let (x4 + (-1)) fun v19 => self9 σ x0 x1 x2 0 v19) else (k_let (x4 + (-1)) fun v20 => self9 σ x0 x1 x2 1 v20)) else (k_let (x4 + (-1)) fun v17 => self9 σ x0 x1 x2 1 v17)) else (if x3 = 0 then (k_let (x2 + 1) fun v8 => k_let (x4 + (-1)) fun v9 => self9 σ x0 x1 v8 x3 v9) else (k_call (M_Pc_behind σ x0 v5) fun v10 σ11 => k_call (M_Pc_lowest σ11 v10 ((x2 + 1))) fun v13 σ14 => some (((x1 &&& (v5 - 1)) ||| v13), σ14))))
def M_Pc_nextChoice_8 : Nat → kS → Int32 → Int32 → Int32 → Int32 → Int32 → Option (Int32 × kS)
  | 0 => fun _ _ _ _ _ _ => none
  | n + 1 => M_Pc_nextChoice_8_b (M_Pc_nextChoice_8 n)
set_option maxHeartbeats 4000000 in
set_option maxRecDepth 100000 in
theorem B_Pc_nextChoice_8 {p : Program} {l : Launch} {e : Env} {s : State} {m : MethodId} {args : Array Value} {below : List Frame} {meth : Method} {c : Code} {D : va_G} {a : Nat → Nat} {c9 : Nat → ClassId} {A : Nat → Prop} {r9 : Int32} {σo : kS} (C0 : k_Cx D c9 p s m args meth c R_Pc c_Pc_nextChoice 6 (some .int) A) : ∀ (n : Nat) (σ : kS) (x0 x1 x2 x3 x4 : Int32) (H : Heap) (locs : List Loc) (ls : Array Slot), va_P D kcl (kw a c9 σ) H → va_D A (kw a c9 σ) → va_S A s.heap H locs → lv_has ls 6 [(0, .int x0), (1, .int x1), (2, .int x2), (3, .int x3), (4, .int x4)] → M_Pc_nextChoice_8 n σ x0 x1 x2 x3 x4 = some (r9, σo) → W p l e rm_Pc_nextChoice s m args below meth c H locs 0 0 (MQ below (k_Qi D a c9 r9 σo A) args s 0 0 A) (F0 m 8 ls []) := by
  obtain ⟨hx, hb, hml, hown, hts, hr, hlk, hK, hN, hA⟩ := id C0
  intro n
  induction n with
  | zero =>
    intro σ x0 x1 x2 x3 x4 H locs ls hP hD hS hl h
    replace h : (none : Option (Int32 × kS)) = some (r9, σo) := h
    cases h
  | succ n ih =>
    intro σ x0 x1 x2 x3 x4 H locs ls hP hD hS hl h
    replace h : M_Pc_nextChoice_8_b (M_Pc_nextChoice_8 n) σ x0 x1 x2 x3 x4 = some (r9, σo) := h
    unfold M_Pc_nextChoice_8_b at h
    refine lv_iload hx hb d_Pc_nextChoice_8 (lv_at hl 4 rfl) ?_
    refine lv_if_lt (tgt := 79) hx hb d_Pc_nextChoice_10 (by decide) (fun cn1 => ?_) (fun cn1 => ?_)
    · replace h := (if_pos cn1).symm.trans h
      refine lv_iload_n hx hb d_Pc_nextChoice_79 rfl (lv_at hl 0 rfl) ?_
      refine lv_iload_n hx hb d_Pc_nextChoice_80 rfl (lv_at hl 2 rfl) ?_
      refine lv_iconst (v := 1) hx hb d_Pc_nextChoice_81 (by decide) ?_
      refine lv_iadd hx hb d_Pc_nextChoice_82 ?_
      obtain ⟨v2, σ3, hc4, h⟩ := k_call_e h
      refine k_calli (va_runS (As := [.int x0, .int ((x2 + 1))]) (rest := []) ⟨hx, hb, hml, hown, hts⟩ (K_Pc_lowest l D a c9 H.size hc4) (va_cwS 2 hts (k_gS q_521 q_503 q_16 q_504) rfl rfl rfl h_Pc_lowest.2 ⟨Nat.le_of_ble_eq_true rfl, Nat.le_of_ble_eq_true rfl⟩) (k_preS hP hK hN hD) rfl rfl hl.1 rfl (lv_room (Nat.le_of_ble_eq_true rfl)) d_Pc_nextChoice_83 ⟨Nat.zero_le _, Nat.zero_le _⟩) hD hS hA (fun H locs hP hD hS => ?_)
      cases h
      exact k_iret hx hb hr hlk hP hS d_Pc_nextChoice_86
    · replace h := (if_neg cn1).symm.trans h
      refine lv_iconst (v := 1) hx hb d_Pc_nextChoice_13 (by decide) ?_
      refine lv_iload hx hb d_Pc_nextChoice_14 (lv_at hl 4 rfl) ?_
      refine lv_ishl hx hb d_Pc_nextChoice_16 ?_
      obtain ⟨v5, ev5, h⟩ := k_let_e h
      refine k_top ev5 ?_
      refine lv_istore (lv' := [(5, .int v5), (0, .int x0), (1, .int x1), (2, .int x2), (3, .int x3), (4, .int x4)]) hx hb d_Pc_nextChoice_17 hl (by decide) rfl (fun ls hl => ?_)
      refine lv_iload_n hx hb d_Pc_nextChoice_19 rfl (lv_at hl 2 rfl) ?_
      refine lv_iload hx hb d_Pc_nextChoice_20 (lv_at hl 0 rfl) ?_
      refine lv_iand hx hb d_Pc_nextChoice_22 ?_
      refine lv_if_ne (tgt := 46) hx hb d_Pc_nextChoice_23 (by decide) (fun cn6 => ?_) (fun cn6 => ?_)
      · replace h := (if_neg cn6).symm.trans h
        refine lv_iload_n hx hb d_Pc_nextChoice_46 rfl (lv_at hl 4 rfl) ?_
        refine lv_if_eq (tgt := 70) hx hb d_Pc_nextChoice_47 (by decide) (fun cn7 => ?_) (fun cn7 => ?_)
        · replace h := (if_pos cn7).symm.trans h
          obtain ⟨v8, ev8, h⟩ := k_let_e h
          refine lv_iinc (v := v8) (lv' := [(2, .int v8), (5, .int v5), (0, .int x0), (1, .int x1), (3, .int x3), (4, .int x4)]) hx hb d_Pc_nextChoice_70 hl (k := 3) rfl (by rw [ev8]; rfl) (by decide) rfl (fun ls hl => ?_)
          obtain ⟨v9, ev9, h⟩ := k_let_e h
          refine lv_iinc (v := v9) (lv' := [(4, .int v9), (2, .int v8), (5, .int v5), (0, .int x0), (1, .int x1), (3, .int x3)]) hx hb d_Pc_nextChoice_73 hl (k := 5) rfl (by rw [ev9]; rfl) (by decide) rfl (fun ls hl => ?_)
          refine lv_goto (tgt := 8) hx hb d_Pc_nextChoice_76 (by decide) ?_
          exact ih _ _ _ _ _ _ H locs ls hP hD hS (lv_sub hl [3, 4, 1, 5, 0] rfl) h
        · replace h := (if_neg cn7).symm.trans h
          refine lv_iload_n hx hb d_Pc_nextChoice_50 rfl (lv_at hl 2 rfl) ?_
          refine lv_iload hx hb d_Pc_nextChoice_51 (lv_at hl 0 rfl) ?_
          refine lv_iconst (v := 1) hx hb d_Pc_nextChoice_53 (by decide) ?_
          refine lv_isub hx hb d_Pc_nextChoice_54 ?_
          refine lv_iand hx hb d_Pc_nextChoice_55 ?_
          refine lv_iload_n hx hb d_Pc_nextChoice_56 rfl (lv_at hl 1 rfl) ?_
          refine lv_iload hx hb d_Pc_nextChoice_57 (lv_at hl 0 rfl) ?_
          obtain ⟨v10, σ11, hc12, h⟩ := k_call_e h
          refine k_calli (va_runS (As := [.int x0, .int v5]) (rest := [.int ((x1 &&& (v5 - 1)))]) ⟨hx, hb, hml, hown, hts⟩ (K_Pc_behind l D a c9 H.size hc12) (va_cwS 2 hts (k_gS q_518 q_519 q_16 q_520) rfl rfl rfl h_Pc_behind.2 ⟨Nat.le_of_ble_eq_true rfl, Nat.le_of_ble_eq_true rfl⟩) (k_preS hP hK hN hD) rfl rfl hl.1 rfl (lv_room (Nat.le_of_ble_eq_true rfl)) d_Pc_nextChoice_59 ⟨Nat.zero_le _, Nat.zero_le _⟩) hD hS hA (fun H locs hP hD hS => ?_)
          refine lv_iload_n hx hb d_Pc_nextChoice_62 rfl (lv_at hl 3 rfl) ?_
          refine lv_iconst (v := 1) hx hb d_Pc_nextChoice_63 (by decide) ?_
          refine lv_iadd hx hb d_Pc_nextChoice_64 ?_
          obtain ⟨v13, σ14, hc15, h⟩ := k_call_e h
          refine k_calli (va_runS (As := [.int v10, .int ((x2 + 1))]) (rest := [.int ((x1 &&& (v5 - 1)))]) ⟨hx, hb, hml, hown, hts⟩ (K_Pc_lowest l D a c9 H.size hc15) (va_cwS 2 hts (k_gS q_521 q_503 q_16 q_504) rfl rfl rfl h_Pc_lowest.2 ⟨Nat.le_of_ble_eq_true rfl, Nat.le_of_ble_eq_true rfl⟩) (k_preS hP hK hN hD) rfl rfl hl.1 rfl (lv_room (Nat.le_of_ble_eq_true rfl)) d_Pc_nextChoice_65 ⟨Nat.zero_le _, Nat.zero_le _⟩) hD hS hA (fun H locs hP hD hS => ?_)
          refine lv_ior hx hb d_Pc_nextChoice_68 ?_
          cases h
          exact k_iret hx hb hr hlk hP hS d_Pc_nextChoice_69
      · replace h := (if_pos cn6).symm.trans h
        refine lv_iload_n hx hb d_Pc_nextChoice_26 rfl (lv_at hl 4 rfl) ?_
        refine lv_if_ne (tgt := 37) hx hb d_Pc_nextChoice_27 (by decide) (fun cn16 => ?_) (fun cn16 => ?_)
        · replace h := (if_neg cn16).symm.trans h
          refine lv_iconst (v := 1) hx hb d_Pc_nextChoice_37 (by decide) ?_
          refine lv_goto (tgt := 42) hx hb d_Pc_nextChoice_38 (by decide) ?_
          refine lv_istore_n (lv' := [(3, .int 1), (5, .int v5), (0, .int x0), (1, .int x1), (2, .int x2), (4, .int x4)]) hx hb d_Pc_nextChoice_42 rfl hl (by decide) rfl (fun ls hl => ?_)
          refine lv_goto (tgt := 73) hx hb d_Pc_nextChoice_43 (by decide) ?_
          obtain ⟨v17, ev17, h⟩ := k_let_e h
          refine lv_iinc (v := v17) (lv' := [(4, .int v17), (3, .int 1), (5, .int v5), (0, .int x0), (1, .int x1), (2, .int x2)]) hx hb d_Pc_nextChoice_73 hl (k := 5) rfl (by rw [ev17]; rfl) (by decide) rfl (fun ls hl => ?_)
          refine lv_goto (tgt := 8) hx hb d_Pc_nextChoice_76 (by decide) ?_
          exact ih _ _ _ _ _ _ H locs ls hP hD hS (lv_sub hl [3, 4, 5, 1, 0] rfl) h
        · replace h := (if_pos cn16).symm.trans h
          refine lv_iload_n hx hb d_Pc_nextChoice_30 rfl (lv_at hl 1 rfl) ?_
          refine lv_iload hx hb d_Pc_nextChoice_31 (lv_at hl 0 rfl) ?_
          refine lv_iand hx hb d_Pc_nextChoice_33 ?_
          refine lv_if_eq (tgt := 41) hx hb d_Pc_nextChoice_34 (by decide) (fun cn18 => ?_) (fun cn18 => ?_)
          · replace h := (if_pos cn18).symm.trans h
            refine lv_iconst (v := 0) hx hb d_Pc_nextChoice_41 (by decide) ?_
            refine lv_istore_n (lv' := [(3, .int 0), (5, .int v5), (0, .int x0), (1, .int x1), (2, .int x2), (4, .int x4)]) hx hb d_Pc_nextChoice_42 rfl hl (by decide) rfl (fun ls hl => ?_)
            refine lv_goto (tgt := 73) hx hb d_Pc_nextChoice_43 (by decide) ?_
            obtain ⟨v19, ev19, h⟩ := k_let_e h
            refine lv_iinc (v := v19) (lv' := [(4, .int v19), (3, .int 0), (5, .int v5), (0, .int x0), (1, .int x1), (2, .int x2)]) hx hb d_Pc_nextChoice_73 hl (k := 5) rfl (by rw [ev19]; rfl) (by decide) rfl (fun ls hl => ?_)
            refine lv_goto (tgt := 8) hx hb d_Pc_nextChoice_76 (by decide) ?_
            exact ih _ _ _ _ _ _ H locs ls hP hD hS (lv_sub hl [3, 4, 5, 1, 0] rfl) h
          · replace h := (if_neg cn18).symm.trans h
            refine lv_iconst (v := 1) hx hb d_Pc_nextChoice_37 (by decide) ?_
            refine lv_goto (tgt := 42) hx hb d_Pc_nextChoice_38 (by decide) ?_
            refine lv_istore_n (lv' := [(3, .int 1), (5, .int v5), (0, .int x0), (1, .int x1), (2, .int x2), (4, .int x4)]) hx hb d_Pc_nextChoice_42 rfl hl (by decide) rfl (fun ls hl => ?_)
            refine lv_goto (tgt := 73) hx hb d_Pc_nextChoice_43 (by decide) ?_
            obtain ⟨v20, ev20, h⟩ := k_let_e h
            refine lv_iinc (v := v20) (lv' := [(4, .int v20), (3, .int 1), (5, .int v5), (0, .int x0), (1, .int x1), (2, .int x2)]) hx hb d_Pc_nextChoice_73 hl (k := 5) rfl (by rw [ev20]; rfl) (by decide) rfl (fun ls hl => ?_)
            refine lv_goto (tgt := 8) hx hb d_Pc_nextChoice_76 (by decide) ?_
            exact ih _ _ _ _ _ _ H locs ls hP hD hS (lv_sub hl [3, 4, 5, 1, 0] rfl) h
def M_Pc_nextChoice (σ : kS) (x0 x1 : Int32) : Option (Int32 × kS) := M_Pc_nextChoice_8 k_fu σ x0 x1 0 0 11
set_option maxHeartbeats 4000000 in
set_option maxRecDepth 100000 in
theorem B_Pc_nextChoice_0 {p : Program} {l : Launch} {e : Env} {s : State} {m : MethodId} {args : Array Value} {below : List Frame} {meth : Method} {c : Code} {D : va_G} {a : Nat → Nat} {c9 : Nat → ClassId} {A : Nat → Prop} {r9 : Int32} {σo : kS} (C0 : k_Cx D c9 p s m args meth c R_Pc c_Pc_nextChoice 6 (some .int) A) (σ : kS) (x0 x1 : Int32) (H : Heap) (locs : List Loc) (ls : Array Slot) (hP : va_P D kcl (kw a c9 σ) H) (hD : va_D A (kw a c9 σ)) (hS : va_S A s.heap H locs) (hl : lv_has ls 6 [(0, .int x0), (1, .int x1)]) (h : M_Pc_nextChoice σ x0 x1 = some (r9, σo)) : W p l e rm_Pc_nextChoice s m args below meth c H locs 0 0 (MQ below (k_Qi D a c9 r9 σo A) args s 0 0 A) (F0 m 0 ls []) := by
  obtain ⟨hx, hb, hml, hown, hts, hr, hlk, hK, hN, hA⟩ := id C0
  unfold M_Pc_nextChoice at h
  refine lv_iconst (v := 0) hx hb d_Pc_nextChoice_0 (by decide) ?_
  refine lv_istore_n (lv' := [(2, .int 0), (0, .int x0), (1, .int x1)]) hx hb d_Pc_nextChoice_1 rfl hl (by decide) rfl (fun ls hl => ?_)
  refine lv_iconst (v := 0) hx hb d_Pc_nextChoice_2 (by decide) ?_
  refine lv_istore_n (lv' := [(3, .int 0), (2, .int 0), (0, .int x0), (1, .int x1)]) hx hb d_Pc_nextChoice_3 rfl hl (by decide) rfl (fun ls hl => ?_)
  refine lv_bipush (v := 11) hx hb d_Pc_nextChoice_4 (by decide) ?_
  refine lv_istore (lv' := [(4, .int 11), (3, .int 0), (2, .int 0), (0, .int x0), (1, .int x1)]) hx hb d_Pc_nextChoice_6 hl (by decide) rfl (fun ls hl => ?_)
  exact B_Pc_nextChoice_8 C0 k_fu _ _ _ _ _ _ H locs ls hP hD hS (lv_sub hl [3, 4, 2, 1, 0] rfl) h
theorem K_Pc_nextChoice (l : Launch) (D : va_G) (a : Nat → Nat) (c9 : Nat → ClassId) (sz : Nat) {σ : kS} {x0 x1 : Int32} {r9 : Int32} {σo : kS} (h : M_Pc_nextChoice σ x0 x1 = some (r9, σo)) : Met l y_Pc_nextChoice (Cond.code y_Pc_nextChoice c_Pc_nextChoice 6 (some .int) :: kG) rm_Pc_nextChoice (k_Pc D a c9 sz σ [.int x0, .int x1]) (k_Qi D a c9 r9 σo (k_A a c9 σ sz)) 0 0 (k_A a c9 σ sz) :=
  k_met (Qf := k_Qi D a c9 r9 σo) (by decide) (Nat.le_of_ble_eq_true rfl) (fun p e s m args below meth c A ls C0 hP hD hS hl => B_Pc_nextChoice_0 C0 σ x0 x1 s.heap [] ls hP hD hS hl h)
def rm_Pl_slotCount : Room := { frames := 0, cells := 0, slots := 0, locals := 0 }
def M_Pl_slotCount (σ : kS) : Option (Int32 × kS) := some (σ.1 8, σ)
set_option maxHeartbeats 4000000 in
set_option maxRecDepth 100000 in
theorem B_Pl_slotCount_0 {p : Program} {l : Launch} {e : Env} {s : State} {m : MethodId} {args : Array Value} {below : List Frame} {meth : Method} {c : Code} {D : va_G} {a : Nat → Nat} {c9 : Nat → ClassId} {A : Nat → Prop} {r9 : Int32} {σo : kS} (C0 : k_Cx D c9 p s m args meth c R_Pl c_Pl_slotCount 1 (some .int) A) (σ : kS) (H : Heap) (locs : List Loc) (ls : Array Slot) (hP : va_P D kcl (kw a c9 σ) H) (hD : va_D A (kw a c9 σ)) (hS : va_S A s.heap H locs) (hl : lv_has ls 1 [(0, .ref (a 3))]) (h : M_Pl_slotCount σ  = some (r9, σo)) : W p l e rm_Pl_slotCount s m args below meth c H locs 0 0 (MQ below (k_Qi D a c9 r9 σo A) args s 0 0 A) (F0 m 0 ls []) := by
  obtain ⟨hx, hb, hml, hown, hts, hr, hlk, hK, hN, hA⟩ := id C0
  unfold M_Pl_slotCount at h
  refine lv_aload_n hx hb d_Pl_slotCount_0 rfl (lv_at hl 0 rfl) ?_
  refine va_get (ci := 5) (C := R_Pl) (T := T_Pl) (N := 4) hx hb hts in_Pl hown hK hP 3 kw_3 rfl 0 (by decide) (hts _ q_87) (fun _ h9 => h9) rfl d_Pl_slotCount_1 ?_
  cases h
  exact k_iret hx hb hr hlk hP hS d_Pl_slotCount_4
theorem K_Pl_slotCount (l : Launch) (D : va_G) (a : Nat → Nat) (c9 : Nat → ClassId) (sz : Nat) {σ : kS} {r9 : Int32} {σo : kS} (h : M_Pl_slotCount σ  = some (r9, σo)) : Met l y_Pl_slotCount (Cond.code y_Pl_slotCount c_Pl_slotCount 1 (some .int) :: kG) rm_Pl_slotCount (k_Pc D a c9 sz σ [.ref (a 3)]) (k_Qi D a c9 r9 σo (k_A a c9 σ sz)) 0 0 (k_A a c9 σ sz) :=
  k_met (Qf := k_Qi D a c9 r9 σo) (by decide) (Nat.le_of_ble_eq_true rfl) (fun p e s m args below meth c A ls C0 hP hD hS hl => B_Pl_slotCount_0 C0 σ  s.heap [] ls hP hD hS hl h)
def rm_Pl_treeAt : Room := { frames := 0, cells := 0, slots := 0, locals := 0 }
def M_Pl_treeAt (σ : kS) (x1 : Int32) : Option (Int32 × kS) := k_ld (σ.2.1 18) 70 (x1) fun v1 => some (v1, σ)
set_option maxHeartbeats 4000000 in
set_option maxRecDepth 100000 in
theorem B_Pl_treeAt_0 {p : Program} {l : Launch} {e : Env} {s : State} {m : MethodId} {args : Array Value} {below : List Frame} {meth : Method} {c : Code} {D : va_G} {a : Nat → Nat} {c9 : Nat → ClassId} {A : Nat → Prop} {r9 : Int32} {σo : kS} (C0 : k_Cx D c9 p s m args meth c R_Pl c_Pl_treeAt 2 (some .int) A) (σ : kS) (x1 : Int32) (H : Heap) (locs : List Loc) (ls : Array Slot) (hP : va_P D kcl (kw a c9 σ) H) (hD : va_D A (kw a c9 σ)) (hS : va_S A s.heap H locs) (hl : lv_has ls 2 [(0, .ref (a 3)), (1, .int x1)]) (h : M_Pl_treeAt σ x1 = some (r9, σo)) : W p l e rm_Pl_treeAt s m args below meth c H locs 0 0 (MQ below (k_Qi D a c9 r9 σo A) args s 0 0 A) (F0 m 0 ls []) := by
  obtain ⟨hx, hb, hml, hown, hts, hr, hlk, hK, hN, hA⟩ := id C0
  unfold M_Pl_treeAt at h
  refine lv_aload_n hx hb d_Pl_treeAt_0 rfl (lv_at hl 0 rfl) ?_
  refine va_get (ci := 5) (C := R_Pl) (T := T_Pl) (N := 4) hx hb hts in_Pl hown hK hP 3 kw_3 rfl 1 (by decide) (hts _ q_88) (fun _ h9 => h9) rfl d_Pl_treeAt_1 ?_
  refine lv_iload_n hx hb d_Pl_treeAt_4 rfl (lv_at hl 1 rfl) ?_
  obtain ⟨v1, ev1, hv1, h⟩ := k_ld_e h
  refine va_iald hx hb hK hP 25 0 kw_25 rfl hv1 d_Pl_treeAt_5 (k_top ev1 ?_)
  cases h
  exact k_iret hx hb hr hlk hP hS d_Pl_treeAt_6
theorem K_Pl_treeAt (l : Launch) (D : va_G) (a : Nat → Nat) (c9 : Nat → ClassId) (sz : Nat) {σ : kS} {x1 : Int32} {r9 : Int32} {σo : kS} (h : M_Pl_treeAt σ x1 = some (r9, σo)) : Met l y_Pl_treeAt (Cond.code y_Pl_treeAt c_Pl_treeAt 2 (some .int) :: kG) rm_Pl_treeAt (k_Pc D a c9 sz σ [.ref (a 3), .int x1]) (k_Qi D a c9 r9 σo (k_A a c9 σ sz)) 0 0 (k_A a c9 σ sz) :=
  k_met (Qf := k_Qi D a c9 r9 σo) (by decide) (Nat.le_of_ble_eq_true rfl) (fun p e s m args below meth c A ls C0 hP hD hS hl => B_Pl_treeAt_0 C0 σ x1 s.heap [] ls hP hD hS hl h)
def rm_Pl_parentOf : Room := { frames := 0, cells := 0, slots := 0, locals := 0 }
def M_Pl_parentOf (σ : kS) (x1 : Int32) : Option (Int32 × kS) := k_ld (σ.2.1 19) 70 (x1) fun v1 => some (v1, σ)
set_option maxHeartbeats 4000000 in
set_option maxRecDepth 100000 in
theorem B_Pl_parentOf_0 {p : Program} {l : Launch} {e : Env} {s : State} {m : MethodId} {args : Array Value} {below : List Frame} {meth : Method} {c : Code} {D : va_G} {a : Nat → Nat} {c9 : Nat → ClassId} {A : Nat → Prop} {r9 : Int32} {σo : kS} (C0 : k_Cx D c9 p s m args meth c R_Pl c_Pl_parentOf 2 (some .int) A) (σ : kS) (x1 : Int32) (H : Heap) (locs : List Loc) (ls : Array Slot) (hP : va_P D kcl (kw a c9 σ) H) (hD : va_D A (kw a c9 σ)) (hS : va_S A s.heap H locs) (hl : lv_has ls 2 [(0, .ref (a 3)), (1, .int x1)]) (h : M_Pl_parentOf σ x1 = some (r9, σo)) : W p l e rm_Pl_parentOf s m args below meth c H locs 0 0 (MQ below (k_Qi D a c9 r9 σo A) args s 0 0 A) (F0 m 0 ls []) := by
  obtain ⟨hx, hb, hml, hown, hts, hr, hlk, hK, hN, hA⟩ := id C0
  unfold M_Pl_parentOf at h
  refine lv_aload_n hx hb d_Pl_parentOf_0 rfl (lv_at hl 0 rfl) ?_
  refine va_get (ci := 5) (C := R_Pl) (T := T_Pl) (N := 4) hx hb hts in_Pl hown hK hP 3 kw_3 rfl 2 (by decide) (hts _ q_89) (fun _ h9 => h9) rfl d_Pl_parentOf_1 ?_
  refine lv_iload_n hx hb d_Pl_parentOf_4 rfl (lv_at hl 1 rfl) ?_
  obtain ⟨v1, ev1, hv1, h⟩ := k_ld_e h
  refine va_iald hx hb hK hP 26 0 kw_26 rfl hv1 d_Pl_parentOf_5 (k_top ev1 ?_)
  cases h
  exact k_iret hx hb hr hlk hP hS d_Pl_parentOf_6
theorem K_Pl_parentOf (l : Launch) (D : va_G) (a : Nat → Nat) (c9 : Nat → ClassId) (sz : Nat) {σ : kS} {x1 : Int32} {r9 : Int32} {σo : kS} (h : M_Pl_parentOf σ x1 = some (r9, σo)) : Met l y_Pl_parentOf (Cond.code y_Pl_parentOf c_Pl_parentOf 2 (some .int) :: kG) rm_Pl_parentOf (k_Pc D a c9 sz σ [.ref (a 3), .int x1]) (k_Qi D a c9 r9 σo (k_A a c9 σ sz)) 0 0 (k_A a c9 σ sz) :=
  k_met (Qf := k_Qi D a c9 r9 σo) (by decide) (Nat.le_of_ble_eq_true rfl) (fun p e s m args below meth c A ls C0 hP hD hS hl => B_Pl_parentOf_0 C0 σ x1 s.heap [] ls hP hD hS hl h)
def rm_Pl_isLastInRow : Room := { frames := 0, cells := 0, slots := 0, locals := 0 }
def M_Pl_isLastInRow (σ : kS) (x1 : Int32) : Option (Int32 × kS) := k_ld (σ.2.1 20) 70 (x1) fun v1 => k_z (v1) (some (v1, σ))
set_option maxHeartbeats 4000000 in
set_option maxRecDepth 100000 in
theorem B_Pl_isLastInRow_0 {p : Program} {l : Launch} {e : Env} {s : State} {m : MethodId} {args : Array Value} {below : List Frame} {meth : Method} {c : Code} {D : va_G} {a : Nat → Nat} {c9 : Nat → ClassId} {A : Nat → Prop} {r9 : Int32} {σo : kS} (C0 : k_Cx D c9 p s m args meth c R_Pl c_Pl_isLastInRow 2 (some .boolean) A) (σ : kS) (x1 : Int32) (H : Heap) (locs : List Loc) (ls : Array Slot) (hP : va_P D kcl (kw a c9 σ) H) (hD : va_D A (kw a c9 σ)) (hS : va_S A s.heap H locs) (hl : lv_has ls 2 [(0, .ref (a 3)), (1, .int x1)]) (h : M_Pl_isLastInRow σ x1 = some (r9, σo)) : W p l e rm_Pl_isLastInRow s m args below meth c H locs 0 0 (MQ below (k_Qi D a c9 r9 σo A) args s 0 0 A) (F0 m 0 ls []) := by
  obtain ⟨hx, hb, hml, hown, hts, hr, hlk, hK, hN, hA⟩ := id C0
  unfold M_Pl_isLastInRow at h
  refine lv_aload_n hx hb d_Pl_isLastInRow_0 rfl (lv_at hl 0 rfl) ?_
  refine va_get (ci := 5) (C := R_Pl) (T := T_Pl) (N := 4) hx hb hts in_Pl hown hK hP 3 kw_3 rfl 3 (by decide) (hts _ q_90) (fun _ h9 => h9) rfl d_Pl_isLastInRow_1 ?_
  refine lv_iload_n hx hb d_Pl_isLastInRow_4 rfl (lv_at hl 1 rfl) ?_
  obtain ⟨v1, ev1, hv1, h⟩ := k_ld_e h
  refine va_zald hx hb hK hP 27 1 kw_27 rfl hv1 d_Pl_isLastInRow_5 (k_top ev1 ?_)
  obtain ⟨hz, h⟩ := k_z_e h
  cases h
  exact k_zret hz hx hb hr hlk hP hS d_Pl_isLastInRow_6
theorem K_Pl_isLastInRow (l : Launch) (D : va_G) (a : Nat → Nat) (c9 : Nat → ClassId) (sz : Nat) {σ : kS} {x1 : Int32} {r9 : Int32} {σo : kS} (h : M_Pl_isLastInRow σ x1 = some (r9, σo)) : Met l y_Pl_isLastInRow (Cond.code y_Pl_isLastInRow c_Pl_isLastInRow 2 (some .boolean) :: kG) rm_Pl_isLastInRow (k_Pc D a c9 sz σ [.ref (a 3), .int x1]) (k_Qi D a c9 r9 σo (k_A a c9 σ sz)) 0 0 (k_A a c9 σ sz) :=
  k_met (Qf := k_Qi D a c9 r9 σo) (by decide) (Nat.le_of_ble_eq_true rfl) (fun p e s m args below meth c A ls C0 hP hD hS hl => B_Pl_isLastInRow_0 C0 σ x1 s.heap [] ls hP hD hS hl h)
def rm_Pl_layParts (d : Nat) : Room := { frames := d + 1, cells := 0, slots := 0, locals := d * 27 + 22 }
def M_Pl_layParts_91 (selfR : kS → Int32 → Int32 → Option (Int32 × kS)) (rec26 : kS → Int32 → Int32 → Int32 → Int32 → Int32 → Option (Int32 × kS)) (σ : kS) (x2 x3 x4 x5 x6 x7 y0 y1 : Int32) : Option (Int32 × kS) := k_st σ 20 70 (y1) (vp_nar .boolean (y0)) fun σ1 => k_set σ1 8 ((σ1.1 8 + 1)) fun σ2 => k_call (selfR σ2 x7 ((x3 + 1))) fun _ σ4 => k_let (x6 + 1) fun v6 => rec26 σ4 x2 x3 x4 x5 v6
set_option maxHeartbeats 4000000 in
set_option maxRecDepth 100000 in
theorem B_Pl_layParts_91 {p : Program} {l : Launch} {e : Env} {s : State} {m : MethodId} {args : Array Value} {below : List Frame} {meth : Method} {c : Code} {D : va_G} {a : Nat → Nat} {c9 : Nat → ClassId} {A : Nat → Prop} {r9 : Int32} {σo : kS} (C0 : k_Cx D c9 p s m args meth c R_Pl c_Pl_layParts 8 none A) {d : Nat} {selfR : kS → Int32 → Int32 → Option (Int32 × kS)} (hR : ∀ (sz : Nat) {σ : kS} {z0 z1 : Int32} {r : Int32} {σ' : kS}, selfR σ z0 z1 = some (r, σ') → Met l y_Pl_layParts (Cond.code y_Pl_layParts c_Pl_layParts 8 none :: kG) (rm_Pl_layParts d) (k_Pc D a c9 sz σ [.ref (a 3), .ref (a 1), .int z0, .int z1]) (k_Qv D a c9 σ' (k_A a c9 σ sz)) 0 0 (k_A a c9 σ sz)) {rec26 : kS → Int32 → Int32 → Int32 → Int32 → Int32 → Option (Int32 × kS)} (hrec26 : ∀ (σ : kS) (x2 x3 x4 x5 x6 : Int32) (H : Heap) (locs : List Loc) (ls : Array Slot), va_P D kcl (kw a c9 σ) H → va_D A (kw a c9 σ) → va_S A s.heap H locs → lv_has ls 8 [(0, .ref (a 3)), (1, .ref (a 1)), (2, .int x2), (3, .int x3), (4, .int x4), (5, .int x5), (6, .int x6)] → rec26 σ x2 x3 x4 x5 x6 = some (r9, σo) → W p l e (rm_Pl_layParts (d + 1)) s m args below meth c H locs 0 0 (MQ below (k_Qv D a c9 σo A) args s 0 0 A) (F0 m 26 ls [])) (σ : kS) (x2 x3 x4 x5 x6 x7 y0 y1 : Int32) (H : Heap) (locs : List Loc) (ls : Array Slot) (hP : va_P D kcl (kw a c9 σ) H) (hD : va_D A (kw a c9 σ)) (hS : va_S A s.heap H locs) (hl : lv_has ls 8 [(0, .ref (a 3)), (1, .ref (a 1)), (2, .int x2), (3, .int x3), (4, .int x4), (5, .int x5), (6, .int x6), (7, .int x7)]) (h : M_Pl_layParts_91 selfR rec26 σ x2 x3 x4 x5 x6 x7 y0 y1 = some (r9, σo)) : W p l e (rm_Pl_layParts (d + 1)) s m args below meth c H locs 0 0 (MQ below (k_Qv D a c9 σo A) args s 0 0 A) (F0 m 91 ls [.int y0, .int y1, .ref (a 27)]) := by
  obtain ⟨hx, hb, hml, hown, hts, hr, hlk, hK, hN, hA⟩ := id C0
  unfold M_Pl_layParts_91 at h
  obtain ⟨σ1, eσ1, hiσ1, h⟩ := k_st_e h
  refine va_zast hx hb hK hP hD hS 27 1 kw_27 rfl hiσ1 d_Pl_layParts_91 (fun H locs hP hD hS => ?_)
  replace hP := k_mvP (kw_s27.trans (congrArg _ eσ1.symm)) hP
  replace hD := k_mvD (kw_s27.trans (congrArg _ eσ1.symm)) hD
  refine lv_aload_n hx hb d_Pl_layParts_92 rfl (lv_at hl 0 rfl) ?_
  refine lv_dup hx hb d_Pl_layParts_93 rfl ?_
  refine va_get (ci := 5) (C := R_Pl) (T := T_Pl) (N := 4) hx hb hts in_Pl hown hK hP 3 kw_3 rfl 0 (by decide) (hts _ q_87) (fun _ h9 => h9) rfl d_Pl_layParts_94 ?_
  refine lv_iconst (v := 1) hx hb d_Pl_layParts_97 (by decide) ?_
  refine lv_iadd hx hb d_Pl_layParts_98 ?_
  obtain ⟨σ2, eσ2, h⟩ := k_set_e h
  refine va_put (ci := 5) (v := .int ((σ1.1 8 + 1))) (ty := .int) (C := R_Pl) (T := T_Pl) (N := 4) hx hb hts in_Pl t_Pl t_Pl_ok n_Pl hown hK hP hD hS 3 kw_3 rfl 0 (by decide) (hts _ q_87) (fun _ h9 => h9) rfl (by decide +kernel) rfl rfl (Nat.le_of_ble_eq_true rfl) d_Pl_layParts_99 (fun H locs hP hD hS => ?_)
  replace hP := k_mvP (kw_f3_0.trans (congrArg _ eσ2.symm)) hP
  replace hD := k_mvD (kw_f3_0.trans (congrArg _ eσ2.symm)) hD
  refine lv_aload_n hx hb d_Pl_layParts_102 rfl (lv_at hl 0 rfl) ?_
  refine lv_aload_n hx hb d_Pl_layParts_103 rfl (lv_at hl 1 rfl) ?_
  refine lv_iload hx hb d_Pl_layParts_104 (lv_at hl 7 rfl) ?_
  refine lv_iload_n hx hb d_Pl_layParts_106 rfl (lv_at hl 3 rfl) ?_
  refine lv_iconst (v := 1) hx hb d_Pl_layParts_107 (by decide) ?_
  refine lv_iadd hx hb d_Pl_layParts_108 ?_
  obtain ⟨v3, σ4, hc5, h⟩ := k_call_e h
  refine k_callv (va_runS (As := [.ref (a 3), .ref (a 1), .int x7, .int ((x3 + 1))]) (rest := []) ⟨hx, hb, hml, hown, hts⟩ (hR H.size hc5) (va_cwS 4 hts (k_gS q_461 q_462 q_4 q_463) rfl rfl rfl h_Pl_layParts.2 ⟨by simp only [rm_Pl_layParts, rm_Pl_layParts]; omega, by simp only [rm_Pl_layParts, rm_Pl_layParts]; omega⟩) (k_preS hP hK hN hD) rfl rfl hl.1 rfl (lv_room (Nat.le_of_ble_eq_true rfl)) d_Pl_layParts_109 ⟨Nat.zero_le _, Nat.zero_le _⟩) hD hS hA (fun H locs hP hD hS => ?_)
  obtain ⟨v6, ev6, h⟩ := k_let_e h
  refine lv_iinc (v := v6) (lv' := [(6, .int v6), (0, .ref (a 3)), (1, .ref (a 1)), (2, .int x2), (3, .int x3), (4, .int x4), (5, .int x5), (7, .int x7)]) hx hb d_Pl_layParts_112 hl (k := 6) rfl (by rw [ev6]; rfl) (by decide) rfl (fun ls hl => ?_)
  refine lv_goto (tgt := 26) hx hb d_Pl_layParts_115 (by decide) ?_
  exact hrec26 _ _ _ _ _ _ H locs ls hP hD hS (lv_sub hl [1, 2, 3, 4, 5, 6, 0] rfl) h
def M_Pl_layParts_26_b (selfR : kS → Int32 → Int32 → Option (Int32 × kS)) (self9 : kS → Int32 → Int32 → Int32 → Int32 → Int32 → Option (Int32 × kS)) (σ : kS) (x2 x3 x4 x5 x6 : Int32) : Option (Int32 × kS) := if x5 ≤ x6 then (some (0, σ)) else (if 70 ≤ σ.1 8 then (some (0, σ)) else (k_let (σ.1 8) fun v3 => k_call (M_F_partAt σ x4 x6) fun v4 σ5 => k_st σ5 18 70 (v3) (v4) fun σ7 => k_st σ7 19 70 (v3) (x2) fun σ8 => if x6 = (x5 - 1) then (M_Pl_layParts_91 selfR self9 σ8 x2 x3 x4 x5 x6 v3 1 v3) else (M_Pl_layParts_91 selfR self9 σ8 x2 x3 x4 x5 x6 v3 0 v3)))
def M_Pl_layParts_26 (selfR : kS → Int32 → Int32 → Option (Int32 × kS)) : Nat → kS → Int32 → Int32 → Int32 → Int32 → Int32 → Option (Int32 × kS)
  | 0 => fun _ _ _ _ _ _ => none
  | n + 1 => M_Pl_layParts_26_b selfR (M_Pl_layParts_26 selfR n)
set_option maxHeartbeats 4000000 in
set_option maxRecDepth 100000 in
theorem B_Pl_layParts_26 {p : Program} {l : Launch} {e : Env} {s : State} {m : MethodId} {args : Array Value} {below : List Frame} {meth : Method} {c : Code} {D : va_G} {a : Nat → Nat} {c9 : Nat → ClassId} {A : Nat → Prop} {r9 : Int32} {σo : kS} (C0 : k_Cx D c9 p s m args meth c R_Pl c_Pl_layParts 8 none A) {d : Nat} {selfR : kS → Int32 → Int32 → Option (Int32 × kS)} (hR : ∀ (sz : Nat) {σ : kS} {z0 z1 : Int32} {r : Int32} {σ' : kS}, selfR σ z0 z1 = some (r, σ') → Met l y_Pl_layParts (Cond.code y_Pl_layParts c_Pl_layParts 8 none :: kG) (rm_Pl_layParts d) (k_Pc D a c9 sz σ [.ref (a 3), .ref (a 1), .int z0, .int z1]) (k_Qv D a c9 σ' (k_A a c9 σ sz)) 0 0 (k_A a c9 σ sz)) : ∀ (n : Nat) (σ : kS) (x2 x3 x4 x5 x6 : Int32) (H : Heap) (locs : List Loc) (ls : Array Slot), va_P D kcl (kw a c9 σ) H → va_D A (kw a c9 σ) → va_S A s.heap H locs → lv_has ls 8 [(0, .ref (a 3)), (1, .ref (a 1)), (2, .int x2), (3, .int x3), (4, .int x4), (5, .int x5), (6, .int x6)] → M_Pl_layParts_26 selfR n σ x2 x3 x4 x5 x6 = some (r9, σo) → W p l e (rm_Pl_layParts (d + 1)) s m args below meth c H locs 0 0 (MQ below (k_Qv D a c9 σo A) args s 0 0 A) (F0 m 26 ls []) := by
  obtain ⟨hx, hb, hml, hown, hts, hr, hlk, hK, hN, hA⟩ := id C0
  intro n
  induction n with
  | zero =>
    intro σ x2 x3 x4 x5 x6 H locs ls hP hD hS hl h
    replace h : (none : Option (Int32 × kS)) = some (r9, σo) := h
    cases h
  | succ n ih =>
    intro σ x2 x3 x4 x5 x6 H locs ls hP hD hS hl h
    replace h : M_Pl_layParts_26_b selfR (M_Pl_layParts_26 selfR n) σ x2 x3 x4 x5 x6 = some (r9, σo) := h
    unfold M_Pl_layParts_26_b at h
    refine lv_iload hx hb d_Pl_layParts_26 (lv_at hl 6 rfl) ?_
    refine lv_iload hx hb d_Pl_layParts_28 (lv_at hl 5 rfl) ?_
    refine lv_icmp_ge (tgt := 118) hx hb d_Pl_layParts_30 (by decide) (fun cn1 => ?_) (fun cn1 => ?_)
    · replace h := (if_pos cn1).symm.trans h
      cases h
      exact k_vret hx hb hr hlk hP hS d_Pl_layParts_118
    · replace h := (if_neg cn1).symm.trans h
      refine lv_aload_n hx hb d_Pl_layParts_33 rfl (lv_at hl 0 rfl) ?_
      refine va_get (ci := 5) (C := R_Pl) (T := T_Pl) (N := 4) hx hb hts in_Pl hown hK hP 3 kw_3 rfl 0 (by decide) (hts _ q_87) (fun _ h9 => h9) rfl d_Pl_layParts_34 ?_
      refine lv_bipush (v := 70) hx hb d_Pl_layParts_37 (by decide) ?_
      refine lv_icmp_ge (tgt := 118) hx hb d_Pl_layParts_39 (by decide) (fun cn2 => ?_) (fun cn2 => ?_)
      · replace h := (if_pos cn2).symm.trans h
        cases h
        exact k_vret hx hb hr hlk hP hS d_Pl_layParts_118
      · replace h := (if_neg cn2).symm.trans h
        refine lv_aload_n hx hb d_Pl_layParts_42 rfl (lv_at hl 0 rfl) ?_
        refine va_get (ci := 5) (C := R_Pl) (T := T_Pl) (N := 4) hx hb hts in_Pl hown hK hP 3 kw_3 rfl 0 (by decide) (hts _ q_87) (fun _ h9 => h9) rfl d_Pl_layParts_43 ?_
        obtain ⟨v3, ev3, h⟩ := k_let_e h
        refine k_top ev3 ?_
        refine lv_istore (lv' := [(7, .int v3), (0, .ref (a 3)), (1, .ref (a 1)), (2, .int x2), (3, .int x3), (4, .int x4), (5, .int x5), (6, .int x6)]) hx hb d_Pl_layParts_46 hl (by decide) rfl (fun ls hl => ?_)
        refine lv_aload_n hx hb d_Pl_layParts_48 rfl (lv_at hl 1 rfl) ?_
        refine va_get (ci := 5) (C := R_Pl) (T := T_Pl) (N := 4) hx hb hts in_Pl hown hK hP 3 kw_3 rfl 1 (by decide) (hts _ q_88) (fun _ h9 => h9) rfl d_Pl_layParts_49 ?_
        refine lv_iload hx hb d_Pl_layParts_52 (lv_at hl 0 rfl) ?_
        refine lv_aload_n hx hb d_Pl_layParts_54 rfl (lv_at hl 2 rfl) ?_
        refine lv_iload hx hb d_Pl_layParts_55 (lv_at hl 5 rfl) ?_
        refine lv_iload hx hb d_Pl_layParts_57 (lv_at hl 7 rfl) ?_
        obtain ⟨v4, σ5, hc6, h⟩ := k_call_e h
        refine k_calli (va_runV (As := [.int x4, .int x6]) (rest := [.int v3, .ref (a 25)]) ⟨hx, hb, hml, hown, hts⟩ (K_F_partAt l D a c9 H.size hc6) (cwV 2 hts (k_gV q_468 q_386 q_387 q_2 q_388) rfl rfl rfl h_F_partAt ⟨by simp only [rm_Pl_layParts, rm_F_partAt]; omega, by simp only [rm_Pl_layParts, rm_F_partAt]; omega⟩) (k_preV (ci := 2) (q0 := 1) rfl kw_1 hP hK hN hD) rfl rfl hl.1 rfl (lv_room (Nat.le_of_ble_eq_true rfl)) d_Pl_layParts_59 ⟨Nat.zero_le _, Nat.zero_le _⟩) hD hS hA (fun H locs hP hD hS => ?_)
        obtain ⟨σ7, eσ7, hiσ7, h⟩ := k_st_e h
        refine va_iast hx hb hK hP hD hS 25 0 kw_25 rfl hiσ7 d_Pl_layParts_62 (fun H locs hP hD hS => ?_)
        replace hP := k_mvP (kw_s25.trans (congrArg _ eσ7.symm)) hP
        replace hD := k_mvD (kw_s25.trans (congrArg _ eσ7.symm)) hD
        refine lv_aload_n hx hb d_Pl_layParts_63 rfl (lv_at hl 1 rfl) ?_
        refine va_get (ci := 5) (C := R_Pl) (T := T_Pl) (N := 4) hx hb hts in_Pl hown hK hP 3 kw_3 rfl 2 (by decide) (hts _ q_89) (fun _ h9 => h9) rfl d_Pl_layParts_64 ?_
        refine lv_iload hx hb d_Pl_layParts_67 (lv_at hl 0 rfl) ?_
        refine lv_iload_n hx hb d_Pl_layParts_69 rfl (lv_at hl 3 rfl) ?_
        obtain ⟨σ8, eσ8, hiσ8, h⟩ := k_st_e h
        refine va_iast hx hb hK hP hD hS 26 0 kw_26 rfl hiσ8 d_Pl_layParts_70 (fun H locs hP hD hS => ?_)
        replace hP := k_mvP (kw_s26.trans (congrArg _ eσ8.symm)) hP
        replace hD := k_mvD (kw_s26.trans (congrArg _ eσ8.symm)) hD
        refine lv_aload_n hx hb d_Pl_layParts_71 rfl (lv_at hl 1 rfl) ?_
        refine va_get (ci := 5) (C := R_Pl) (T := T_Pl) (N := 4) hx hb hts in_Pl hown hK hP 3 kw_3 rfl 3 (by decide) (hts _ q_90) (fun _ h9 => h9) rfl d_Pl_layParts_72 ?_
        refine lv_iload hx hb d_Pl_layParts_75 (lv_at hl 0 rfl) ?_
        refine lv_iload hx hb d_Pl_layParts_77 (lv_at hl 7 rfl) ?_
        refine lv_iload hx hb d_Pl_layParts_79 (lv_at hl 6 rfl) ?_
        refine lv_iconst (v := 1) hx hb d_Pl_layParts_81 (by decide) ?_
        refine lv_isub hx hb d_Pl_layParts_82 ?_
        refine lv_icmp_ne (tgt := 90) hx hb d_Pl_layParts_83 (by decide) (fun cn9 => ?_) (fun cn9 => ?_)
        · replace h := (if_neg cn9).symm.trans h
          refine lv_iconst (v := 0) hx hb d_Pl_layParts_90 (by decide) ?_
          exact B_Pl_layParts_91 C0 hR ih _ _ _ _ _ _ _ _ _ H locs ls hP hD hS (lv_sub hl [1, 2, 3, 4, 5, 6, 7, 0] rfl) h
        · replace h := (if_pos cn9).symm.trans h
          refine lv_iconst (v := 1) hx hb d_Pl_layParts_86 (by decide) ?_
          refine lv_goto (tgt := 91) hx hb d_Pl_layParts_87 (by decide) ?_
          exact B_Pl_layParts_91 C0 hR ih _ _ _ _ _ _ _ _ _ H locs ls hP hD hS (lv_sub hl [1, 2, 3, 4, 5, 6, 7, 0] rfl) h
def M_Pl_layParts (selfR : kS → Int32 → Int32 → Option (Int32 × kS)) (σ : kS) (x2 x3 : Int32) : Option (Int32 × kS) := if x3 ≤ 20 then (k_ld (σ.2.1 18) 70 (x2) fun v2 => k_call (M_F_partCount σ v2) fun v3 σ4 => M_Pl_layParts_26 selfR k_fu σ4 x2 x3 v2 v3 0) else (some (0, σ))
set_option maxHeartbeats 4000000 in
set_option maxRecDepth 100000 in
theorem B_Pl_layParts_0 {p : Program} {l : Launch} {e : Env} {s : State} {m : MethodId} {args : Array Value} {below : List Frame} {meth : Method} {c : Code} {D : va_G} {a : Nat → Nat} {c9 : Nat → ClassId} {A : Nat → Prop} {r9 : Int32} {σo : kS} (C0 : k_Cx D c9 p s m args meth c R_Pl c_Pl_layParts 8 none A) {d : Nat} {selfR : kS → Int32 → Int32 → Option (Int32 × kS)} (hR : ∀ (sz : Nat) {σ : kS} {z0 z1 : Int32} {r : Int32} {σ' : kS}, selfR σ z0 z1 = some (r, σ') → Met l y_Pl_layParts (Cond.code y_Pl_layParts c_Pl_layParts 8 none :: kG) (rm_Pl_layParts d) (k_Pc D a c9 sz σ [.ref (a 3), .ref (a 1), .int z0, .int z1]) (k_Qv D a c9 σ' (k_A a c9 σ sz)) 0 0 (k_A a c9 σ sz)) (σ : kS) (x2 x3 : Int32) (H : Heap) (locs : List Loc) (ls : Array Slot) (hP : va_P D kcl (kw a c9 σ) H) (hD : va_D A (kw a c9 σ)) (hS : va_S A s.heap H locs) (hl : lv_has ls 8 [(0, .ref (a 3)), (1, .ref (a 1)), (2, .int x2), (3, .int x3)]) (h : M_Pl_layParts selfR σ x2 x3 = some (r9, σo)) : W p l e (rm_Pl_layParts (d + 1)) s m args below meth c H locs 0 0 (MQ below (k_Qv D a c9 σo A) args s 0 0 A) (F0 m 0 ls []) := by
  obtain ⟨hx, hb, hml, hown, hts, hr, hlk, hK, hN, hA⟩ := id C0
  unfold M_Pl_layParts at h
  refine lv_iload_n hx hb d_Pl_layParts_0 rfl (lv_at hl 3 rfl) ?_
  refine lv_bipush (v := 20) hx hb d_Pl_layParts_1 (by decide) ?_
  refine lv_icmp_le (tgt := 7) hx hb d_Pl_layParts_3 (by decide) (fun cn1 => ?_) (fun cn1 => ?_)
  · replace h := (if_pos cn1).symm.trans h
    refine lv_aload_n hx hb d_Pl_layParts_7 rfl (lv_at hl 0 rfl) ?_
    refine va_get (ci := 5) (C := R_Pl) (T := T_Pl) (N := 4) hx hb hts in_Pl hown hK hP 3 kw_3 rfl 1 (by decide) (hts _ q_88) (fun _ h9 => h9) rfl d_Pl_layParts_8 ?_
    refine lv_iload_n hx hb d_Pl_layParts_11 rfl (lv_at hl 2 rfl) ?_
    obtain ⟨v2, ev2, hv2, h⟩ := k_ld_e h
    refine va_iald hx hb hK hP 25 0 kw_25 rfl hv2 d_Pl_layParts_12 (k_top ev2 ?_)
    refine lv_istore (lv' := [(4, .int v2), (0, .ref (a 3)), (1, .ref (a 1)), (2, .int x2), (3, .int x3)]) hx hb d_Pl_layParts_13 hl (by decide) rfl (fun ls hl => ?_)
    refine lv_aload_n hx hb d_Pl_layParts_15 rfl (lv_at hl 2 rfl) ?_
    refine lv_iload hx hb d_Pl_layParts_16 (lv_at hl 0 rfl) ?_
    obtain ⟨v3, σ4, hc5, h⟩ := k_call_e h
    refine k_calli (va_runV (As := [.int v2]) (rest := []) ⟨hx, hb, hml, hown, hts⟩ (K_F_partCount l D a c9 H.size hc5) (cwV 1 hts (k_gV q_464 q_465 q_466 q_2 q_467) rfl rfl rfl h_F_partCount ⟨by simp only [rm_Pl_layParts, rm_F_partCount]; omega, by simp only [rm_Pl_layParts, rm_F_partCount]; omega⟩) (k_preV (ci := 2) (q0 := 1) rfl kw_1 hP hK hN hD) rfl rfl hl.1 rfl (lv_room (Nat.le_of_ble_eq_true rfl)) d_Pl_layParts_18 ⟨Nat.zero_le _, Nat.zero_le _⟩) hD hS hA (fun H locs hP hD hS => ?_)
    refine lv_istore (lv' := [(5, .int v3), (4, .int v2), (0, .ref (a 3)), (1, .ref (a 1)), (2, .int x2), (3, .int x3)]) hx hb d_Pl_layParts_21 hl (by decide) rfl (fun ls hl => ?_)
    refine lv_iconst (v := 0) hx hb d_Pl_layParts_23 (by decide) ?_
    refine lv_istore (lv' := [(6, .int 0), (5, .int v3), (4, .int v2), (0, .ref (a 3)), (1, .ref (a 1)), (2, .int x2), (3, .int x3)]) hx hb d_Pl_layParts_24 hl (by decide) rfl (fun ls hl => ?_)
    exact B_Pl_layParts_26 C0 hR k_fu _ _ _ _ _ _ H locs ls hP hD hS (lv_sub hl [3, 4, 5, 6, 2, 1, 0] rfl) h
  · replace h := (if_neg cn1).symm.trans h
    cases h
    exact k_vret hx hb hr hlk hP hS d_Pl_layParts_6
def M_Pl_layParts_r : Nat → kS → Int32 → Int32 → Option (Int32 × kS)
  | 0 => fun _ _ _ => none
  | d + 1 => M_Pl_layParts (M_Pl_layParts_r d)
theorem K_Pl_layParts (l : Launch) (D : va_G) (a : Nat → Nat) (c9 : Nat → ClassId) : ∀ (d sz : Nat) {σ : kS} {x2 x3 : Int32} {r9 : Int32} {σo : kS}, M_Pl_layParts_r d σ x2 x3 = some (r9, σo) → Met l y_Pl_layParts (Cond.code y_Pl_layParts c_Pl_layParts 8 none :: kG) (rm_Pl_layParts d) (k_Pc D a c9 sz σ [.ref (a 3), .ref (a 1), .int x2, .int x3]) (k_Qv D a c9 σo (k_A a c9 σ sz)) 0 0 (k_A a c9 σ sz) := by
  intro d
  induction d with
  | zero => intro sz σ x2 x3 r9 σo h; replace h : (none : Option (Int32 × kS)) = some (r9, σo) := h; cases h
  | succ d ih =>
    intro sz σ x2 x3 r9 σo h
    exact k_met (Qf := k_Qv D a c9 σo) (by decide) (Nat.le_of_ble_eq_true rfl) (fun p e s m args below meth c A ls C0 hP hD hS hl => B_Pl_layParts_0 C0 ih σ x2 x3 s.heap [] ls hP hD hS hl h)
def rm_Pl_lay : Room := { frames := 24, cells := 0, slots := 0, locals := 643 }
def M_Pl_lay (σ : kS) (x2 : Int32) : Option (Int32 × kS) := k_set σ 8 (1) fun σ1 => k_st σ1 18 70 (0) (x2) fun σ2 => k_st σ2 19 70 (0) ((-1)) fun σ3 => k_st σ3 20 70 (0) (vp_nar .boolean (1)) fun σ4 => k_call (M_Pl_layParts_r 22 σ4 0 0) fun _ σ6 => some (0, σ6)
set_option maxHeartbeats 4000000 in
set_option maxRecDepth 100000 in
theorem B_Pl_lay_0 {p : Program} {l : Launch} {e : Env} {s : State} {m : MethodId} {args : Array Value} {below : List Frame} {meth : Method} {c : Code} {D : va_G} {a : Nat → Nat} {c9 : Nat → ClassId} {A : Nat → Prop} {r9 : Int32} {σo : kS} (C0 : k_Cx D c9 p s m args meth c R_Pl c_Pl_lay 3 none A) (σ : kS) (x2 : Int32) (H : Heap) (locs : List Loc) (ls : Array Slot) (hP : va_P D kcl (kw a c9 σ) H) (hD : va_D A (kw a c9 σ)) (hS : va_S A s.heap H locs) (hl : lv_has ls 3 [(0, .ref (a 3)), (1, .ref (a 1)), (2, .int x2)]) (h : M_Pl_lay σ x2 = some (r9, σo)) : W p l e rm_Pl_lay s m args below meth c H locs 0 0 (MQ below (k_Qv D a c9 σo A) args s 0 0 A) (F0 m 0 ls []) := by
  obtain ⟨hx, hb, hml, hown, hts, hr, hlk, hK, hN, hA⟩ := id C0
  unfold M_Pl_lay at h
  refine lv_aload_n hx hb d_Pl_lay_0 rfl (lv_at hl 0 rfl) ?_
  refine lv_iconst (v := 1) hx hb d_Pl_lay_1 (by decide) ?_
  obtain ⟨σ1, eσ1, h⟩ := k_set_e h
  refine va_put (ci := 5) (v := .int 1) (ty := .int) (C := R_Pl) (T := T_Pl) (N := 4) hx hb hts in_Pl t_Pl t_Pl_ok n_Pl hown hK hP hD hS 3 kw_3 rfl 0 (by decide) (hts _ q_87) (fun _ h9 => h9) rfl (by decide +kernel) rfl rfl (Nat.le_of_ble_eq_true rfl) d_Pl_lay_2 (fun H locs hP hD hS => ?_)
  replace hP := k_mvP (kw_f3_0.trans (congrArg _ eσ1.symm)) hP
  replace hD := k_mvD (kw_f3_0.trans (congrArg _ eσ1.symm)) hD
  refine lv_aload_n hx hb d_Pl_lay_5 rfl (lv_at hl 0 rfl) ?_
  refine va_get (ci := 5) (C := R_Pl) (T := T_Pl) (N := 4) hx hb hts in_Pl hown hK hP 3 kw_3 rfl 1 (by decide) (hts _ q_88) (fun _ h9 => h9) rfl d_Pl_lay_6 ?_
  refine lv_iconst (v := 0) hx hb d_Pl_lay_9 (by decide) ?_
  refine lv_iload_n hx hb d_Pl_lay_10 rfl (lv_at hl 2 rfl) ?_
  obtain ⟨σ2, eσ2, hiσ2, h⟩ := k_st_e h
  refine va_iast hx hb hK hP hD hS 25 0 kw_25 rfl hiσ2 d_Pl_lay_11 (fun H locs hP hD hS => ?_)
  replace hP := k_mvP (kw_s25.trans (congrArg _ eσ2.symm)) hP
  replace hD := k_mvD (kw_s25.trans (congrArg _ eσ2.symm)) hD
  refine lv_aload_n hx hb d_Pl_lay_12 rfl (lv_at hl 0 rfl) ?_
  refine va_get (ci := 5) (C := R_Pl) (T := T_Pl) (N := 4) hx hb hts in_Pl hown hK hP 3 kw_3 rfl 2 (by decide) (hts _ q_89) (fun _ h9 => h9) rfl d_Pl_lay_13 ?_
  refine lv_iconst (v := 0) hx hb d_Pl_lay_16 (by decide) ?_
  refine lv_iconst (v := (-1)) hx hb d_Pl_lay_17 (by decide) ?_
  obtain ⟨σ3, eσ3, hiσ3, h⟩ := k_st_e h
  refine va_iast hx hb hK hP hD hS 26 0 kw_26 rfl hiσ3 d_Pl_lay_18 (fun H locs hP hD hS => ?_)
  replace hP := k_mvP (kw_s26.trans (congrArg _ eσ3.symm)) hP
  replace hD := k_mvD (kw_s26.trans (congrArg _ eσ3.symm)) hD
  refine lv_aload_n hx hb d_Pl_lay_19 rfl (lv_at hl 0 rfl) ?_
  refine va_get (ci := 5) (C := R_Pl) (T := T_Pl) (N := 4) hx hb hts in_Pl hown hK hP 3 kw_3 rfl 3 (by decide) (hts _ q_90) (fun _ h9 => h9) rfl d_Pl_lay_20 ?_
  refine lv_iconst (v := 0) hx hb d_Pl_lay_23 (by decide) ?_
  refine lv_iconst (v := 1) hx hb d_Pl_lay_24 (by decide) ?_
  obtain ⟨σ4, eσ4, hiσ4, h⟩ := k_st_e h
  refine va_zast hx hb hK hP hD hS 27 1 kw_27 rfl hiσ4 d_Pl_lay_25 (fun H locs hP hD hS => ?_)
  replace hP := k_mvP (kw_s27.trans (congrArg _ eσ4.symm)) hP
  replace hD := k_mvD (kw_s27.trans (congrArg _ eσ4.symm)) hD
  refine lv_aload_n hx hb d_Pl_lay_26 rfl (lv_at hl 0 rfl) ?_
  refine lv_aload_n hx hb d_Pl_lay_27 rfl (lv_at hl 1 rfl) ?_
  refine lv_iconst (v := 0) hx hb d_Pl_lay_28 (by decide) ?_
  refine lv_iconst (v := 0) hx hb d_Pl_lay_29 (by decide) ?_
  obtain ⟨v5, σ6, hc7, h⟩ := k_call_e h
  refine k_callv (va_runS (As := [.ref (a 3), .ref (a 1), .int 0, .int 0]) (rest := []) ⟨hx, hb, hml, hown, hts⟩ (K_Pl_layParts l D a c9 22 H.size hc7) (va_cwS 4 hts (k_gS q_461 q_462 q_4 q_463) rfl rfl rfl h_Pl_layParts.2 ⟨Nat.le_of_ble_eq_true rfl, Nat.le_of_ble_eq_true rfl⟩) (k_preS hP hK hN hD) rfl rfl hl.1 rfl (lv_room (Nat.le_of_ble_eq_true rfl)) d_Pl_lay_30 ⟨Nat.zero_le _, Nat.zero_le _⟩) hD hS hA (fun H locs hP hD hS => ?_)
  cases h
  exact k_vret hx hb hr hlk hP hS d_Pl_lay_33
theorem K_Pl_lay (l : Launch) (D : va_G) (a : Nat → Nat) (c9 : Nat → ClassId) (sz : Nat) {σ : kS} {x2 : Int32} {r9 : Int32} {σo : kS} (h : M_Pl_lay σ x2 = some (r9, σo)) : Met l y_Pl_lay (Cond.code y_Pl_lay c_Pl_lay 3 none :: kG) rm_Pl_lay (k_Pc D a c9 sz σ [.ref (a 3), .ref (a 1), .int x2]) (k_Qv D a c9 σo (k_A a c9 σ sz)) 0 0 (k_A a c9 σ sz) :=
  k_met (Qf := k_Qv D a c9 σo) (by decide) (Nat.le_of_ble_eq_true rfl) (fun p e s m args below meth c A ls C0 hP hD hS hl => B_Pl_lay_0 C0 σ x2 s.heap [] ls hP hD hS hl h)
def rm_In_bitCount : Room := { frames := 0, cells := 0, slots := 0, locals := 0 }
def M_In_bitCount (σ : kS) (x0 : Int32) : Option (Int32 × kS) := k_let ((x0 - (((x0).toUInt32 >>> ((1 : Int32).toUInt32 &&& Int32.toUInt32 31)).toInt32 &&& 1431655765))) fun v1 => k_let (((v1 &&& 858993459) + (((v1).toUInt32 >>> ((2 : Int32).toUInt32 &&& Int32.toUInt32 31)).toInt32 &&& 858993459))) fun v2 => k_let (((v2 + ((v2).toUInt32 >>> ((4 : Int32).toUInt32 &&& Int32.toUInt32 31)).toInt32) &&& 252645135)) fun v3 => k_let ((v3 + ((v3).toUInt32 >>> ((8 : Int32).toUInt32 &&& Int32.toUInt32 31)).toInt32)) fun v4 => k_let ((v4 + ((v4).toUInt32 >>> ((16 : Int32).toUInt32 &&& Int32.toUInt32 31)).toInt32)) fun v5 => some ((v5 &&& 63), σ)
set_option maxHeartbeats 4000000 in
set_option maxRecDepth 100000 in
theorem B_In_bitCount_0 {p : Program} {l : Launch} {e : Env} {s : State} {m : MethodId} {args : Array Value} {below : List Frame} {meth : Method} {c : Code} {D : va_G} {a : Nat → Nat} {c9 : Nat → ClassId} {A : Nat → Prop} {r9 : Int32} {σo : kS} (C0 : k_Cx D c9 p s m args meth c R_In c_In_bitCount 1 (some .int) A) (σ : kS) (x0 : Int32) (H : Heap) (locs : List Loc) (ls : Array Slot) (hP : va_P D kcl (kw a c9 σ) H) (hD : va_D A (kw a c9 σ)) (hS : va_S A s.heap H locs) (hl : lv_has ls 1 [(0, .int x0)]) (h : M_In_bitCount σ x0 = some (r9, σo)) : W p l e rm_In_bitCount s m args below meth c H locs 0 0 (MQ below (k_Qi D a c9 r9 σo A) args s 0 0 A) (F0 m 0 ls []) := by
  obtain ⟨hx, hb, hml, hown, hts, hr, hlk, hK, hN, hA⟩ := id C0
  unfold M_In_bitCount at h
  refine lv_iload_n hx hb d_In_bitCount_0 rfl (lv_at hl 0 rfl) ?_
  refine lv_iload_n hx hb d_In_bitCount_1 rfl (lv_at hl 0 rfl) ?_
  refine lv_iconst (v := 1) hx hb d_In_bitCount_2 (by decide) ?_
  refine lv_iushr hx hb d_In_bitCount_3 rfl ?_
  refine lv_ldcw (v := 1431655765) hx hb hown (hts _ q_525) d_In_bitCount_4 ?_
  refine lv_iand hx hb d_In_bitCount_7 ?_
  refine lv_isub hx hb d_In_bitCount_8 ?_
  obtain ⟨v1, ev1, h⟩ := k_let_e h
  refine k_top ev1 ?_
  refine lv_istore_n (lv' := [(0, .int v1)]) hx hb d_In_bitCount_9 rfl hl (by decide) rfl (fun ls hl => ?_)
  refine lv_iload_n hx hb d_In_bitCount_10 rfl (lv_at hl 0 rfl) ?_
  refine lv_ldcw (v := 858993459) hx hb hown (hts _ q_526) d_In_bitCount_11 ?_
  refine lv_iand hx hb d_In_bitCount_14 ?_
  refine lv_iload_n hx hb d_In_bitCount_15 rfl (lv_at hl 0 rfl) ?_
  refine lv_iconst (v := 2) hx hb d_In_bitCount_16 (by decide) ?_
  refine lv_iushr hx hb d_In_bitCount_17 rfl ?_
  refine lv_ldcw (v := 858993459) hx hb hown (hts _ q_526) d_In_bitCount_18 ?_
  refine lv_iand hx hb d_In_bitCount_21 ?_
  refine lv_iadd hx hb d_In_bitCount_22 ?_
  obtain ⟨v2, ev2, h⟩ := k_let_e h
  refine k_top ev2 ?_
  refine lv_istore_n (lv' := [(0, .int v2)]) hx hb d_In_bitCount_23 rfl hl (by decide) rfl (fun ls hl => ?_)
  refine lv_iload_n hx hb d_In_bitCount_24 rfl (lv_at hl 0 rfl) ?_
  refine lv_iload_n hx hb d_In_bitCount_25 rfl (lv_at hl 0 rfl) ?_
  refine lv_iconst (v := 4) hx hb d_In_bitCount_26 (by decide) ?_
  refine lv_iushr hx hb d_In_bitCount_27 rfl ?_
  refine lv_iadd hx hb d_In_bitCount_28 ?_
  refine lv_ldcw (v := 252645135) hx hb hown (hts _ q_527) d_In_bitCount_29 ?_
  refine lv_iand hx hb d_In_bitCount_32 ?_
  obtain ⟨v3, ev3, h⟩ := k_let_e h
  refine k_top ev3 ?_
  refine lv_istore_n (lv' := [(0, .int v3)]) hx hb d_In_bitCount_33 rfl hl (by decide) rfl (fun ls hl => ?_)
  refine lv_iload_n hx hb d_In_bitCount_34 rfl (lv_at hl 0 rfl) ?_
  refine lv_iload_n hx hb d_In_bitCount_35 rfl (lv_at hl 0 rfl) ?_
  refine lv_bipush (v := 8) hx hb d_In_bitCount_36 (by decide) ?_
  refine lv_iushr hx hb d_In_bitCount_38 rfl ?_
  refine lv_iadd hx hb d_In_bitCount_39 ?_
  obtain ⟨v4, ev4, h⟩ := k_let_e h
  refine k_top ev4 ?_
  refine lv_istore_n (lv' := [(0, .int v4)]) hx hb d_In_bitCount_40 rfl hl (by decide) rfl (fun ls hl => ?_)
  refine lv_iload_n hx hb d_In_bitCount_41 rfl (lv_at hl 0 rfl) ?_
  refine lv_iload_n hx hb d_In_bitCount_42 rfl (lv_at hl 0 rfl) ?_
  refine lv_bipush (v := 16) hx hb d_In_bitCount_43 (by decide) ?_
  refine lv_iushr hx hb d_In_bitCount_45 rfl ?_
  refine lv_iadd hx hb d_In_bitCount_46 ?_
  obtain ⟨v5, ev5, h⟩ := k_let_e h
  refine k_top ev5 ?_
  refine lv_istore_n (lv' := [(0, .int v5)]) hx hb d_In_bitCount_47 rfl hl (by decide) rfl (fun ls hl => ?_)
  refine lv_iload_n hx hb d_In_bitCount_48 rfl (lv_at hl 0 rfl) ?_
  refine lv_bipush (v := 63) hx hb d_In_bitCount_49 (by decide) ?_
  refine lv_iand hx hb d_In_bitCount_51 ?_
  cases h
  exact k_iret hx hb hr hlk hP hS d_In_bitCount_52
theorem K_In_bitCount (l : Launch) (D : va_G) (a : Nat → Nat) (c9 : Nat → ClassId) (sz : Nat) {σ : kS} {x0 : Int32} {r9 : Int32} {σo : kS} (h : M_In_bitCount σ x0 = some (r9, σo)) : Met l y_In_bitCount (Cond.code y_In_bitCount c_In_bitCount 1 (some .int) :: kG) rm_In_bitCount (k_Pc D a c9 sz σ [.int x0]) (k_Qi D a c9 r9 σo (k_A a c9 σ sz)) 0 0 (k_A a c9 σ sz) :=
  k_met (Qf := k_Qi D a c9 r9 σo) (by decide) (Nat.le_of_ble_eq_true rfl) (fun p e s m args below meth c A ls C0 hP hD hS hl => B_In_bitCount_0 C0 σ x0 s.heap [] ls hP hD hS hl h)

