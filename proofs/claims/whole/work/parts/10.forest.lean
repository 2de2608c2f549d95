/-! mirrors and contracts, by program (wip/whole/run.py) -/
def rm_F_treeCount : Room := { frames := 0, cells := 0, slots := 0, locals := 0 }
def M_F_treeCount (σ : kS) : Option (Int32 × kS) := some (σ.1 2, σ)
set_option maxHeartbeats 4000000 in
set_option maxRecDepth 100000 in
theorem B_F_treeCount_0 {p : Program} {l : Launch} {e : Env} {s : State} {m : MethodId} {args : Array Value} {below : List Frame} {meth : Method} {c : Code} {D : va_G} {a : Nat → Nat} {c9 : Nat → ClassId} {A : Nat → Prop} {r9 : Int32} {σo : kS} (C0 : k_Cx D c9 p s m args meth c R_F c_F_treeCount 1 (some .int) A) (σ : kS) (H : Heap) (locs : List Loc) (ls : Array Slot) (hP : va_P D kcl (kw a c9 σ) H) (hD : va_D A (kw a c9 σ)) (hS : va_S A s.heap H locs) (hl : lv_has ls 1 [(0, .ref (a 1))]) (h : M_F_treeCount σ  = some (r9, σo)) : W p l e rm_F_treeCount s m args below meth c H locs 0 0 (MQ below (k_Qi D a c9 r9 σo A) args s 0 0 A) (F0 m 0 ls []) := by
  obtain ⟨hx, hb, hml, hown, hts, hr, hlk, hK, hN, hA⟩ := id C0
  unfold M_F_treeCount at h
  refine lv_aload_n hx hb d_F_treeCount_0 rfl (lv_at hl 0 rfl) ?_
  refine va_get (ci := 2) (C := R_F) (T := T_F) (N := 13) hx hb hts in_F hown hK hP 1 kw_1 rfl 0 (by decide) (hts _ q_33) (fun _ h9 => h9) rfl d_F_treeCount_1 ?_
  cases h
  exact k_iret hx hb hr hlk hP hS d_F_treeCount_4
theorem K_F_treeCount (l : Launch) (D : va_G) (a : Nat → Nat) (c9 : Nat → ClassId) (sz : Nat) {σ : kS} {r9 : Int32} {σo : kS} (h : M_F_treeCount σ  = some (r9, σo)) : Met l y_F_treeCount (Cond.code y_F_treeCount c_F_treeCount 1 (some .int) :: kG) rm_F_treeCount (k_Pc D a c9 sz σ [.ref (a 1)]) (k_Qi D a c9 r9 σo (k_A a c9 σ sz)) 0 0 (k_A a c9 σ sz) :=
  k_met (Qf := k_Qi D a c9 r9 σo) (by decide) (Nat.le_of_ble_eq_true rfl) (fun p e s m args below meth c A ls C0 hP hD hS hl => B_F_treeCount_0 C0 σ  s.heap [] ls hP hD hS hl h)
def rm_F_isFull : Room := { frames := 0, cells := 0, slots := 0, locals := 0 }
def M_F_isFull (σ : kS) : Option (Int32 × kS) := if σ.1 2 < 240 then (some (0, σ)) else (some (1, σ))
set_option maxHeartbeats 4000000 in
set_option maxRecDepth 100000 in
theorem B_F_isFull_0 {p : Program} {l : Launch} {e : Env} {s : State} {m : MethodId} {args : Array Value} {below : List Frame} {meth : Method} {c : Code} {D : va_G} {a : Nat → Nat} {c9 : Nat → ClassId} {A : Nat → Prop} {r9 : Int32} {σo : kS} (C0 : k_Cx D c9 p s m args meth c R_F c_F_isFull 1 (some .boolean) A) (σ : kS) (H : Heap) (locs : List Loc) (ls : Array Slot) (hP : va_P D kcl (kw a c9 σ) H) (hD : va_D A (kw a c9 σ)) (hS : va_S A s.heap H locs) (hl : lv_has ls 1 [(0, .ref (a 1))]) (h : M_F_isFull σ  = some (r9, σo)) : W p l e rm_F_isFull s m args below meth c H locs 0 0 (MQ below (k_Qi D a c9 r9 σo A) args s 0 0 A) (F0 m 0 ls []) := by
  obtain ⟨hx, hb, hml, hown, hts, hr, hlk, hK, hN, hA⟩ := id C0
  unfold M_F_isFull at h
  refine lv_aload_n hx hb d_F_isFull_0 rfl (lv_at hl 0 rfl) ?_
  refine va_get (ci := 2) (C := R_F) (T := T_F) (N := 13) hx hb hts in_F hown hK hP 1 kw_1 rfl 0 (by decide) (hts _ q_33) (fun _ h9 => h9) rfl d_F_isFull_1 ?_
  refine lv_sipush (v := 240) hx hb d_F_isFull_4 (by decide) ?_
  refine lv_icmp_lt (tgt := 14) hx hb d_F_isFull_7 (by decide) (fun cn1 => ?_) (fun cn1 => ?_)
  · replace h := (if_pos cn1).symm.trans h
    refine lv_iconst (v := 0) hx hb d_F_isFull_14 (by decide) ?_
    cases h
    exact k_zret (Or.inl rfl) hx hb hr hlk hP hS d_F_isFull_15
  · replace h := (if_neg cn1).symm.trans h
    refine lv_iconst (v := 1) hx hb d_F_isFull_10 (by decide) ?_
    refine lv_goto (tgt := 15) hx hb d_F_isFull_11 (by decide) ?_
    cases h
    exact k_zret (Or.inr rfl) hx hb hr hlk hP hS d_F_isFull_15
theorem K_F_isFull (l : Launch) (D : va_G) (a : Nat → Nat) (c9 : Nat → ClassId) (sz : Nat) {σ : kS} {r9 : Int32} {σo : kS} (h : M_F_isFull σ  = some (r9, σo)) : Met l y_F_isFull (Cond.code y_F_isFull c_F_isFull 1 (some .boolean) :: kG) rm_F_isFull (k_Pc D a c9 sz σ [.ref (a 1)]) (k_Qi D a c9 r9 σo (k_A a c9 σ sz)) 0 0 (k_A a c9 σ sz) :=
  k_met (Qf := k_Qi D a c9 r9 σo) (by decide) (Nat.le_of_ble_eq_true rfl) (fun p e s m args below meth c A ls C0 hP hD hS hl => B_F_isFull_0 C0 σ  s.heap [] ls hP hD hS hl h)
def rm_F_hasTree : Room := { frames := 0, cells := 0, slots := 0, locals := 0 }
def M_F_hasTree (σ : kS) (x1 : Int32) : Option (Int32 × kS) := if x1 < 0 then (some (0, σ)) else (if σ.1 2 ≤ x1 then (some (0, σ)) else (some (1, σ)))
set_option maxHeartbeats 4000000 in
set_option maxRecDepth 100000 in
theorem B_F_hasTree_0 {p : Program} {l : Launch} {e : Env} {s : State} {m : MethodId} {args : Array Value} {below : List Frame} {meth : Method} {c : Code} {D : va_G} {a : Nat → Nat} {c9 : Nat → ClassId} {A : Nat → Prop} {r9 : Int32} {σo : kS} (C0 : k_Cx D c9 p s m args meth c R_F c_F_hasTree 2 (some .boolean) A) (σ : kS) (x1 : Int32) (H : Heap) (locs : List Loc) (ls : Array Slot) (hP : va_P D kcl (kw a c9 σ) H) (hD : va_D A (kw a c9 σ)) (hS : va_S A s.heap H locs) (hl : lv_has ls 2 [(0, .ref (a 1)), (1, .int x1)]) (h : M_F_hasTree σ x1 = some (r9, σo)) : W p l e rm_F_hasTree s m args below meth c H locs 0 0 (MQ below (k_Qi D a c9 r9 σo A) args s 0 0 A) (F0 m 0 ls []) := by
  obtain ⟨hx, hb, hml, hown, hts, hr, hlk, hK, hN, hA⟩ := id C0
  unfold M_F_hasTree at h
  refine lv_iload_n hx hb d_F_hasTree_0 rfl (lv_at hl 1 rfl) ?_
  refine lv_if_lt (tgt := 16) hx hb d_F_hasTree_1 (by decide) (fun cn1 => ?_) (fun cn1 => ?_)
  · replace h := (if_pos cn1).symm.trans h
    refine lv_iconst (v := 0) hx hb d_F_hasTree_16 (by decide) ?_
    cases h
    exact k_zret (Or.inl rfl) hx hb hr hlk hP hS d_F_hasTree_17
  · replace h := (if_neg cn1).symm.trans h
    refine lv_iload_n hx hb d_F_hasTree_4 rfl (lv_at hl 1 rfl) ?_
    refine lv_aload_n hx hb d_F_hasTree_5 rfl (lv_at hl 0 rfl) ?_
    refine va_get (ci := 2) (C := R_F) (T := T_F) (N := 13) hx hb hts in_F hown hK hP 1 kw_1 rfl 0 (by decide) (hts _ q_33) (fun _ h9 => h9) rfl d_F_hasTree_6 ?_
    refine lv_icmp_ge (tgt := 16) hx hb d_F_hasTree_9 (by decide) (fun cn2 => ?_) (fun cn2 => ?_)
    · replace h := (if_pos cn2).symm.trans h
      refine lv_iconst (v := 0) hx hb d_F_hasTree_16 (by decide) ?_
      cases h
      exact k_zret (Or.inl rfl) hx hb hr hlk hP hS d_F_hasTree_17
    · replace h := (if_neg cn2).symm.trans h
      refine lv_iconst (v := 1) hx hb d_F_hasTree_12 (by decide) ?_
      refine lv_goto (tgt := 17) hx hb d_F_hasTree_13 (by decide) ?_
      cases h
      exact k_zret (Or.inr rfl) hx hb hr hlk hP hS d_F_hasTree_17
theorem K_F_hasTree (l : Launch) (D : va_G) (a : Nat → Nat) (c9 : Nat → ClassId) (sz : Nat) {σ : kS} {x1 : Int32} {r9 : Int32} {σo : kS} (h : M_F_hasTree σ x1 = some (r9, σo)) : Met l y_F_hasTree (Cond.code y_F_hasTree c_F_hasTree 2 (some .boolean) :: kG) rm_F_hasTree (k_Pc D a c9 sz σ [.ref (a 1), .int x1]) (k_Qi D a c9 r9 σo (k_A a c9 σ sz)) 0 0 (k_A a c9 σ sz) :=
  k_met (Qf := k_Qi D a c9 r9 σo) (by decide) (Nat.le_of_ble_eq_true rfl) (fun p e s m args below meth c A ls C0 hP hD hS hl => B_F_hasTree_0 C0 σ x1 s.heap [] ls hP hD hS hl h)
def rm_F_add : Room := { frames := 0, cells := 0, slots := 0, locals := 0 }
def M_F_add_46 (σ : kS) (x1 x2 x3 x4 y0 y1 : Int32) : Option (Int32 × kS) := k_st σ 5 240 (y1) (vp_nar .boolean (y0)) fun σ1 => k_st σ1 8 240 (x4) (1) fun σ2 => k_set σ2 2 ((σ2.1 2 + 1)) fun σ3 => some (x4, σ3)
set_option maxHeartbeats 4000000 in
set_option maxRecDepth 100000 in
theorem B_F_add_46 {p : Program} {l : Launch} {e : Env} {s : State} {m : MethodId} {args : Array Value} {below : List Frame} {meth : Method} {c : Code} {D : va_G} {a : Nat → Nat} {c9 : Nat → ClassId} {A : Nat → Prop} {r9 : Int32} {σo : kS} (C0 : k_Cx D c9 p s m args meth c R_F c_F_add 5 (some .int) A) (σ : kS) (x1 x2 x3 x4 y0 y1 : Int32) (H : Heap) (locs : List Loc) (ls : Array Slot) (hP : va_P D kcl (kw a c9 σ) H) (hD : va_D A (kw a c9 σ)) (hS : va_S A s.heap H locs) (hl : lv_has ls 5 [(0, .ref (a 1)), (1, .int x1), (2, .int x2), (3, .int x3), (4, .int x4)]) (h : M_F_add_46 σ x1 x2 x3 x4 y0 y1 = some (r9, σo)) : W p l e rm_F_add s m args below meth c H locs 0 0 (MQ below (k_Qi D a c9 r9 σo A) args s 0 0 A) (F0 m 46 ls [.int y0, .int y1, .ref (a 12)]) := by
  obtain ⟨hx, hb, hml, hown, hts, hr, hlk, hK, hN, hA⟩ := id C0
  unfold M_F_add_46 at h
  obtain ⟨σ1, eσ1, hiσ1, h⟩ := k_st_e h
  refine va_zast hx hb hK hP hD hS 12 1 kw_12 rfl hiσ1 d_F_add_46 (fun H locs hP hD hS => ?_)
  replace hP := k_mvP (kw_s12.trans (congrArg _ eσ1.symm)) hP
  replace hD := k_mvD (kw_s12.trans (congrArg _ eσ1.symm)) hD
  refine lv_aload_n hx hb d_F_add_47 rfl (lv_at hl 0 rfl) ?_
  refine va_get (ci := 2) (C := R_F) (T := T_F) (N := 13) hx hb hts in_F hown hK hP 1 kw_1 rfl 7 (by decide) (hts _ q_40) (fun _ h9 => h9) rfl d_F_add_48 ?_
  refine lv_iload hx hb d_F_add_51 (lv_at hl 4 rfl) ?_
  refine lv_iconst (v := 1) hx hb d_F_add_53 (by decide) ?_
  obtain ⟨σ2, eσ2, hiσ2, h⟩ := k_st_e h
  refine va_iast hx hb hK hP hD hS 15 0 kw_15 rfl hiσ2 d_F_add_54 (fun H locs hP hD hS => ?_)
  replace hP := k_mvP (kw_s15.trans (congrArg _ eσ2.symm)) hP
  replace hD := k_mvD (kw_s15.trans (congrArg _ eσ2.symm)) hD
  refine lv_aload_n hx hb d_F_add_55 rfl (lv_at hl 0 rfl) ?_
  refine lv_dup hx hb d_F_add_56 rfl ?_
  refine va_get (ci := 2) (C := R_F) (T := T_F) (N := 13) hx hb hts in_F hown hK hP 1 kw_1 rfl 0 (by decide) (hts _ q_33) (fun _ h9 => h9) rfl d_F_add_57 ?_
  refine lv_iconst (v := 1) hx hb d_F_add_60 (by decide) ?_
  refine lv_iadd hx hb d_F_add_61 ?_
  obtain ⟨σ3, eσ3, h⟩ := k_set_e h
  refine va_put (ci := 2) (v := .int ((σ2.1 2 + 1))) (ty := .int) (C := R_F) (T := T_F) (N := 13) hx hb hts in_F t_F t_F_ok n_F hown hK hP hD hS 1 kw_1 rfl 0 (by decide) (hts _ q_33) (fun _ h9 => h9) rfl (by decide +kernel) rfl rfl (Nat.le_of_ble_eq_true rfl) d_F_add_62 (fun H locs hP hD hS => ?_)
  replace hP := k_mvP (kw_f1_0.trans (congrArg _ eσ3.symm)) hP
  replace hD := k_mvD (kw_f1_0.trans (congrArg _ eσ3.symm)) hD
  refine lv_iload hx hb d_F_add_65 (lv_at hl 4 rfl) ?_
  cases h
  exact k_iret hx hb hr hlk hP hS d_F_add_67
def M_F_add (σ : kS) (x1 x2 x3 : Int32) : Option (Int32 × kS) := k_let (σ.1 2) fun v1 => k_st σ 2 240 (v1) (x1) fun σ2 => k_st σ2 3 240 (v1) (x2) fun σ3 => k_st σ3 4 240 (v1) (x3) fun σ4 => if x1 = 2 then (M_F_add_46 σ4 x1 x2 x3 v1 0 v1) else (M_F_add_46 σ4 x1 x2 x3 v1 1 v1)
set_option maxHeartbeats 4000000 in
set_option maxRecDepth 100000 in
theorem B_F_add_0 {p : Program} {l : Launch} {e : Env} {s : State} {m : MethodId} {args : Array Value} {below : List Frame} {meth : Method} {c : Code} {D : va_G} {a : Nat → Nat} {c9 : Nat → ClassId} {A : Nat → Prop} {r9 : Int32} {σo : kS} (C0 : k_Cx D c9 p s m args meth c R_F c_F_add 5 (some .int) A) (σ : kS) (x1 x2 x3 : Int32) (H : Heap) (locs : List Loc) (ls : Array Slot) (hP : va_P D kcl (kw a c9 σ) H) (hD : va_D A (kw a c9 σ)) (hS : va_S A s.heap H locs) (hl : lv_has ls 5 [(0, .ref (a 1)), (1, .int x1), (2, .int x2), (3, .int x3)]) (h : M_F_add σ x1 x2 x3 = some (r9, σo)) : W p l e rm_F_add s m args below meth c H locs 0 0 (MQ below (k_Qi D a c9 r9 σo A) args s 0 0 A) (F0 m 0 ls []) := by
  obtain ⟨hx, hb, hml, hown, hts, hr, hlk, hK, hN, hA⟩ := id C0
  unfold M_F_add at h
  refine lv_aload_n hx hb d_F_add_0 rfl (lv_at hl 0 rfl) ?_
  refine va_get (ci := 2) (C := R_F) (T := T_F) (N := 13) hx hb hts in_F hown hK hP 1 kw_1 rfl 0 (by decide) (hts _ q_33) (fun _ h9 => h9) rfl d_F_add_1 ?_
  obtain ⟨v1, ev1, h⟩ := k_let_e h
  refine k_top ev1 ?_
  refine lv_istore (lv' := [(4, .int v1), (0, .ref (a 1)), (1, .int x1), (2, .int x2), (3, .int x3)]) hx hb d_F_add_4 hl (by decide) rfl (fun ls hl => ?_)
  refine lv_aload_n hx hb d_F_add_6 rfl (lv_at hl 1 rfl) ?_
  refine va_get (ci := 2) (C := R_F) (T := T_F) (N := 13) hx hb hts in_F hown hK hP 1 kw_1 rfl 1 (by decide) (hts _ q_34) (fun _ h9 => h9) rfl d_F_add_7 ?_
  refine lv_iload hx hb d_F_add_10 (lv_at hl 0 rfl) ?_
  refine lv_iload_n hx hb d_F_add_12 rfl (lv_at hl 2 rfl) ?_
  obtain ⟨σ2, eσ2, hiσ2, h⟩ := k_st_e h
  refine va_iast hx hb hK hP hD hS 9 0 kw_9 rfl hiσ2 d_F_add_13 (fun H locs hP hD hS => ?_)
  replace hP := k_mvP (kw_s9.trans (congrArg _ eσ2.symm)) hP
  replace hD := k_mvD (kw_s9.trans (congrArg _ eσ2.symm)) hD
  refine lv_aload_n hx hb d_F_add_14 rfl (lv_at hl 1 rfl) ?_
  refine va_get (ci := 2) (C := R_F) (T := T_F) (N := 13) hx hb hts in_F hown hK hP 1 kw_1 rfl 2 (by decide) (hts _ q_35) (fun _ h9 => h9) rfl d_F_add_15 ?_
  refine lv_iload hx hb d_F_add_18 (lv_at hl 0 rfl) ?_
  refine lv_iload_n hx hb d_F_add_20 rfl (lv_at hl 3 rfl) ?_
  obtain ⟨σ3, eσ3, hiσ3, h⟩ := k_st_e h
  refine va_iast hx hb hK hP hD hS 10 0 kw_10 rfl hiσ3 d_F_add_21 (fun H locs hP hD hS => ?_)
  replace hP := k_mvP (kw_s10.trans (congrArg _ eσ3.symm)) hP
  replace hD := k_mvD (kw_s10.trans (congrArg _ eσ3.symm)) hD
  refine lv_aload_n hx hb d_F_add_22 rfl (lv_at hl 1 rfl) ?_
  refine va_get (ci := 2) (C := R_F) (T := T_F) (N := 13) hx hb hts in_F hown hK hP 1 kw_1 rfl 3 (by decide) (hts _ q_36) (fun _ h9 => h9) rfl d_F_add_23 ?_
  refine lv_iload hx hb d_F_add_26 (lv_at hl 0 rfl) ?_
  refine lv_iload_n hx hb d_F_add_28 rfl (lv_at hl 4 rfl) ?_
  obtain ⟨σ4, eσ4, hiσ4, h⟩ := k_st_e h
  refine va_iast hx hb hK hP hD hS 11 0 kw_11 rfl hiσ4 d_F_add_29 (fun H locs hP hD hS => ?_)
  replace hP := k_mvP (kw_s11.trans (congrArg _ eσ4.symm)) hP
  replace hD := k_mvD (kw_s11.trans (congrArg _ eσ4.symm)) hD
  refine lv_aload_n hx hb d_F_add_30 rfl (lv_at hl 1 rfl) ?_
  refine va_get (ci := 2) (C := R_F) (T := T_F) (N := 13) hx hb hts in_F hown hK hP 1 kw_1 rfl 4 (by decide) (hts _ q_37) (fun _ h9 => h9) rfl d_F_add_31 ?_
  refine lv_iload hx hb d_F_add_34 (lv_at hl 0 rfl) ?_
  refine lv_iload_n hx hb d_F_add_36 rfl (lv_at hl 2 rfl) ?_
  refine lv_iconst (v := 2) hx hb d_F_add_37 (by decide) ?_
  refine lv_icmp_eq (tgt := 45) hx hb d_F_add_38 (by decide) (fun cn5 => ?_) (fun cn5 => ?_)
  · replace h := (if_pos cn5).symm.trans h
    refine lv_iconst (v := 0) hx hb d_F_add_45 (by decide) ?_
    exact B_F_add_46 C0 _ _ _ _ _ _ _ H locs ls hP hD hS (lv_sub hl [1, 2, 3, 4, 0] rfl) h
  · replace h := (if_neg cn5).symm.trans h
    refine lv_iconst (v := 1) hx hb d_F_add_41 (by decide) ?_
    refine lv_goto (tgt := 46) hx hb d_F_add_42 (by decide) ?_
    exact B_F_add_46 C0 _ _ _ _ _ _ _ H locs ls hP hD hS (lv_sub hl [1, 2, 3, 4, 0] rfl) h
theorem K_F_add (l : Launch) (D : va_G) (a : Nat → Nat) (c9 : Nat → ClassId) (sz : Nat) {σ : kS} {x1 x2 x3 : Int32} {r9 : Int32} {σo : kS} (h : M_F_add σ x1 x2 x3 = some (r9, σo)) : Met l y_F_add (Cond.code y_F_add c_F_add 5 (some .int) :: kG) rm_F_add (k_Pc D a c9 sz σ [.ref (a 1), .int x1, .int x2, .int x3]) (k_Qi D a c9 r9 σo (k_A a c9 σ sz)) 0 0 (k_A a c9 σ sz) :=
  k_met (Qf := k_Qi D a c9 r9 σo) (by decide) (Nat.le_of_ble_eq_true rfl) (fun p e s m args below meth c A ls C0 hP hD hS hl => B_F_add_0 C0 σ x1 x2 x3 s.heap [] ls hP hD hS hl h)
def rm_F_close : Room := { frames := 0, cells := 0, slots := 0, locals := 0 }
def M_F_close (σ : kS) (x1 : Int32) : Option (Int32 × kS) := k_st σ 6 240 (x1) (vp_nar .boolean (1)) fun σ1 => some (0, σ1)
set_option maxHeartbeats 4000000 in
set_option maxRecDepth 100000 in
theorem B_F_close_0 {p : Program} {l : Launch} {e : Env} {s : State} {m : MethodId} {args : Array Value} {below : List Frame} {meth : Method} {c : Code} {D : va_G} {a : Nat → Nat} {c9 : Nat → ClassId} {A : Nat → Prop} {r9 : Int32} {σo : kS} (C0 : k_Cx D c9 p s m args meth c R_F c_F_close 2 none A) (σ : kS) (x1 : Int32) (H : Heap) (locs : List Loc) (ls : Array Slot) (hP : va_P D kcl (kw a c9 σ) H) (hD : va_D A (kw a c9 σ)) (hS : va_S A s.heap H locs) (hl : lv_has ls 2 [(0, .ref (a 1)), (1, .int x1)]) (h : M_F_close σ x1 = some (r9, σo)) : W p l e rm_F_close s m args below meth c H locs 0 0 (MQ below (k_Qv D a c9 σo A) args s 0 0 A) (F0 m 0 ls []) := by
  obtain ⟨hx, hb, hml, hown, hts, hr, hlk, hK, hN, hA⟩ := id C0
  unfold M_F_close at h
  refine lv_aload_n hx hb d_F_close_0 rfl (lv_at hl 0 rfl) ?_
  refine va_get (ci := 2) (C := R_F) (T := T_F) (N := 13) hx hb hts in_F hown hK hP 1 kw_1 rfl 5 (by decide) (hts _ q_38) (fun _ h9 => h9) rfl d_F_close_1 ?_
  refine lv_iload_n hx hb d_F_close_4 rfl (lv_at hl 1 rfl) ?_
  refine lv_iconst (v := 1) hx hb d_F_close_5 (by decide) ?_
  obtain ⟨σ1, eσ1, hiσ1, h⟩ := k_st_e h
  refine va_zast hx hb hK hP hD hS 13 1 kw_13 rfl hiσ1 d_F_close_6 (fun H locs hP hD hS => ?_)
  replace hP := k_mvP (kw_s13.trans (congrArg _ eσ1.symm)) hP
  replace hD := k_mvD (kw_s13.trans (congrArg _ eσ1.symm)) hD
  cases h
  exact k_vret hx hb hr hlk hP hS d_F_close_7
theorem K_F_close (l : Launch) (D : va_G) (a : Nat → Nat) (c9 : Nat → ClassId) (sz : Nat) {σ : kS} {x1 : Int32} {r9 : Int32} {σo : kS} (h : M_F_close σ x1 = some (r9, σo)) : Met l y_F_close (Cond.code y_F_close c_F_close 2 none :: kG) rm_F_close (k_Pc D a c9 sz σ [.ref (a 1), .int x1]) (k_Qv D a c9 σo (k_A a c9 σ sz)) 0 0 (k_A a c9 σ sz) :=
  k_met (Qf := k_Qv D a c9 σo) (by decide) (Nat.le_of_ble_eq_true rfl) (fun p e s m args below meth c A ls C0 hP hD hS hl => B_F_close_0 C0 σ x1 s.heap [] ls hP hD hS hl h)
def rm_F_isPlain : Room := { frames := 0, cells := 0, slots := 0, locals := 0 }
def M_F_isPlain (σ : kS) (x1 : Int32) : Option (Int32 × kS) := k_ld (σ.2.1 5) 240 (x1) fun v1 => k_z (v1) (some (v1, σ))
set_option maxHeartbeats 4000000 in
set_option maxRecDepth 100000 in
theorem B_F_isPlain_0 {p : Program} {l : Launch} {e : Env} {s : State} {m : MethodId} {args : Array Value} {below : List Frame} {meth : Method} {c : Code} {D : va_G} {a : Nat → Nat} {c9 : Nat → ClassId} {A : Nat → Prop} {r9 : Int32} {σo : kS} (C0 : k_Cx D c9 p s m args meth c R_F c_F_isPlain 2 (some .boolean) A) (σ : kS) (x1 : Int32) (H : Heap) (locs : List Loc) (ls : Array Slot) (hP : va_P D kcl (kw a c9 σ) H) (hD : va_D A (kw a c9 σ)) (hS : va_S A s.heap H locs) (hl : lv_has ls 2 [(0, .ref (a 1)), (1, .int x1)]) (h : M_F_isPlain σ x1 = some (r9, σo)) : W p l e rm_F_isPlain s m args below meth c H locs 0 0 (MQ below (k_Qi D a c9 r9 σo A) args s 0 0 A) (F0 m 0 ls []) := by
  obtain ⟨hx, hb, hml, hown, hts, hr, hlk, hK, hN, hA⟩ := id C0
  unfold M_F_isPlain at h
  refine lv_aload_n hx hb d_F_isPlain_0 rfl (lv_at hl 0 rfl) ?_
  refine va_get (ci := 2) (C := R_F) (T := T_F) (N := 13) hx hb hts in_F hown hK hP 1 kw_1 rfl 4 (by decide) (hts _ q_37) (fun _ h9 => h9) rfl d_F_isPlain_1 ?_
  refine lv_iload_n hx hb d_F_isPlain_4 rfl (lv_at hl 1 rfl) ?_
  obtain ⟨v1, ev1, hv1, h⟩ := k_ld_e h
  refine va_zald hx hb hK hP 12 1 kw_12 rfl hv1 d_F_isPlain_5 (k_top ev1 ?_)
  obtain ⟨hz, h⟩ := k_z_e h
  cases h
  exact k_zret hz hx hb hr hlk hP hS d_F_isPlain_6
theorem K_F_isPlain (l : Launch) (D : va_G) (a : Nat → Nat) (c9 : Nat → ClassId) (sz : Nat) {σ : kS} {x1 : Int32} {r9 : Int32} {σo : kS} (h : M_F_isPlain σ x1 = some (r9, σo)) : Met l y_F_isPlain (Cond.code y_F_isPlain c_F_isPlain 2 (some .boolean) :: kG) rm_F_isPlain (k_Pc D a c9 sz σ [.ref (a 1), .int x1]) (k_Qi D a c9 r9 σo (k_A a c9 σ sz)) 0 0 (k_A a c9 σ sz) :=
  k_met (Qf := k_Qi D a c9 r9 σo) (by decide) (Nat.le_of_ble_eq_true rfl) (fun p e s m args below meth c A ls C0 hP hD hS hl => B_F_isPlain_0 C0 σ x1 s.heap [] ls hP hD hS hl h)
def rm_F_isLeaf : Room := { frames := 0, cells := 0, slots := 0, locals := 0 }
def M_F_isLeaf (σ : kS) (x1 : Int32) : Option (Int32 × kS) := k_ld (σ.2.1 2) 240 (x1) fun v1 => if v1 = 0 then (some (1, σ)) else (some (0, σ))
set_option maxHeartbeats 4000000 in
set_option maxRecDepth 100000 in
theorem B_F_isLeaf_0 {p : Program} {l : Launch} {e : Env} {s : State} {m : MethodId} {args : Array Value} {below : List Frame} {meth : Method} {c : Code} {D : va_G} {a : Nat → Nat} {c9 : Nat → ClassId} {A : Nat → Prop} {r9 : Int32} {σo : kS} (C0 : k_Cx D c9 p s m args meth c R_F c_F_isLeaf 2 (some .boolean) A) (σ : kS) (x1 : Int32) (H : Heap) (locs : List Loc) (ls : Array Slot) (hP : va_P D kcl (kw a c9 σ) H) (hD : va_D A (kw a c9 σ)) (hS : va_S A s.heap H locs) (hl : lv_has ls 2 [(0, .ref (a 1)), (1, .int x1)]) (h : M_F_isLeaf σ x1 = some (r9, σo)) : W p l e rm_F_isLeaf s m args below meth c H locs 0 0 (MQ below (k_Qi D a c9 r9 σo A) args s 0 0 A) (F0 m 0 ls []) := by
  obtain ⟨hx, hb, hml, hown, hts, hr, hlk, hK, hN, hA⟩ := id C0
  unfold M_F_isLeaf at h
  refine lv_aload_n hx hb d_F_isLeaf_0 rfl (lv_at hl 0 rfl) ?_
  refine va_get (ci := 2) (C := R_F) (T := T_F) (N := 13) hx hb hts in_F hown hK hP 1 kw_1 rfl 1 (by decide) (hts _ q_34) (fun _ h9 => h9) rfl d_F_isLeaf_1 ?_
  refine lv_iload_n hx hb d_F_isLeaf_4 rfl (lv_at hl 1 rfl) ?_
  obtain ⟨v1, ev1, hv1, h⟩ := k_ld_e h
  refine va_iald hx hb hK hP 9 0 kw_9 rfl hv1 d_F_isLeaf_5 (k_top ev1 ?_)
  refine lv_if_ne (tgt := 13) hx hb d_F_isLeaf_6 (by decide) (fun cn2 => ?_) (fun cn2 => ?_)
  · replace h := (if_neg cn2).symm.trans h
    refine lv_iconst (v := 0) hx hb d_F_isLeaf_13 (by decide) ?_
    cases h
    exact k_zret (Or.inl rfl) hx hb hr hlk hP hS d_F_isLeaf_14
  · replace h := (if_pos cn2).symm.trans h
    refine lv_iconst (v := 1) hx hb d_F_isLeaf_9 (by decide) ?_
    refine lv_goto (tgt := 14) hx hb d_F_isLeaf_10 (by decide) ?_
    cases h
    exact k_zret (Or.inr rfl) hx hb hr hlk hP hS d_F_isLeaf_14
theorem K_F_isLeaf (l : Launch) (D : va_G) (a : Nat → Nat) (c9 : Nat → ClassId) (sz : Nat) {σ : kS} {x1 : Int32} {r9 : Int32} {σo : kS} (h : M_F_isLeaf σ x1 = some (r9, σo)) : Met l y_F_isLeaf (Cond.code y_F_isLeaf c_F_isLeaf 2 (some .boolean) :: kG) rm_F_isLeaf (k_Pc D a c9 sz σ [.ref (a 1), .int x1]) (k_Qi D a c9 r9 σo (k_A a c9 σ sz)) 0 0 (k_A a c9 σ sz) :=
  k_met (Qf := k_Qi D a c9 r9 σo) (by decide) (Nat.le_of_ble_eq_true rfl) (fun p e s m args below meth c A ls C0 hP hD hS hl => B_F_isLeaf_0 C0 σ x1 s.heap [] ls hP hD hS hl h)
def rm_F_isNode : Room := { frames := 0, cells := 0, slots := 0, locals := 0 }
def M_F_isNode (σ : kS) (x1 : Int32) : Option (Int32 × kS) := k_ld (σ.2.1 2) 240 (x1) fun v1 => if v1 = 1 then (some (1, σ)) else (some (0, σ))
set_option maxHeartbeats 4000000 in
set_option maxRecDepth 100000 in
theorem B_F_isNode_0 {p : Program} {l : Launch} {e : Env} {s : State} {m : MethodId} {args : Array Value} {below : List Frame} {meth : Method} {c : Code} {D : va_G} {a : Nat → Nat} {c9 : Nat → ClassId} {A : Nat → Prop} {r9 : Int32} {σo : kS} (C0 : k_Cx D c9 p s m args meth c R_F c_F_isNode 2 (some .boolean) A) (σ : kS) (x1 : Int32) (H : Heap) (locs : List Loc) (ls : Array Slot) (hP : va_P D kcl (kw a c9 σ) H) (hD : va_D A (kw a c9 σ)) (hS : va_S A s.heap H locs) (hl : lv_has ls 2 [(0, .ref (a 1)), (1, .int x1)]) (h : M_F_isNode σ x1 = some (r9, σo)) : W p l e rm_F_isNode s m args below meth c H locs 0 0 (MQ below (k_Qi D a c9 r9 σo A) args s 0 0 A) (F0 m 0 ls []) := by
  obtain ⟨hx, hb, hml, hown, hts, hr, hlk, hK, hN, hA⟩ := id C0
  unfold M_F_isNode at h
  refine lv_aload_n hx hb d_F_isNode_0 rfl (lv_at hl 0 rfl) ?_
  refine va_get (ci := 2) (C := R_F) (T := T_F) (N := 13) hx hb hts in_F hown hK hP 1 kw_1 rfl 1 (by decide) (hts _ q_34) (fun _ h9 => h9) rfl d_F_isNode_1 ?_
  refine lv_iload_n hx hb d_F_isNode_4 rfl (lv_at hl 1 rfl) ?_
  obtain ⟨v1, ev1, hv1, h⟩ := k_ld_e h
  refine va_iald hx hb hK hP 9 0 kw_9 rfl hv1 d_F_isNode_5 (k_top ev1 ?_)
  refine lv_iconst (v := 1) hx hb d_F_isNode_6 (by decide) ?_
  refine lv_icmp_ne (tgt := 14) hx hb d_F_isNode_7 (by decide) (fun cn2 => ?_) (fun cn2 => ?_)
  · replace h := (if_neg cn2).symm.trans h
    refine lv_iconst (v := 0) hx hb d_F_isNode_14 (by decide) ?_
    cases h
    exact k_zret (Or.inl rfl) hx hb hr hlk hP hS d_F_isNode_15
  · replace h := (if_pos cn2).symm.trans h
    refine lv_iconst (v := 1) hx hb d_F_isNode_10 (by decide) ?_
    refine lv_goto (tgt := 15) hx hb d_F_isNode_11 (by decide) ?_
    cases h
    exact k_zret (Or.inr rfl) hx hb hr hlk hP hS d_F_isNode_15
theorem K_F_isNode (l : Launch) (D : va_G) (a : Nat → Nat) (c9 : Nat → ClassId) (sz : Nat) {σ : kS} {x1 : Int32} {r9 : Int32} {σo : kS} (h : M_F_isNode σ x1 = some (r9, σo)) : Met l y_F_isNode (Cond.code y_F_isNode c_F_isNode 2 (some .boolean) :: kG) rm_F_isNode (k_Pc D a c9 sz σ [.ref (a 1), .int x1]) (k_Qi D a c9 r9 σo (k_A a c9 σ sz)) 0 0 (k_A a c9 σ sz) :=
  k_met (Qf := k_Qi D a c9 r9 σo) (by decide) (Nat.le_of_ble_eq_true rfl) (fun p e s m args below meth c A ls C0 hP hD hS hl => B_F_isNode_0 C0 σ x1 s.heap [] ls hP hD hS hl h)
def rm_F_isHole : Room := { frames := 0, cells := 0, slots := 0, locals := 0 }
def M_F_isHole (σ : kS) (x1 : Int32) : Option (Int32 × kS) := k_ld (σ.2.1 2) 240 (x1) fun v1 => if v1 = 2 then (some (1, σ)) else (some (0, σ))
set_option maxHeartbeats 4000000 in
set_option maxRecDepth 100000 in
theorem B_F_isHole_0 {p : Program} {l : Launch} {e : Env} {s : State} {m : MethodId} {args : Array Value} {below : List Frame} {meth : Method} {c : Code} {D : va_G} {a : Nat → Nat} {c9 : Nat → ClassId} {A : Nat → Prop} {r9 : Int32} {σo : kS} (C0 : k_Cx D c9 p s m args meth c R_F c_F_isHole 2 (some .boolean) A) (σ : kS) (x1 : Int32) (H : Heap) (locs : List Loc) (ls : Array Slot) (hP : va_P D kcl (kw a c9 σ) H) (hD : va_D A (kw a c9 σ)) (hS : va_S A s.heap H locs) (hl : lv_has ls 2 [(0, .ref (a 1)), (1, .int x1)]) (h : M_F_isHole σ x1 = some (r9, σo)) : W p l e rm_F_isHole s m args below meth c H locs 0 0 (MQ below (k_Qi D a c9 r9 σo A) args s 0 0 A) (F0 m 0 ls []) := by
  obtain ⟨hx, hb, hml, hown, hts, hr, hlk, hK, hN, hA⟩ := id C0
  unfold M_F_isHole at h
  refine lv_aload_n hx hb d_F_isHole_0 rfl (lv_at hl 0 rfl) ?_
  refine va_get (ci := 2) (C := R_F) (T := T_F) (N := 13) hx hb hts in_F hown hK hP 1 kw_1 rfl 1 (by decide) (hts _ q_34) (fun _ h9 => h9) rfl d_F_isHole_1 ?_
  refine lv_iload_n hx hb d_F_isHole_4 rfl (lv_at hl 1 rfl) ?_
  obtain ⟨v1, ev1, hv1, h⟩ := k_ld_e h
  refine va_iald hx hb hK hP 9 0 kw_9 rfl hv1 d_F_isHole_5 (k_top ev1 ?_)
  refine lv_iconst (v := 2) hx hb d_F_isHole_6 (by decide) ?_
  refine lv_icmp_ne (tgt := 14) hx hb d_F_isHole_7 (by decide) (fun cn2 => ?_) (fun cn2 => ?_)
  · replace h := (if_neg cn2).symm.trans h
    refine lv_iconst (v := 0) hx hb d_F_isHole_14 (by decide) ?_
    cases h
    exact k_zret (Or.inl rfl) hx hb hr hlk hP hS d_F_isHole_15
  · replace h := (if_pos cn2).symm.trans h
    refine lv_iconst (v := 1) hx hb d_F_isHole_10 (by decide) ?_
    refine lv_goto (tgt := 15) hx hb d_F_isHole_11 (by decide) ?_
    cases h
    exact k_zret (Or.inr rfl) hx hb hr hlk hP hS d_F_isHole_15
theorem K_F_isHole (l : Launch) (D : va_G) (a : Nat → Nat) (c9 : Nat → ClassId) (sz : Nat) {σ : kS} {x1 : Int32} {r9 : Int32} {σo : kS} (h : M_F_isHole σ x1 = some (r9, σo)) : Met l y_F_isHole (Cond.code y_F_isHole c_F_isHole 2 (some .boolean) :: kG) rm_F_isHole (k_Pc D a c9 sz σ [.ref (a 1), .int x1]) (k_Qi D a c9 r9 σo (k_A a c9 σ sz)) 0 0 (k_A a c9 σ sz) :=
  k_met (Qf := k_Qi D a c9 r9 σo) (by decide) (Nat.le_of_ble_eq_true rfl) (fun p e s m args below meth c A ls C0 hP hD hS hl => B_F_isHole_0 C0 σ x1 s.heap [] ls hP hD hS hl h)
def rm_F_isHoleOfKind : Room := { frames := 0, cells := 0, slots := 0, locals := 0 }
def M_F_isHoleOfKind (σ : kS) (x1 x2 : Int32) : Option (Int32 × kS) := k_ld (σ.2.1 2) 240 (x1) fun v1 => if v1 = 2 then (k_ld (σ.2.1 4) 240 (x1) fun v3 => if v3 = x2 then (some (1, σ)) else (some (0, σ))) else (some (0, σ))
set_option maxHeartbeats 4000000 in
set_option maxRecDepth 100000 in
theorem B_F_isHoleOfKind_0 {p : Program} {l : Launch} {e : Env} {s : State} {m : MethodId} {args : Array Value} {below : List Frame} {meth : Method} {c : Code} {D : va_G} {a : Nat → Nat} {c9 : Nat → ClassId} {A : Nat → Prop} {r9 : Int32} {σo : kS} (C0 : k_Cx D c9 p s m args meth c R_F c_F_isHoleOfKind 3 (some .boolean) A) (σ : kS) (x1 x2 : Int32) (H : Heap) (locs : List Loc) (ls : Array Slot) (hP : va_P D kcl (kw a c9 σ) H) (hD : va_D A (kw a c9 σ)) (hS : va_S A s.heap H locs) (hl : lv_has ls 3 [(0, .ref (a 1)), (1, .int x1), (2, .int x2)]) (h : M_F_isHoleOfKind σ x1 x2 = some (r9, σo)) : W p l e rm_F_isHoleOfKind s m args below meth c H locs 0 0 (MQ below (k_Qi D a c9 r9 σo A) args s 0 0 A) (F0 m 0 ls []) := by
  obtain ⟨hx, hb, hml, hown, hts, hr, hlk, hK, hN, hA⟩ := id C0
  unfold M_F_isHoleOfKind at h
  refine lv_aload_n hx hb d_F_isHoleOfKind_0 rfl (lv_at hl 0 rfl) ?_
  refine va_get (ci := 2) (C := R_F) (T := T_F) (N := 13) hx hb hts in_F hown hK hP 1 kw_1 rfl 1 (by decide) (hts _ q_34) (fun _ h9 => h9) rfl d_F_isHoleOfKind_1 ?_
  refine lv_iload_n hx hb d_F_isHoleOfKind_4 rfl (lv_at hl 1 rfl) ?_
  obtain ⟨v1, ev1, hv1, h⟩ := k_ld_e h
  refine va_iald hx hb hK hP 9 0 kw_9 rfl hv1 d_F_isHoleOfKind_5 (k_top ev1 ?_)
  refine lv_iconst (v := 2) hx hb d_F_isHoleOfKind_6 (by decide) ?_
  refine lv_icmp_ne (tgt := 24) hx hb d_F_isHoleOfKind_7 (by decide) (fun cn2 => ?_) (fun cn2 => ?_)
  · replace h := (if_neg cn2).symm.trans h
    refine lv_iconst (v := 0) hx hb d_F_isHoleOfKind_24 (by decide) ?_
    cases h
    exact k_zret (Or.inl rfl) hx hb hr hlk hP hS d_F_isHoleOfKind_25
  · replace h := (if_pos cn2).symm.trans h
    refine lv_aload_n hx hb d_F_isHoleOfKind_10 rfl (lv_at hl 0 rfl) ?_
    refine va_get (ci := 2) (C := R_F) (T := T_F) (N := 13) hx hb hts in_F hown hK hP 1 kw_1 rfl 3 (by decide) (hts _ q_36) (fun _ h9 => h9) rfl d_F_isHoleOfKind_11 ?_
    refine lv_iload_n hx hb d_F_isHoleOfKind_14 rfl (lv_at hl 1 rfl) ?_
    obtain ⟨v3, ev3, hv3, h⟩ := k_ld_e h
    refine va_iald hx hb hK hP 11 0 kw_11 rfl hv3 d_F_isHoleOfKind_15 (k_top ev3 ?_)
    refine lv_iload_n hx hb d_F_isHoleOfKind_16 rfl (lv_at hl 2 rfl) ?_
    refine lv_icmp_ne (tgt := 24) hx hb d_F_isHoleOfKind_17 (by decide) (fun cn4 => ?_) (fun cn4 => ?_)
    · replace h := (if_neg cn4).symm.trans h
      refine lv_iconst (v := 0) hx hb d_F_isHoleOfKind_24 (by decide) ?_
      cases h
      exact k_zret (Or.inl rfl) hx hb hr hlk hP hS d_F_isHoleOfKind_25
    · replace h := (if_pos cn4).symm.trans h
      refine lv_iconst (v := 1) hx hb d_F_isHoleOfKind_20 (by decide) ?_
      refine lv_goto (tgt := 25) hx hb d_F_isHoleOfKind_21 (by decide) ?_
      cases h
      exact k_zret (Or.inr rfl) hx hb hr hlk hP hS d_F_isHoleOfKind_25
theorem K_F_isHoleOfKind (l : Launch) (D : va_G) (a : Nat → Nat) (c9 : Nat → ClassId) (sz : Nat) {σ : kS} {x1 x2 : Int32} {r9 : Int32} {σo : kS} (h : M_F_isHoleOfKind σ x1 x2 = some (r9, σo)) : Met l y_F_isHoleOfKind (Cond.code y_F_isHoleOfKind c_F_isHoleOfKind 3 (some .boolean) :: kG) rm_F_isHoleOfKind (k_Pc D a c9 sz σ [.ref (a 1), .int x1, .int x2]) (k_Qi D a c9 r9 σo (k_A a c9 σ sz)) 0 0 (k_A a c9 σ sz) :=
  k_met (Qf := k_Qi D a c9 r9 σo) (by decide) (Nat.le_of_ble_eq_true rfl) (fun p e s m args below meth c A ls C0 hP hD hS hl => B_F_isHoleOfKind_0 C0 σ x1 x2 s.heap [] ls hP hD hS hl h)
def rm_F_takesSeveral : Room := { frames := 1, cells := 0, slots := 0, locals := 22 }
def M_F_takesSeveral (σ : kS) (x1 : Int32) : Option (Int32 × kS) := k_call (M_F_isHoleOfKind σ x1 2) fun v1 σ2 => if v1 = 0 then (k_call (M_F_isHoleOfKind σ2 x1 3) fun v5 σ6 => if v5 = 0 then (some (0, σ6)) else (some (1, σ6))) else (some (1, σ2))
set_option maxHeartbeats 4000000 in
set_option maxRecDepth 100000 in
theorem B_F_takesSeveral_0 {p : Program} {l : Launch} {e : Env} {s : State} {m : MethodId} {args : Array Value} {below : List Frame} {meth : Method} {c : Code} {D : va_G} {a : Nat → Nat} {c9 : Nat → ClassId} {A : Nat → Prop} {r9 : Int32} {σo : kS} (C0 : k_Cx D c9 p s m args meth c R_F c_F_takesSeveral 2 (some .boolean) A) (σ : kS) (x1 : Int32) (H : Heap) (locs : List Loc) (ls : Array Slot) (hP : va_P D kcl (kw a c9 σ) H) (hD : va_D A (kw a c9 σ)) (hS : va_S A s.heap H locs) (hl : lv_has ls 2 [(0, .ref (a 1)), (1, .int x1)]) (h : M_F_takesSeveral σ x1 = some (r9, σo)) : W p l e rm_F_takesSeveral s m args below meth c H locs 0 0 (MQ below (k_Qi D a c9 r9 σo A) args s 0 0 A) (F0 m 0 ls []) := by
  obtain ⟨hx, hb, hml, hown, hts, hr, hlk, hK, hN, hA⟩ := id C0
  unfold M_F_takesSeveral at h
  refine lv_aload_n hx hb d_F_takesSeveral_0 rfl (lv_at hl 0 rfl) ?_
  refine lv_iload_n hx hb d_F_takesSeveral_1 rfl (lv_at hl 1 rfl) ?_
  refine lv_iconst (v := 2) hx hb d_F_takesSeveral_2 (by decide) ?_
  obtain ⟨v1, σ2, hc3, h⟩ := k_call_e h
  refine k_calli (va_runV (As := [.int x1, .int 2]) (rest := []) ⟨hx, hb, hml, hown, hts⟩ (K_F_isHoleOfKind l D a c9 H.size hc3) (cwV 2 hts (k_gV q_514 q_499 q_500 q_2 q_501) rfl rfl rfl h_F_isHoleOfKind ⟨Nat.le_of_ble_eq_true rfl, Nat.le_of_ble_eq_true rfl⟩) (k_preV (ci := 2) (q0 := 1) rfl kw_1 hP hK hN hD) rfl rfl hl.1 rfl (lv_room (Nat.le_of_ble_eq_true rfl)) d_F_takesSeveral_3 ⟨Nat.zero_le _, Nat.zero_le _⟩) hD hS hA (fun H locs hP hD hS => ?_)
  refine lv_if_ne (tgt := 18) hx hb d_F_takesSeveral_6 (by decide) (fun cn4 => ?_) (fun cn4 => ?_)
  · replace h := (if_neg cn4).symm.trans h
    refine lv_iconst (v := 1) hx hb d_F_takesSeveral_18 (by decide) ?_
    refine lv_goto (tgt := 23) hx hb d_F_takesSeveral_19 (by decide) ?_
    cases h
    exact k_zret (Or.inr rfl) hx hb hr hlk hP hS d_F_takesSeveral_23
  · replace h := (if_pos cn4).symm.trans h
    refine lv_aload_n hx hb d_F_takesSeveral_9 rfl (lv_at hl 0 rfl) ?_
    refine lv_iload_n hx hb d_F_takesSeveral_10 rfl (lv_at hl 1 rfl) ?_
    refine lv_iconst (v := 3) hx hb d_F_takesSeveral_11 (by decide) ?_
    obtain ⟨v5, σ6, hc7, h⟩ := k_call_e h
    refine k_calli (va_runV (As := [.int x1, .int 3]) (rest := []) ⟨hx, hb, hml, hown, hts⟩ (K_F_isHoleOfKind l D a c9 H.size hc7) (cwV 2 hts (k_gV q_514 q_499 q_500 q_2 q_501) rfl rfl rfl h_F_isHoleOfKind ⟨Nat.le_of_ble_eq_true rfl, Nat.le_of_ble_eq_true rfl⟩) (k_preV (ci := 2) (q0 := 1) rfl kw_1 hP hK hN hD) rfl rfl hl.1 rfl (lv_room (Nat.le_of_ble_eq_true rfl)) d_F_takesSeveral_12 ⟨Nat.zero_le _, Nat.zero_le _⟩) hD hS hA (fun H locs hP hD hS => ?_)
    refine lv_if_eq (tgt := 22) hx hb d_F_takesSeveral_15 (by decide) (fun cn8 => ?_) (fun cn8 => ?_)
    · replace h := (if_pos cn8).symm.trans h
      refine lv_iconst (v := 0) hx hb d_F_takesSeveral_22 (by decide) ?_
      cases h
      exact k_zret (Or.inl rfl) hx hb hr hlk hP hS d_F_takesSeveral_23
    · replace h := (if_neg cn8).symm.trans h
      refine lv_iconst (v := 1) hx hb d_F_takesSeveral_18 (by decide) ?_
      refine lv_goto (tgt := 23) hx hb d_F_takesSeveral_19 (by decide) ?_
      cases h
      exact k_zret (Or.inr rfl) hx hb hr hlk hP hS d_F_takesSeveral_23
theorem K_F_takesSeveral (l : Launch) (D : va_G) (a : Nat → Nat) (c9 : Nat → ClassId) (sz : Nat) {σ : kS} {x1 : Int32} {r9 : Int32} {σo : kS} (h : M_F_takesSeveral σ x1 = some (r9, σo)) : Met l y_F_takesSeveral (Cond.code y_F_takesSeveral c_F_takesSeveral 2 (some .boolean) :: kG) rm_F_takesSeveral (k_Pc D a c9 sz σ [.ref (a 1), .int x1]) (k_Qi D a c9 r9 σo (k_A a c9 σ sz)) 0 0 (k_A a c9 σ sz) :=
  k_met (Qf := k_Qi D a c9 r9 σo) (by decide) (Nat.le_of_ble_eq_true rfl) (fun p e s m args below meth c A ls C0 hP hD hS hl => B_F_takesSeveral_0 C0 σ x1 s.heap [] ls hP hD hS hl h)
def rm_F_isAnyOrder : Room := { frames := 0, cells := 0, slots := 0, locals := 0 }
def M_F_isAnyOrder (σ : kS) (x1 : Int32) : Option (Int32 × kS) := k_ld (σ.2.1 2) 240 (x1) fun v1 => if v1 = 1 then (k_ld (σ.2.1 3) 240 (x1) fun v3 => if v3 < 5 then (some (0, σ)) else (some (1, σ))) else (some (0, σ))
set_option maxHeartbeats 4000000 in
set_option maxRecDepth 100000 in
theorem B_F_isAnyOrder_0 {p : Program} {l : Launch} {e : Env} {s : State} {m : MethodId} {args : Array Value} {below : List Frame} {meth : Method} {c : Code} {D : va_G} {a : Nat → Nat} {c9 : Nat → ClassId} {A : Nat → Prop} {r9 : Int32} {σo : kS} (C0 : k_Cx D c9 p s m args meth c R_F c_F_isAnyOrder 2 (some .boolean) A) (σ : kS) (x1 : Int32) (H : Heap) (locs : List Loc) (ls : Array Slot) (hP : va_P D kcl (kw a c9 σ) H) (hD : va_D A (kw a c9 σ)) (hS : va_S A s.heap H locs) (hl : lv_has ls 2 [(0, .ref (a 1)), (1, .int x1)]) (h : M_F_isAnyOrder σ x1 = some (r9, σo)) : W p l e rm_F_isAnyOrder s m args below meth c H locs 0 0 (MQ below (k_Qi D a c9 r9 σo A) args s 0 0 A) (F0 m 0 ls []) := by
  obtain ⟨hx, hb, hml, hown, hts, hr, hlk, hK, hN, hA⟩ := id C0
  unfold M_F_isAnyOrder at h
  refine lv_aload_n hx hb d_F_isAnyOrder_0 rfl (lv_at hl 0 rfl) ?_
  refine va_get (ci := 2) (C := R_F) (T := T_F) (N := 13) hx hb hts in_F hown hK hP 1 kw_1 rfl 1 (by decide) (hts _ q_34) (fun _ h9 => h9) rfl d_F_isAnyOrder_1 ?_
  refine lv_iload_n hx hb d_F_isAnyOrder_4 rfl (lv_at hl 1 rfl) ?_
  obtain ⟨v1, ev1, hv1, h⟩ := k_ld_e h
  refine va_iald hx hb hK hP 9 0 kw_9 rfl hv1 d_F_isAnyOrder_5 (k_top ev1 ?_)
  refine lv_iconst (v := 1) hx hb d_F_isAnyOrder_6 (by decide) ?_
  refine lv_icmp_ne (tgt := 24) hx hb d_F_isAnyOrder_7 (by decide) (fun cn2 => ?_) (fun cn2 => ?_)
  · replace h := (if_neg cn2).symm.trans h
    refine lv_iconst (v := 0) hx hb d_F_isAnyOrder_24 (by decide) ?_
    cases h
    exact k_zret (Or.inl rfl) hx hb hr hlk hP hS d_F_isAnyOrder_25
  · replace h := (if_pos cn2).symm.trans h
    refine lv_aload_n hx hb d_F_isAnyOrder_10 rfl (lv_at hl 0 rfl) ?_
    refine va_get (ci := 2) (C := R_F) (T := T_F) (N := 13) hx hb hts in_F hown hK hP 1 kw_1 rfl 2 (by decide) (hts _ q_35) (fun _ h9 => h9) rfl d_F_isAnyOrder_11 ?_
    refine lv_iload_n hx hb d_F_isAnyOrder_14 rfl (lv_at hl 1 rfl) ?_
    obtain ⟨v3, ev3, hv3, h⟩ := k_ld_e h
    refine va_iald hx hb hK hP 10 0 kw_10 rfl hv3 d_F_isAnyOrder_15 (k_top ev3 ?_)
    refine lv_iconst (v := 5) hx hb d_F_isAnyOrder_16 (by decide) ?_
    refine lv_icmp_lt (tgt := 24) hx hb d_F_isAnyOrder_17 (by decide) (fun cn4 => ?_) (fun cn4 => ?_)
    · replace h := (if_pos cn4).symm.trans h
      refine lv_iconst (v := 0) hx hb d_F_isAnyOrder_24 (by decide) ?_
      cases h
      exact k_zret (Or.inl rfl) hx hb hr hlk hP hS d_F_isAnyOrder_25
    · replace h := (if_neg cn4).symm.trans h
      refine lv_iconst (v := 1) hx hb d_F_isAnyOrder_20 (by decide) ?_
      refine lv_goto (tgt := 25) hx hb d_F_isAnyOrder_21 (by decide) ?_
      cases h
      exact k_zret (Or.inr rfl) hx hb hr hlk hP hS d_F_isAnyOrder_25
theorem K_F_isAnyOrder (l : Launch) (D : va_G) (a : Nat → Nat) (c9 : Nat → ClassId) (sz : Nat) {σ : kS} {x1 : Int32} {r9 : Int32} {σo : kS} (h : M_F_isAnyOrder σ x1 = some (r9, σo)) : Met l y_F_isAnyOrder (Cond.code y_F_isAnyOrder c_F_isAnyOrder 2 (some .boolean) :: kG) rm_F_isAnyOrder (k_Pc D a c9 sz σ [.ref (a 1), .int x1]) (k_Qi D a c9 r9 σo (k_A a c9 σ sz)) 0 0 (k_A a c9 σ sz) :=
  k_met (Qf := k_Qi D a c9 r9 σo) (by decide) (Nat.le_of_ble_eq_true rfl) (fun p e s m args below meth c A ls C0 hP hD hS hl => B_F_isAnyOrder_0 C0 σ x1 s.heap [] ls hP hD hS hl h)
def rm_F_nameOf : Room := { frames := 0, cells := 0, slots := 0, locals := 0 }
def M_F_nameOf (σ : kS) (x1 : Int32) : Option (Int32 × kS) := k_ld (σ.2.1 3) 240 (x1) fun v1 => some (v1, σ)
set_option maxHeartbeats 4000000 in
set_option maxRecDepth 100000 in
theorem B_F_nameOf_0 {p : Program} {l : Launch} {e : Env} {s : State} {m : MethodId} {args : Array Value} {below : List Frame} {meth : Method} {c : Code} {D : va_G} {a : Nat → Nat} {c9 : Nat → ClassId} {A : Nat → Prop} {r9 : Int32} {σo : kS} (C0 : k_Cx D c9 p s m args meth c R_F c_F_nameOf 2 (some .int) A) (σ : kS) (x1 : Int32) (H : Heap) (locs : List Loc) (ls : Array Slot) (hP : va_P D kcl (kw a c9 σ) H) (hD : va_D A (kw a c9 σ)) (hS : va_S A s.heap H locs) (hl : lv_has ls 2 [(0, .ref (a 1)), (1, .int x1)]) (h : M_F_nameOf σ x1 = some (r9, σo)) : W p l e rm_F_nameOf s m args below meth c H locs 0 0 (MQ below (k_Qi D a c9 r9 σo A) args s 0 0 A) (F0 m 0 ls []) := by
  obtain ⟨hx, hb, hml, hown, hts, hr, hlk, hK, hN, hA⟩ := id C0
  unfold M_F_nameOf at h
  refine lv_aload_n hx hb d_F_nameOf_0 rfl (lv_at hl 0 rfl) ?_
  refine va_get (ci := 2) (C := R_F) (T := T_F) (N := 13) hx hb hts in_F hown hK hP 1 kw_1 rfl 2 (by decide) (hts _ q_35) (fun _ h9 => h9) rfl d_F_nameOf_1 ?_
  refine lv_iload_n hx hb d_F_nameOf_4 rfl (lv_at hl 1 rfl) ?_
  obtain ⟨v1, ev1, hv1, h⟩ := k_ld_e h
  refine va_iald hx hb hK hP 10 0 kw_10 rfl hv1 d_F_nameOf_5 (k_top ev1 ?_)
  cases h
  exact k_iret hx hb hr hlk hP hS d_F_nameOf_6
theorem K_F_nameOf (l : Launch) (D : va_G) (a : Nat → Nat) (c9 : Nat → ClassId) (sz : Nat) {σ : kS} {x1 : Int32} {r9 : Int32} {σo : kS} (h : M_F_nameOf σ x1 = some (r9, σo)) : Met l y_F_nameOf (Cond.code y_F_nameOf c_F_nameOf 2 (some .int) :: kG) rm_F_nameOf (k_Pc D a c9 sz σ [.ref (a 1), .int x1]) (k_Qi D a c9 r9 σo (k_A a c9 σ sz)) 0 0 (k_A a c9 σ sz) :=
  k_met (Qf := k_Qi D a c9 r9 σo) (by decide) (Nat.le_of_ble_eq_true rfl) (fun p e s m args below meth c A ls C0 hP hD hS hl => B_F_nameOf_0 C0 σ x1 s.heap [] ls hP hD hS hl h)
def rm_F_partCount : Room := { frames := 0, cells := 0, slots := 0, locals := 0 }
def M_F_partCount (σ : kS) (x1 : Int32) : Option (Int32 × kS) := k_ld (σ.2.1 9) 240 (x1) fun v1 => some (v1, σ)
set_option maxHeartbeats 4000000 in
set_option maxRecDepth 100000 in
theorem B_F_partCount_0 {p : Program} {l : Launch} {e : Env} {s : State} {m : MethodId} {args : Array Value} {below : List Frame} {meth : Method} {c : Code} {D : va_G} {a : Nat → Nat} {c9 : Nat → ClassId} {A : Nat → Prop} {r9 : Int32} {σo : kS} (C0 : k_Cx D c9 p s m args meth c R_F c_F_partCount 2 (some .int) A) (σ : kS) (x1 : Int32) (H : Heap) (locs : List Loc) (ls : Array Slot) (hP : va_P D kcl (kw a c9 σ) H) (hD : va_D A (kw a c9 σ)) (hS : va_S A s.heap H locs) (hl : lv_has ls 2 [(0, .ref (a 1)), (1, .int x1)]) (h : M_F_partCount σ x1 = some (r9, σo)) : W p l e rm_F_partCount s m args below meth c H locs 0 0 (MQ below (k_Qi D a c9 r9 σo A) args s 0 0 A) (F0 m 0 ls []) := by
  obtain ⟨hx, hb, hml, hown, hts, hr, hlk, hK, hN, hA⟩ := id C0
  unfold M_F_partCount at h
  refine lv_aload_n hx hb d_F_partCount_0 rfl (lv_at hl 0 rfl) ?_
  refine va_get (ci := 2) (C := R_F) (T := T_F) (N := 13) hx hb hts in_F hown hK hP 1 kw_1 rfl 8 (by decide) (hts _ q_41) (fun _ h9 => h9) rfl d_F_partCount_1 ?_
  refine lv_iload_n hx hb d_F_partCount_4 rfl (lv_at hl 1 rfl) ?_
  obtain ⟨v1, ev1, hv1, h⟩ := k_ld_e h
  refine va_iald hx hb hK hP 16 0 kw_16 rfl hv1 d_F_partCount_5 (k_top ev1 ?_)
  cases h
  exact k_iret hx hb hr hlk hP hS d_F_partCount_6
theorem K_F_partCount (l : Launch) (D : va_G) (a : Nat → Nat) (c9 : Nat → ClassId) (sz : Nat) {σ : kS} {x1 : Int32} {r9 : Int32} {σo : kS} (h : M_F_partCount σ x1 = some (r9, σo)) : Met l y_F_partCount (Cond.code y_F_partCount c_F_partCount 2 (some .int) :: kG) rm_F_partCount (k_Pc D a c9 sz σ [.ref (a 1), .int x1]) (k_Qi D a c9 r9 σo (k_A a c9 σ sz)) 0 0 (k_A a c9 σ sz) :=
  k_met (Qf := k_Qi D a c9 r9 σo) (by decide) (Nat.le_of_ble_eq_true rfl) (fun p e s m args below meth c A ls C0 hP hD hS hl => B_F_partCount_0 C0 σ x1 s.heap [] ls hP hD hS hl h)
def rm_F_partAt : Room := { frames := 0, cells := 0, slots := 0, locals := 0 }
def M_F_partAt (σ : kS) (x1 x2 : Int32) : Option (Int32 × kS) := k_ld (σ.2.1 10) 2880 (((x1 * 12) + x2)) fun v1 => some (v1, σ)
set_option maxHeartbeats 4000000 in
set_option maxRecDepth 100000 in
theorem B_F_partAt_0 {p : Program} {l : Launch} {e : Env} {s : State} {m : MethodId} {args : Array Value} {below : List Frame} {meth : Method} {c : Code} {D : va_G} {a : Nat → Nat} {c9 : Nat → ClassId} {A : Nat → Prop} {r9 : Int32} {σo : kS} (C0 : k_Cx D c9 p s m args meth c R_F c_F_partAt 3 (some .int) A) (σ : kS) (x1 x2 : Int32) (H : Heap) (locs : List Loc) (ls : Array Slot) (hP : va_P D kcl (kw a c9 σ) H) (hD : va_D A (kw a c9 σ)) (hS : va_S A s.heap H locs) (hl : lv_has ls 3 [(0, .ref (a 1)), (1, .int x1), (2, .int x2)]) (h : M_F_partAt σ x1 x2 = some (r9, σo)) : W p l e rm_F_partAt s m args below meth c H locs 0 0 (MQ below (k_Qi D a c9 r9 σo A) args s 0 0 A) (F0 m 0 ls []) := by
  obtain ⟨hx, hb, hml, hown, hts, hr, hlk, hK, hN, hA⟩ := id C0
  unfold M_F_partAt at h
  refine lv_aload_n hx hb d_F_partAt_0 rfl (lv_at hl 0 rfl) ?_
  refine va_get (ci := 2) (C := R_F) (T := T_F) (N := 13) hx hb hts in_F hown hK hP 1 kw_1 rfl 9 (by decide) (hts _ q_42) (fun _ h9 => h9) rfl d_F_partAt_1 ?_
  refine lv_iload_n hx hb d_F_partAt_4 rfl (lv_at hl 1 rfl) ?_
  refine lv_bipush (v := 12) hx hb d_F_partAt_5 (by decide) ?_
  refine lv_imul hx hb d_F_partAt_7 ?_
  refine lv_iload_n hx hb d_F_partAt_8 rfl (lv_at hl 2 rfl) ?_
  refine lv_iadd hx hb d_F_partAt_9 ?_
  obtain ⟨v1, ev1, hv1, h⟩ := k_ld_e h
  refine va_iald hx hb hK hP 17 0 kw_17 rfl hv1 d_F_partAt_10 (k_top ev1 ?_)
  cases h
  exact k_iret hx hb hr hlk hP hS d_F_partAt_11
theorem K_F_partAt (l : Launch) (D : va_G) (a : Nat → Nat) (c9 : Nat → ClassId) (sz : Nat) {σ : kS} {x1 x2 : Int32} {r9 : Int32} {σo : kS} (h : M_F_partAt σ x1 x2 = some (r9, σo)) : Met l y_F_partAt (Cond.code y_F_partAt c_F_partAt 3 (some .int) :: kG) rm_F_partAt (k_Pc D a c9 sz σ [.ref (a 1), .int x1, .int x2]) (k_Qi D a c9 r9 σo (k_A a c9 σ sz)) 0 0 (k_A a c9 σ sz) :=
  k_met (Qf := k_Qi D a c9 r9 σo) (by decide) (Nat.le_of_ble_eq_true rfl) (fun p e s m args below meth c A ls C0 hP hD hS hl => B_F_partAt_0 C0 σ x1 x2 s.heap [] ls hP hD hS hl h)
def rm_F_looksLike : Room := { frames := 0, cells := 0, slots := 0, locals := 0 }
def M_F_looksLike (σ : kS) (x1 x2 : Int32) : Option (Int32 × kS) := k_ld (σ.2.1 2) 240 (x1) fun v1 => k_ld (σ.2.1 2) 240 (x2) fun v2 => if v1 = v2 then (k_ld (σ.2.1 3) 240 (x1) fun v4 => k_ld (σ.2.1 3) 240 (x2) fun v5 => if v4 = v5 then (some (1, σ)) else (some (0, σ))) else (some (0, σ))
set_option maxHeartbeats 4000000 in
set_option maxRecDepth 100000 in
theorem B_F_looksLike_0 {p : Program} {l : Launch} {e : Env} {s : State} {m : MethodId} {args : Array Value} {below : List Frame} {meth : Method} {c : Code} {D : va_G} {a : Nat → Nat} {c9 : Nat → ClassId} {A : Nat → Prop} {r9 : Int32} {σo : kS} (C0 : k_Cx D c9 p s m args meth c R_F c_F_looksLike 3 (some .boolean) A) (σ : kS) (x1 x2 : Int32) (H : Heap) (locs : List Loc) (ls : Array Slot) (hP : va_P D kcl (kw a c9 σ) H) (hD : va_D A (kw a c9 σ)) (hS : va_S A s.heap H locs) (hl : lv_has ls 3 [(0, .ref (a 1)), (1, .int x1), (2, .int x2)]) (h : M_F_looksLike σ x1 x2 = some (r9, σo)) : W p l e rm_F_looksLike s m args below meth c H locs 0 0 (MQ below (k_Qi D a c9 r9 σo A) args s 0 0 A) (F0 m 0 ls []) := by
  obtain ⟨hx, hb, hml, hown, hts, hr, hlk, hK, hN, hA⟩ := id C0
  unfold M_F_looksLike at h
  refine lv_aload_n hx hb d_F_looksLike_0 rfl (lv_at hl 0 rfl) ?_
  refine va_get (ci := 2) (C := R_F) (T := T_F) (N := 13) hx hb hts in_F hown hK hP 1 kw_1 rfl 1 (by decide) (hts _ q_34) (fun _ h9 => h9) rfl d_F_looksLike_1 ?_
  refine lv_iload_n hx hb d_F_looksLike_4 rfl (lv_at hl 1 rfl) ?_
  obtain ⟨v1, ev1, hv1, h⟩ := k_ld_e h
  refine va_iald hx hb hK hP 9 0 kw_9 rfl hv1 d_F_looksLike_5 (k_top ev1 ?_)
  refine lv_aload_n hx hb d_F_looksLike_6 rfl (lv_at hl 0 rfl) ?_
  refine va_get (ci := 2) (C := R_F) (T := T_F) (N := 13) hx hb hts in_F hown hK hP 1 kw_1 rfl 1 (by decide) (hts _ q_34) (fun _ h9 => h9) rfl d_F_looksLike_7 ?_
  refine lv_iload_n hx hb d_F_looksLike_10 rfl (lv_at hl 2 rfl) ?_
  obtain ⟨v2, ev2, hv2, h⟩ := k_ld_e h
  refine va_iald hx hb hK hP 9 0 kw_9 rfl hv2 d_F_looksLike_11 (k_top ev2 ?_)
  refine lv_icmp_ne (tgt := 34) hx hb d_F_looksLike_12 (by decide) (fun cn3 => ?_) (fun cn3 => ?_)
  · replace h := (if_neg cn3).symm.trans h
    refine lv_iconst (v := 0) hx hb d_F_looksLike_34 (by decide) ?_
    cases h
    exact k_zret (Or.inl rfl) hx hb hr hlk hP hS d_F_looksLike_35
  · replace h := (if_pos cn3).symm.trans h
    refine lv_aload_n hx hb d_F_looksLike_15 rfl (lv_at hl 0 rfl) ?_
    refine va_get (ci := 2) (C := R_F) (T := T_F) (N := 13) hx hb hts in_F hown hK hP 1 kw_1 rfl 2 (by decide) (hts _ q_35) (fun _ h9 => h9) rfl d_F_looksLike_16 ?_
    refine lv_iload_n hx hb d_F_looksLike_19 rfl (lv_at hl 1 rfl) ?_
    obtain ⟨v4, ev4, hv4, h⟩ := k_ld_e h
    refine va_iald hx hb hK hP 10 0 kw_10 rfl hv4 d_F_looksLike_20 (k_top ev4 ?_)
    refine lv_aload_n hx hb d_F_looksLike_21 rfl (lv_at hl 0 rfl) ?_
    refine va_get (ci := 2) (C := R_F) (T := T_F) (N := 13) hx hb hts in_F hown hK hP 1 kw_1 rfl 2 (by decide) (hts _ q_35) (fun _ h9 => h9) rfl d_F_looksLike_22 ?_
    refine lv_iload_n hx hb d_F_looksLike_25 rfl (lv_at hl 2 rfl) ?_
    obtain ⟨v5, ev5, hv5, h⟩ := k_ld_e h
    refine va_iald hx hb hK hP 10 0 kw_10 rfl hv5 d_F_looksLike_26 (k_top ev5 ?_)
    refine lv_icmp_ne (tgt := 34) hx hb d_F_looksLike_27 (by decide) (fun cn6 => ?_) (fun cn6 => ?_)
    · replace h := (if_neg cn6).symm.trans h
      refine lv_iconst (v := 0) hx hb d_F_looksLike_34 (by decide) ?_
      cases h
      exact k_zret (Or.inl rfl) hx hb hr hlk hP hS d_F_looksLike_35
    · replace h := (if_pos cn6).symm.trans h
      refine lv_iconst (v := 1) hx hb d_F_looksLike_30 (by decide) ?_
      refine lv_goto (tgt := 35) hx hb d_F_looksLike_31 (by decide) ?_
      cases h
      exact k_zret (Or.inr rfl) hx hb hr hlk hP hS d_F_looksLike_35
theorem K_F_looksLike (l : Launch) (D : va_G) (a : Nat → Nat) (c9 : Nat → ClassId) (sz : Nat) {σ : kS} {x1 x2 : Int32} {r9 : Int32} {σo : kS} (h : M_F_looksLike σ x1 x2 = some (r9, σo)) : Met l y_F_looksLike (Cond.code y_F_looksLike c_F_looksLike 3 (some .boolean) :: kG) rm_F_looksLike (k_Pc D a c9 sz σ [.ref (a 1), .int x1, .int x2]) (k_Qi D a c9 r9 σo (k_A a c9 σ sz)) 0 0 (k_A a c9 σ sz) :=
  k_met (Qf := k_Qi D a c9 r9 σo) (by decide) (Nat.le_of_ble_eq_true rfl) (fun p e s m args below meth c A ls C0 hP hD hS hl => B_F_looksLike_0 C0 σ x1 x2 s.heap [] ls hP hD hS hl h)
def rm_F_mayTake : Room := { frames := 0, cells := 0, slots := 0, locals := 0 }
def M_F_mayTake (σ : kS) (x1 x2 : Int32) : Option (Int32 × kS) := k_ld (σ.2.1 2) 240 (x1) fun v1 => if v1 = 1 then (k_ld (σ.2.1 6) 240 (x1) fun v3 => if v3 = 0 then (if x2 = x1 then (some (0, σ)) else (k_ld (σ.2.1 7) 240 (x2) fun v6 => if 20 ≤ v6 then (some (0, σ)) else (k_ld (σ.2.1 8) 240 (x1) fun v8 => k_ld (σ.2.1 8) 240 (x2) fun v9 => if 70 < (v8 + v9) then (some (0, σ)) else (some (1, σ))))) else (some (0, σ))) else (some (0, σ))
set_option maxHeartbeats 4000000 in
set_option maxRecDepth 100000 in
theorem B_F_mayTake_0 {p : Program} {l : Launch} {e : Env} {s : State} {m : MethodId} {args : Array Value} {below : List Frame} {meth : Method} {c : Code} {D : va_G} {a : Nat → Nat} {c9 : Nat → ClassId} {A : Nat → Prop} {r9 : Int32} {σo : kS} (C0 : k_Cx D c9 p s m args meth c R_F c_F_mayTake 3 (some .boolean) A) (σ : kS) (x1 x2 : Int32) (H : Heap) (locs : List Loc) (ls : Array Slot) (hP : va_P D kcl (kw a c9 σ) H) (hD : va_D A (kw a c9 σ)) (hS : va_S A s.heap H locs) (hl : lv_has ls 3 [(0, .ref (a 1)), (1, .int x1), (2, .int x2)]) (h : M_F_mayTake σ x1 x2 = some (r9, σo)) : W p l e rm_F_mayTake s m args below meth c H locs 0 0 (MQ below (k_Qi D a c9 r9 σo A) args s 0 0 A) (F0 m 0 ls []) := by
  obtain ⟨hx, hb, hml, hown, hts, hr, hlk, hK, hN, hA⟩ := id C0
  unfold M_F_mayTake at h
  refine lv_aload_n hx hb d_F_mayTake_0 rfl (lv_at hl 0 rfl) ?_
  refine va_get (ci := 2) (C := R_F) (T := T_F) (N := 13) hx hb hts in_F hown hK hP 1 kw_1 rfl 1 (by decide) (hts _ q_34) (fun _ h9 => h9) rfl d_F_mayTake_1 ?_
  refine lv_iload_n hx hb d_F_mayTake_4 rfl (lv_at hl 1 rfl) ?_
  obtain ⟨v1, ev1, hv1, h⟩ := k_ld_e h
  refine va_iald hx hb hK hP 9 0 kw_9 rfl hv1 d_F_mayTake_5 (k_top ev1 ?_)
  refine lv_iconst (v := 1) hx hb d_F_mayTake_6 (by decide) ?_
  refine lv_icmp_ne (tgt := 57) hx hb d_F_mayTake_7 (by decide) (fun cn2 => ?_) (fun cn2 => ?_)
  · replace h := (if_neg cn2).symm.trans h
    refine lv_iconst (v := 0) hx hb d_F_mayTake_57 (by decide) ?_
    cases h
    exact k_zret (Or.inl rfl) hx hb hr hlk hP hS d_F_mayTake_58
  · replace h := (if_pos cn2).symm.trans h
    refine lv_aload_n hx hb d_F_mayTake_10 rfl (lv_at hl 0 rfl) ?_
    refine va_get (ci := 2) (C := R_F) (T := T_F) (N := 13) hx hb hts in_F hown hK hP 1 kw_1 rfl 5 (by decide) (hts _ q_38) (fun _ h9 => h9) rfl d_F_mayTake_11 ?_
    refine lv_iload_n hx hb d_F_mayTake_14 rfl (lv_at hl 1 rfl) ?_
    obtain ⟨v3, ev3, hv3, h⟩ := k_ld_e h
    refine va_zald hx hb hK hP 13 1 kw_13 rfl hv3 d_F_mayTake_15 (k_top ev3 ?_)
    refine lv_if_ne (tgt := 57) hx hb d_F_mayTake_16 (by decide) (fun cn4 => ?_) (fun cn4 => ?_)
    · replace h := (if_neg cn4).symm.trans h
      refine lv_iconst (v := 0) hx hb d_F_mayTake_57 (by decide) ?_
      cases h
      exact k_zret (Or.inl rfl) hx hb hr hlk hP hS d_F_mayTake_58
    · replace h := (if_pos cn4).symm.trans h
      refine lv_iload_n hx hb d_F_mayTake_19 rfl (lv_at hl 2 rfl) ?_
      refine lv_iload_n hx hb d_F_mayTake_20 rfl (lv_at hl 1 rfl) ?_
      refine lv_icmp_eq (tgt := 57) hx hb d_F_mayTake_21 (by decide) (fun cn5 => ?_) (fun cn5 => ?_)
      · replace h := (if_pos cn5).symm.trans h
        refine lv_iconst (v := 0) hx hb d_F_mayTake_57 (by decide) ?_
        cases h
        exact k_zret (Or.inl rfl) hx hb hr hlk hP hS d_F_mayTake_58
      · replace h := (if_neg cn5).symm.trans h
        refine lv_aload_n hx hb d_F_mayTake_24 rfl (lv_at hl 0 rfl) ?_
        refine va_get (ci := 2) (C := R_F) (T := T_F) (N := 13) hx hb hts in_F hown hK hP 1 kw_1 rfl 6 (by decide) (hts _ q_39) (fun _ h9 => h9) rfl d_F_mayTake_25 ?_
        refine lv_iload_n hx hb d_F_mayTake_28 rfl (lv_at hl 2 rfl) ?_
        obtain ⟨v6, ev6, hv6, h⟩ := k_ld_e h
        refine va_iald hx hb hK hP 14 0 kw_14 rfl hv6 d_F_mayTake_29 (k_top ev6 ?_)
        refine lv_bipush (v := 20) hx hb d_F_mayTake_30 (by decide) ?_
        refine lv_icmp_ge (tgt := 57) hx hb d_F_mayTake_32 (by decide) (fun cn7 => ?_) (fun cn7 => ?_)
        · replace h := (if_pos cn7).symm.trans h
          refine lv_iconst (v := 0) hx hb d_F_mayTake_57 (by decide) ?_
          cases h
          exact k_zret (Or.inl rfl) hx hb hr hlk hP hS d_F_mayTake_58
        · replace h := (if_neg cn7).symm.trans h
          refine lv_aload_n hx hb d_F_mayTake_35 rfl (lv_at hl 0 rfl) ?_
          refine va_get (ci := 2) (C := R_F) (T := T_F) (N := 13) hx hb hts in_F hown hK hP 1 kw_1 rfl 7 (by decide) (hts _ q_40) (fun _ h9 => h9) rfl d_F_mayTake_36 ?_
          refine lv_iload_n hx hb d_F_mayTake_39 rfl (lv_at hl 1 rfl) ?_
          obtain ⟨v8, ev8, hv8, h⟩ := k_ld_e h
          refine va_iald hx hb hK hP 15 0 kw_15 rfl hv8 d_F_mayTake_40 (k_top ev8 ?_)
          refine lv_aload_n hx hb d_F_mayTake_41 rfl (lv_at hl 0 rfl) ?_
          refine va_get (ci := 2) (C := R_F) (T := T_F) (N := 13) hx hb hts in_F hown hK hP 1 kw_1 rfl 7 (by decide) (hts _ q_40) (fun _ h9 => h9) rfl d_F_mayTake_42 ?_
          refine lv_iload_n hx hb d_F_mayTake_45 rfl (lv_at hl 2 rfl) ?_
          obtain ⟨v9, ev9, hv9, h⟩ := k_ld_e h
          refine va_iald hx hb hK hP 15 0 kw_15 rfl hv9 d_F_mayTake_46 (k_top ev9 ?_)
          refine lv_iadd hx hb d_F_mayTake_47 ?_
          refine lv_bipush (v := 70) hx hb d_F_mayTake_48 (by decide) ?_
          refine lv_icmp_gt (tgt := 57) hx hb d_F_mayTake_50 (by decide) (fun cn10 => ?_) (fun cn10 => ?_)
          · replace h := (if_pos cn10).symm.trans h
            refine lv_iconst (v := 0) hx hb d_F_mayTake_57 (by decide) ?_
            cases h
            exact k_zret (Or.inl rfl) hx hb hr hlk hP hS d_F_mayTake_58
          · replace h := (if_neg cn10).symm.trans h
            refine lv_iconst (v := 1) hx hb d_F_mayTake_53 (by decide) ?_
            refine lv_goto (tgt := 58) hx hb d_F_mayTake_54 (by decide) ?_
            cases h
            exact k_zret (Or.inr rfl) hx hb hr hlk hP hS d_F_mayTake_58
theorem K_F_mayTake (l : Launch) (D : va_G) (a : Nat → Nat) (c9 : Nat → ClassId) (sz : Nat) {σ : kS} {x1 x2 : Int32} {r9 : Int32} {σo : kS} (h : M_F_mayTake σ x1 x2 = some (r9, σo)) : Met l y_F_mayTake (Cond.code y_F_mayTake c_F_mayTake 3 (some .boolean) :: kG) rm_F_mayTake (k_Pc D a c9 sz σ [.ref (a 1), .int x1, .int x2]) (k_Qi D a c9 r9 σo (k_A a c9 σ sz)) 0 0 (k_A a c9 σ sz) :=
  k_met (Qf := k_Qi D a c9 r9 σo) (by decide) (Nat.le_of_ble_eq_true rfl) (fun p e s m args below meth c A ls C0 hP hD hS hl => B_F_mayTake_0 C0 σ x1 x2 s.heap [] ls hP hD hS hl h)
def rm_F_compareFrom (d : Nat) : Room := { frames := d + 0, cells := 0, slots := 0, locals := d * 28 + 0 }
def M_F_compareFrom_124_b (selfR : kS → Int32 → Int32 → Int32 → Option (Int32 × kS)) (self9 : kS → Int32 → Int32 → Int32 → Int32 → Int32 → Option (Int32 × kS)) (σ : kS) (x1 x2 x3 x4 x5 : Int32) : Option (Int32 × kS) := if x4 ≤ x5 then (some (0, σ)) else (k_ld (σ.2.1 10) 2880 (((x1 * 12) + x5)) fun v2 => k_ld (σ.2.1 10) 2880 (((x2 * 12) + x5)) fun v3 => k_call (selfR σ v2 v3 ((x3 + 1))) fun v4 σ5 => if v4 = 0 then (k_let (x5 + 1) fun v8 => self9 σ5 x1 x2 x3 x4 v8) else (some (v4, σ5)))
def M_F_compareFrom_124 (selfR : kS → Int32 → Int32 → Int32 → Option (Int32 × kS)) : Nat → kS → Int32 → Int32 → Int32 → Int32 → Int32 → Option (Int32 × kS)
  | 0 => fun _ _ _ _ _ _ => none
  | n + 1 => M_F_compareFrom_124_b selfR (M_F_compareFrom_124 selfR n)
set_option maxHeartbeats 4000000 in
set_option maxRecDepth 100000 in
theorem B_F_compareFrom_124 {p : Program} {l : Launch} {e : Env} {s : State} {m : MethodId} {args : Array Value} {below : List Frame} {meth : Method} {c : Code} {D : va_G} {a : Nat → Nat} {c9 : Nat → ClassId} {A : Nat → Prop} {r9 : Int32} {σo : kS} (C0 : k_Cx D c9 p s m args meth c R_F c_F_compareFrom 9 (some .int) A) {d : Nat} {selfR : kS → Int32 → Int32 → Int32 → Option (Int32 × kS)} (hR : ∀ (sz : Nat) {σ : kS} {z0 z1 z2 : Int32} {r : Int32} {σ' : kS}, selfR σ z0 z1 z2 = some (r, σ') → Met l y_F_compareFrom (Cond.code y_F_compareFrom c_F_compareFrom 9 (some .int) :: kG) (rm_F_compareFrom d) (k_Pc D a c9 sz σ [.ref (a 1), .int z0, .int z1, .int z2]) (k_Qi D a c9 r σ' (k_A a c9 σ sz)) 0 0 (k_A a c9 σ sz)) : ∀ (n : Nat) (σ : kS) (x1 x2 x3 x4 x5 : Int32) (H : Heap) (locs : List Loc) (ls : Array Slot), va_P D kcl (kw a c9 σ) H → va_D A (kw a c9 σ) → va_S A s.heap H locs → lv_has ls 9 [(0, .ref (a 1)), (1, .int x1), (2, .int x2), (3, .int x3), (4, .int x4), (5, .int x5)] → M_F_compareFrom_124 selfR n σ x1 x2 x3 x4 x5 = some (r9, σo) → W p l e (rm_F_compareFrom (d + 1)) s m args below meth c H locs 0 0 (MQ below (k_Qi D a c9 r9 σo A) args s 0 0 A) (F0 m 124 ls []) := by
  obtain ⟨hx, hb, hml, hown, hts, hr, hlk, hK, hN, hA⟩ := id C0
  intro n
  induction n with
  | zero =>
    intro σ x1 x2 x3 x4 x5 H locs ls hP hD hS hl h
    replace h : (none : Option (Int32 × kS)) = some (r9, σo) := h
    cases h
  | succ n ih =>
    intro σ x1 x2 x3 x4 x5 H locs ls hP hD hS hl h
    replace h : M_F_compareFrom_124_b selfR (M_F_compareFrom_124 selfR n) σ x1 x2 x3 x4 x5 = some (r9, σo) := h
    unfold M_F_compareFrom_124_b at h
    refine lv_iload hx hb d_F_compareFrom_124 (lv_at hl 5 rfl) ?_
    refine lv_iload hx hb d_F_compareFrom_126 (lv_at hl 4 rfl) ?_
    refine lv_icmp_ge (tgt := 186) hx hb d_F_compareFrom_128 (by decide) (fun cn1 => ?_) (fun cn1 => ?_)
    · replace h := (if_pos cn1).symm.trans h
      refine lv_iconst (v := 0) hx hb d_F_compareFrom_186 (by decide) ?_
      cases h
      exact k_iret hx hb hr hlk hP hS d_F_compareFrom_187
    · replace h := (if_neg cn1).symm.trans h
      refine lv_aload_n hx hb d_F_compareFrom_131 rfl (lv_at hl 0 rfl) ?_
      refine va_get (ci := 2) (C := R_F) (T := T_F) (N := 13) hx hb hts in_F hown hK hP 1 kw_1 rfl 9 (by decide) (hts _ q_42) (fun _ h9 => h9) rfl d_F_compareFrom_132 ?_
      refine lv_iload_n hx hb d_F_compareFrom_135 rfl (lv_at hl 1 rfl) ?_
      refine lv_bipush (v := 12) hx hb d_F_compareFrom_136 (by decide) ?_
      refine lv_imul hx hb d_F_compareFrom_138 ?_
      refine lv_iload hx hb d_F_compareFrom_139 (lv_at hl 5 rfl) ?_
      refine lv_iadd hx hb d_F_compareFrom_141 ?_
      obtain ⟨v2, ev2, hv2, h⟩ := k_ld_e h
      refine va_iald hx hb hK hP 17 0 kw_17 rfl hv2 d_F_compareFrom_142 (k_top ev2 ?_)
      refine lv_istore (lv' := [(6, .int v2), (0, .ref (a 1)), (1, .int x1), (2, .int x2), (3, .int x3), (4, .int x4), (5, .int x5)]) hx hb d_F_compareFrom_143 hl (by decide) rfl (fun ls hl => ?_)
      refine lv_aload_n hx hb d_F_compareFrom_145 rfl (lv_at hl 1 rfl) ?_
      refine va_get (ci := 2) (C := R_F) (T := T_F) (N := 13) hx hb hts in_F hown hK hP 1 kw_1 rfl 9 (by decide) (hts _ q_42) (fun _ h9 => h9) rfl d_F_compareFrom_146 ?_
      refine lv_iload_n hx hb d_F_compareFrom_149 rfl (lv_at hl 3 rfl) ?_
      refine lv_bipush (v := 12) hx hb d_F_compareFrom_150 (by decide) ?_
      refine lv_imul hx hb d_F_compareFrom_152 ?_
      refine lv_iload hx hb d_F_compareFrom_153 (lv_at hl 6 rfl) ?_
      refine lv_iadd hx hb d_F_compareFrom_155 ?_
      obtain ⟨v3, ev3, hv3, h⟩ := k_ld_e h
      refine va_iald hx hb hK hP 17 0 kw_17 rfl hv3 d_F_compareFrom_156 (k_top ev3 ?_)
      refine lv_istore (lv' := [(7, .int v3), (6, .int v2), (0, .ref (a 1)), (1, .int x1), (2, .int x2), (3, .int x3), (4, .int x4), (5, .int x5)]) hx hb d_F_compareFrom_157 hl (by decide) rfl (fun ls hl => ?_)
      refine lv_aload_n hx hb d_F_compareFrom_159 rfl (lv_at hl 2 rfl) ?_
      refine lv_iload hx hb d_F_compareFrom_160 (lv_at hl 1 rfl) ?_
      refine lv_iload hx hb d_F_compareFrom_162 (lv_at hl 0 rfl) ?_
      refine lv_iload_n hx hb d_F_compareFrom_164 rfl (lv_at hl 5 rfl) ?_
      refine lv_iconst (v := 1) hx hb d_F_compareFrom_165 (by decide) ?_
      refine lv_iadd hx hb d_F_compareFrom_166 ?_
      obtain ⟨v4, σ5, hc6, h⟩ := k_call_e h
      refine k_calli (va_runS (As := [.ref (a 1), .int v2, .int v3, .int ((x3 + 1))]) (rest := []) ⟨hx, hb, hml, hown, hts⟩ (hR H.size hc6) (va_cwS 4 hts (k_gS q_393 q_394 q_2 q_395) rfl rfl rfl h_F_compareFrom.2 ⟨by simp only [rm_F_compareFrom, rm_F_compareFrom]; omega, by simp only [rm_F_compareFrom, rm_F_compareFrom]; omega⟩) (k_preS hP hK hN hD) rfl rfl hl.1 rfl (lv_room (Nat.le_of_ble_eq_true rfl)) d_F_compareFrom_167 ⟨Nat.zero_le _, Nat.zero_le _⟩) hD hS hA (fun H locs hP hD hS => ?_)
      refine lv_istore (lv' := [(8, .int v4), (7, .int v3), (6, .int v2), (0, .ref (a 1)), (1, .int x1), (2, .int x2), (3, .int x3), (4, .int x4), (5, .int x5)]) hx hb d_F_compareFrom_170 hl (by decide) rfl (fun ls hl => ?_)
      refine lv_iload hx hb d_F_compareFrom_172 (lv_at hl 0 rfl) ?_
      refine lv_if_eq (tgt := 180) hx hb d_F_compareFrom_174 (by decide) (fun cn7 => ?_) (fun cn7 => ?_)
      · replace h := (if_pos cn7).symm.trans h
        obtain ⟨v8, ev8, h⟩ := k_let_e h
        refine lv_iinc (v := v8) (lv' := [(5, .int v8), (8, .int v4), (7, .int v3), (6, .int v2), (0, .ref (a 1)), (1, .int x1), (2, .int x2), (3, .int x3), (4, .int x4)]) hx hb d_F_compareFrom_180 hl (k := 8) rfl (by rw [ev8]; rfl) (by decide) rfl (fun ls hl => ?_)
        refine lv_goto (tgt := 124) hx hb d_F_compareFrom_183 (by decide) ?_
        exact ih _ _ _ _ _ _ H locs ls hP hD hS (lv_sub hl [4, 5, 6, 7, 8, 0] rfl) h
      · replace h := (if_neg cn7).symm.trans h
        refine lv_iload hx hb d_F_compareFrom_177 (lv_at hl 0 rfl) ?_
        cases h
        exact k_iret hx hb hr hlk hP hS d_F_compareFrom_179
def M_F_compareFrom (selfR : kS → Int32 → Int32 → Int32 → Option (Int32 × kS)) (σ : kS) (x1 x2 x3 : Int32) : Option (Int32 × kS) := if x1 = x2 then (some (0, σ)) else (if x3 ≤ 20 then (k_ld (σ.2.1 2) 240 (x1) fun v3 => k_ld (σ.2.1 2) 240 (x2) fun v4 => if v3 = v4 then (k_ld (σ.2.1 3) 240 (x1) fun v6 => k_ld (σ.2.1 3) 240 (x2) fun v7 => if v6 = v7 then (k_ld (σ.2.1 9) 240 (x1) fun v9 => k_ld (σ.2.1 9) 240 (x2) fun v10 => if v9 = v10 then (M_F_compareFrom_124 selfR k_fu σ x1 x2 x3 v9 0) else (k_ld (σ.2.1 9) 240 (x2) fun v12 => if v12 ≤ v9 then (some (1, σ)) else (some ((-1), σ)))) else (k_ld (σ.2.1 3) 240 (x1) fun v14 => k_ld (σ.2.1 3) 240 (x2) fun v15 => if v15 ≤ v14 then (some (1, σ)) else (some ((-1), σ)))) else (k_ld (σ.2.1 2) 240 (x1) fun v17 => k_ld (σ.2.1 2) 240 (x2) fun v18 => if v18 ≤ v17 then (some (1, σ)) else (some ((-1), σ)))) else (some (0, σ)))
set_option maxHeartbeats 4000000 in
set_option maxRecDepth 100000 in
theorem B_F_compareFrom_0 {p : Program} {l : Launch} {e : Env} {s : State} {m : MethodId} {args : Array Value} {below : List Frame} {meth : Method} {c : Code} {D : va_G} {a : Nat → Nat} {c9 : Nat → ClassId} {A : Nat → Prop} {r9 : Int32} {σo : kS} (C0 : k_Cx D c9 p s m args meth c R_F c_F_compareFrom 9 (some .int) A) {d : Nat} {selfR : kS → Int32 → Int32 → Int32 → Option (Int32 × kS)} (hR : ∀ (sz : Nat) {σ : kS} {z0 z1 z2 : Int32} {r : Int32} {σ' : kS}, selfR σ z0 z1 z2 = some (r, σ') → Met l y_F_compareFrom (Cond.code y_F_compareFrom c_F_compareFrom 9 (some .int) :: kG) (rm_F_compareFrom d) (k_Pc D a c9 sz σ [.ref (a 1), .int z0, .int z1, .int z2]) (k_Qi D a c9 r σ' (k_A a c9 σ sz)) 0 0 (k_A a c9 σ sz)) (σ : kS) (x1 x2 x3 : Int32) (H : Heap) (locs : List Loc) (ls : Array Slot) (hP : va_P D kcl (kw a c9 σ) H) (hD : va_D A (kw a c9 σ)) (hS : va_S A s.heap H locs) (hl : lv_has ls 9 [(0, .ref (a 1)), (1, .int x1), (2, .int x2), (3, .int x3)]) (h : M_F_compareFrom selfR σ x1 x2 x3 = some (r9, σo)) : W p l e (rm_F_compareFrom (d + 1)) s m args below meth c H locs 0 0 (MQ below (k_Qi D a c9 r9 σo A) args s 0 0 A) (F0 m 0 ls []) := by
  obtain ⟨hx, hb, hml, hown, hts, hr, hlk, hK, hN, hA⟩ := id C0
  unfold M_F_compareFrom at h
  refine lv_iload_n hx hb d_F_compareFrom_0 rfl (lv_at hl 1 rfl) ?_
  refine lv_iload_n hx hb d_F_compareFrom_1 rfl (lv_at hl 2 rfl) ?_
  refine lv_icmp_eq (tgt := 11) hx hb d_F_compareFrom_2 (by decide) (fun cn1 => ?_) (fun cn1 => ?_)
  · replace h := (if_pos cn1).symm.trans h
    refine lv_iconst (v := 0) hx hb d_F_compareFrom_11 (by decide) ?_
    cases h
    exact k_iret hx hb hr hlk hP hS d_F_compareFrom_12
  · replace h := (if_neg cn1).symm.trans h
    refine lv_iload_n hx hb d_F_compareFrom_5 rfl (lv_at hl 3 rfl) ?_
    refine lv_bipush (v := 20) hx hb d_F_compareFrom_6 (by decide) ?_
    refine lv_icmp_le (tgt := 13) hx hb d_F_compareFrom_8 (by decide) (fun cn2 => ?_) (fun cn2 => ?_)
    · replace h := (if_pos cn2).symm.trans h
      refine lv_aload_n hx hb d_F_compareFrom_13 rfl (lv_at hl 0 rfl) ?_
      refine va_get (ci := 2) (C := R_F) (T := T_F) (N := 13) hx hb hts in_F hown hK hP 1 kw_1 rfl 1 (by decide) (hts _ q_34) (fun _ h9 => h9) rfl d_F_compareFrom_14 ?_
      refine lv_iload_n hx hb d_F_compareFrom_17 rfl (lv_at hl 1 rfl) ?_
      obtain ⟨v3, ev3, hv3, h⟩ := k_ld_e h
      refine va_iald hx hb hK hP 9 0 kw_9 rfl hv3 d_F_compareFrom_18 (k_top ev3 ?_)
      refine lv_aload_n hx hb d_F_compareFrom_19 rfl (lv_at hl 0 rfl) ?_
      refine va_get (ci := 2) (C := R_F) (T := T_F) (N := 13) hx hb hts in_F hown hK hP 1 kw_1 rfl 1 (by decide) (hts _ q_34) (fun _ h9 => h9) rfl d_F_compareFrom_20 ?_
      refine lv_iload_n hx hb d_F_compareFrom_23 rfl (lv_at hl 2 rfl) ?_
      obtain ⟨v4, ev4, hv4, h⟩ := k_ld_e h
      refine va_iald hx hb hK hP 9 0 kw_9 rfl hv4 d_F_compareFrom_24 (k_top ev4 ?_)
      refine lv_icmp_eq (tgt := 49) hx hb d_F_compareFrom_25 (by decide) (fun cn5 => ?_) (fun cn5 => ?_)
      · replace h := (if_pos cn5).symm.trans h
        refine lv_aload_n hx hb d_F_compareFrom_49 rfl (lv_at hl 0 rfl) ?_
        refine va_get (ci := 2) (C := R_F) (T := T_F) (N := 13) hx hb hts in_F hown hK hP 1 kw_1 rfl 2 (by decide) (hts _ q_35) (fun _ h9 => h9) rfl d_F_compareFrom_50 ?_
        refine lv_iload_n hx hb d_F_compareFrom_53 rfl (lv_at hl 1 rfl) ?_
        obtain ⟨v6, ev6, hv6, h⟩ := k_ld_e h
        refine va_iald hx hb hK hP 10 0 kw_10 rfl hv6 d_F_compareFrom_54 (k_top ev6 ?_)
        refine lv_aload_n hx hb d_F_compareFrom_55 rfl (lv_at hl 0 rfl) ?_
        refine va_get (ci := 2) (C := R_F) (T := T_F) (N := 13) hx hb hts in_F hown hK hP 1 kw_1 rfl 2 (by decide) (hts _ q_35) (fun _ h9 => h9) rfl d_F_compareFrom_56 ?_
        refine lv_iload_n hx hb d_F_compareFrom_59 rfl (lv_at hl 2 rfl) ?_
        obtain ⟨v7, ev7, hv7, h⟩ := k_ld_e h
        refine va_iald hx hb hK hP 10 0 kw_10 rfl hv7 d_F_compareFrom_60 (k_top ev7 ?_)
        refine lv_icmp_eq (tgt := 85) hx hb d_F_compareFrom_61 (by decide) (fun cn8 => ?_) (fun cn8 => ?_)
        · replace h := (if_pos cn8).symm.trans h
          refine lv_aload_n hx hb d_F_compareFrom_85 rfl (lv_at hl 0 rfl) ?_
          refine va_get (ci := 2) (C := R_F) (T := T_F) (N := 13) hx hb hts in_F hown hK hP 1 kw_1 rfl 8 (by decide) (hts _ q_41) (fun _ h9 => h9) rfl d_F_compareFrom_86 ?_
          refine lv_iload_n hx hb d_F_compareFrom_89 rfl (lv_at hl 1 rfl) ?_
          obtain ⟨v9, ev9, hv9, h⟩ := k_ld_e h
          refine va_iald hx hb hK hP 16 0 kw_16 rfl hv9 d_F_compareFrom_90 (k_top ev9 ?_)
          refine lv_istore (lv' := [(4, .int v9), (0, .ref (a 1)), (1, .int x1), (2, .int x2), (3, .int x3)]) hx hb d_F_compareFrom_91 hl (by decide) rfl (fun ls hl => ?_)
          refine lv_iload hx hb d_F_compareFrom_93 (lv_at hl 0 rfl) ?_
          refine lv_aload_n hx hb d_F_compareFrom_95 rfl (lv_at hl 1 rfl) ?_
          refine va_get (ci := 2) (C := R_F) (T := T_F) (N := 13) hx hb hts in_F hown hK hP 1 kw_1 rfl 8 (by decide) (hts _ q_41) (fun _ h9 => h9) rfl d_F_compareFrom_96 ?_
          refine lv_iload_n hx hb d_F_compareFrom_99 rfl (lv_at hl 3 rfl) ?_
          obtain ⟨v10, ev10, hv10, h⟩ := k_ld_e h
          refine va_iald hx hb hK hP 16 0 kw_16 rfl hv10 d_F_compareFrom_100 (k_top ev10 ?_)
          refine lv_icmp_eq (tgt := 121) hx hb d_F_compareFrom_101 (by decide) (fun cn11 => ?_) (fun cn11 => ?_)
          · replace h := (if_pos cn11).symm.trans h
            refine lv_iconst (v := 0) hx hb d_F_compareFrom_121 (by decide) ?_
            refine lv_istore (lv' := [(5, .int 0), (4, .int v9), (0, .ref (a 1)), (1, .int x1), (2, .int x2), (3, .int x3)]) hx hb d_F_compareFrom_122 hl (by decide) rfl (fun ls hl => ?_)
            exact B_F_compareFrom_124 C0 hR k_fu _ _ _ _ _ _ H locs ls hP hD hS (lv_sub hl [2, 3, 4, 5, 1, 0] rfl) h
          · replace h := (if_neg cn11).symm.trans h
            refine lv_iload hx hb d_F_compareFrom_104 (lv_at hl 0 rfl) ?_
            refine lv_aload_n hx hb d_F_compareFrom_106 rfl (lv_at hl 1 rfl) ?_
            refine va_get (ci := 2) (C := R_F) (T := T_F) (N := 13) hx hb hts in_F hown hK hP 1 kw_1 rfl 8 (by decide) (hts _ q_41) (fun _ h9 => h9) rfl d_F_compareFrom_107 ?_
            refine lv_iload_n hx hb d_F_compareFrom_110 rfl (lv_at hl 3 rfl) ?_
            obtain ⟨v12, ev12, hv12, h⟩ := k_ld_e h
            refine va_iald hx hb hK hP 16 0 kw_16 rfl hv12 d_F_compareFrom_111 (k_top ev12 ?_)
            refine lv_icmp_ge (tgt := 119) hx hb d_F_compareFrom_112 (by decide) (fun cn13 => ?_) (fun cn13 => ?_)
            · replace h := (if_pos cn13).symm.trans h
              refine lv_iconst (v := 1) hx hb d_F_compareFrom_119 (by decide) ?_
              cases h
              exact k_iret hx hb hr hlk hP hS d_F_compareFrom_120
            · replace h := (if_neg cn13).symm.trans h
              refine lv_iconst (v := (-1)) hx hb d_F_compareFrom_115 (by decide) ?_
              refine lv_goto (tgt := 120) hx hb d_F_compareFrom_116 (by decide) ?_
              cases h
              exact k_iret hx hb hr hlk hP hS d_F_compareFrom_120
        · replace h := (if_neg cn8).symm.trans h
          refine lv_aload_n hx hb d_F_compareFrom_64 rfl (lv_at hl 0 rfl) ?_
          refine va_get (ci := 2) (C := R_F) (T := T_F) (N := 13) hx hb hts in_F hown hK hP 1 kw_1 rfl 2 (by decide) (hts _ q_35) (fun _ h9 => h9) rfl d_F_compareFrom_65 ?_
          refine lv_iload_n hx hb d_F_compareFrom_68 rfl (lv_at hl 1 rfl) ?_
          obtain ⟨v14, ev14, hv14, h⟩ := k_ld_e h
          refine va_iald hx hb hK hP 10 0 kw_10 rfl hv14 d_F_compareFrom_69 (k_top ev14 ?_)
          refine lv_aload_n hx hb d_F_compareFrom_70 rfl (lv_at hl 0 rfl) ?_
          refine va_get (ci := 2) (C := R_F) (T := T_F) (N := 13) hx hb hts in_F hown hK hP 1 kw_1 rfl 2 (by decide) (hts _ q_35) (fun _ h9 => h9) rfl d_F_compareFrom_71 ?_
          refine lv_iload_n hx hb d_F_compareFrom_74 rfl (lv_at hl 2 rfl) ?_
          obtain ⟨v15, ev15, hv15, h⟩ := k_ld_e h
          refine va_iald hx hb hK hP 10 0 kw_10 rfl hv15 d_F_compareFrom_75 (k_top ev15 ?_)
          refine lv_icmp_ge (tgt := 83) hx hb d_F_compareFrom_76 (by decide) (fun cn16 => ?_) (fun cn16 => ?_)
          · replace h := (if_pos cn16).symm.trans h
            refine lv_iconst (v := 1) hx hb d_F_compareFrom_83 (by decide) ?_
            cases h
            exact k_iret hx hb hr hlk hP hS d_F_compareFrom_84
          · replace h := (if_neg cn16).symm.trans h
            refine lv_iconst (v := (-1)) hx hb d_F_compareFrom_79 (by decide) ?_
            refine lv_goto (tgt := 84) hx hb d_F_compareFrom_80 (by decide) ?_
            cases h
            exact k_iret hx hb hr hlk hP hS d_F_compareFrom_84
      · replace h := (if_neg cn5).symm.trans h
        refine lv_aload_n hx hb d_F_compareFrom_28 rfl (lv_at hl 0 rfl) ?_
        refine va_get (ci := 2) (C := R_F) (T := T_F) (N := 13) hx hb hts in_F hown hK hP 1 kw_1 rfl 1 (by decide) (hts _ q_34) (fun _ h9 => h9) rfl d_F_compareFrom_29 ?_
        refine lv_iload_n hx hb d_F_compareFrom_32 rfl (lv_at hl 1 rfl) ?_
        obtain ⟨v17, ev17, hv17, h⟩ := k_ld_e h
        refine va_iald hx hb hK hP 9 0 kw_9 rfl hv17 d_F_compareFrom_33 (k_top ev17 ?_)
        refine lv_aload_n hx hb d_F_compareFrom_34 rfl (lv_at hl 0 rfl) ?_
        refine va_get (ci := 2) (C := R_F) (T := T_F) (N := 13) hx hb hts in_F hown hK hP 1 kw_1 rfl 1 (by decide) (hts _ q_34) (fun _ h9 => h9) rfl d_F_compareFrom_35 ?_
        refine lv_iload_n hx hb d_F_compareFrom_38 rfl (lv_at hl 2 rfl) ?_
        obtain ⟨v18, ev18, hv18, h⟩ := k_ld_e h
        refine va_iald hx hb hK hP 9 0 kw_9 rfl hv18 d_F_compareFrom_39 (k_top ev18 ?_)
        refine lv_icmp_ge (tgt := 47) hx hb d_F_compareFrom_40 (by decide) (fun cn19 => ?_) (fun cn19 => ?_)
        · replace h := (if_pos cn19).symm.trans h
          refine lv_iconst (v := 1) hx hb d_F_compareFrom_47 (by decide) ?_
          cases h
          exact k_iret hx hb hr hlk hP hS d_F_compareFrom_48
        · replace h := (if_neg cn19).symm.trans h
          refine lv_iconst (v := (-1)) hx hb d_F_compareFrom_43 (by decide) ?_
          refine lv_goto (tgt := 48) hx hb d_F_compareFrom_44 (by decide) ?_
          cases h
          exact k_iret hx hb hr hlk hP hS d_F_compareFrom_48
    · replace h := (if_neg cn2).symm.trans h
      refine lv_iconst (v := 0) hx hb d_F_compareFrom_11 (by decide) ?_
      cases h
      exact k_iret hx hb hr hlk hP hS d_F_compareFrom_12
def M_F_compareFrom_r : Nat → kS → Int32 → Int32 → Int32 → Option (Int32 × kS)
  | 0 => fun _ _ _ _ => none
  | d + 1 => M_F_compareFrom (M_F_compareFrom_r d)
theorem K_F_compareFrom (l : Launch) (D : va_G) (a : Nat → Nat) (c9 : Nat → ClassId) : ∀ (d sz : Nat) {σ : kS} {x1 x2 x3 : Int32} {r9 : Int32} {σo : kS}, M_F_compareFrom_r d σ x1 x2 x3 = some (r9, σo) → Met l y_F_compareFrom (Cond.code y_F_compareFrom c_F_compareFrom 9 (some .int) :: kG) (rm_F_compareFrom d) (k_Pc D a c9 sz σ [.ref (a 1), .int x1, .int x2, .int x3]) (k_Qi D a c9 r9 σo (k_A a c9 σ sz)) 0 0 (k_A a c9 σ sz) := by
  intro d
  induction d with
  | zero => intro sz σ x1 x2 x3 r9 σo h; replace h : (none : Option (Int32 × kS)) = some (r9, σo) := h; cases h
  | succ d ih =>
    intro sz σ x1 x2 x3 r9 σo h
    exact k_met (Qf := k_Qi D a c9 r9 σo) (by decide) (Nat.le_of_ble_eq_true rfl) (fun p e s m args below meth c A ls C0 hP hD hS hl => B_F_compareFrom_0 C0 ih σ x1 x2 x3 s.heap [] ls hP hD hS hl h)
def rm_F_compare : Room := { frames := 23, cells := 0, slots := 0, locals := 644 }
def M_F_compare (σ : kS) (x1 x2 : Int32) : Option (Int32 × kS) := k_call (M_F_compareFrom_r 22 σ x1 x2 0) fun v1 σ2 => some (v1, σ2)
set_option maxHeartbeats 4000000 in
set_option maxRecDepth 100000 in
theorem B_F_compare_0 {p : Program} {l : Launch} {e : Env} {s : State} {m : MethodId} {args : Array Value} {below : List Frame} {meth : Method} {c : Code} {D : va_G} {a : Nat → Nat} {c9 : Nat → ClassId} {A : Nat → Prop} {r9 : Int32} {σo : kS} (C0 : k_Cx D c9 p s m args meth c R_F c_F_compare 3 (some .int) A) (σ : kS) (x1 x2 : Int32) (H : Heap) (locs : List Loc) (ls : Array Slot) (hP : va_P D kcl (kw a c9 σ) H) (hD : va_D A (kw a c9 σ)) (hS : va_S A s.heap H locs) (hl : lv_has ls 3 [(0, .ref (a 1)), (1, .int x1), (2, .int x2)]) (h : M_F_compare σ x1 x2 = some (r9, σo)) : W p l e rm_F_compare s m args below meth c H locs 0 0 (MQ below (k_Qi D a c9 r9 σo A) args s 0 0 A) (F0 m 0 ls []) := by
  obtain ⟨hx, hb, hml, hown, hts, hr, hlk, hK, hN, hA⟩ := id C0
  unfold M_F_compare at h
  refine lv_aload_n hx hb d_F_compare_0 rfl (lv_at hl 0 rfl) ?_
  refine lv_iload_n hx hb d_F_compare_1 rfl (lv_at hl 1 rfl) ?_
  refine lv_iload_n hx hb d_F_compare_2 rfl (lv_at hl 2 rfl) ?_
  refine lv_iconst (v := 0) hx hb d_F_compare_3 (by decide) ?_
  obtain ⟨v1, σ2, hc3, h⟩ := k_call_e h
  refine k_calli (va_runS (As := [.ref (a 1), .int x1, .int x2, .int 0]) (rest := []) ⟨hx, hb, hml, hown, hts⟩ (K_F_compareFrom l D a c9 22 H.size hc3) (va_cwS 4 hts (k_gS q_393 q_394 q_2 q_395) rfl rfl rfl h_F_compareFrom.2 ⟨Nat.le_of_ble_eq_true rfl, Nat.le_of_ble_eq_true rfl⟩) (k_preS hP hK hN hD) rfl rfl hl.1 rfl (lv_room (Nat.le_of_ble_eq_true rfl)) d_F_compare_4 ⟨Nat.zero_le _, Nat.zero_le _⟩) hD hS hA (fun H locs hP hD hS => ?_)
  cases h
  exact k_iret hx hb hr hlk hP hS d_F_compare_7
theorem K_F_compare (l : Launch) (D : va_G) (a : Nat → Nat) (c9 : Nat → ClassId) (sz : Nat) {σ : kS} {x1 x2 : Int32} {r9 : Int32} {σo : kS} (h : M_F_compare σ x1 x2 = some (r9, σo)) : Met l y_F_compare (Cond.code y_F_compare c_F_compare 3 (some .int) :: kG) rm_F_compare (k_Pc D a c9 sz σ [.ref (a 1), .int x1, .int x2]) (k_Qi D a c9 r9 σo (k_A a c9 σ sz)) 0 0 (k_A a c9 σ sz) :=
  k_met (Qf := k_Qi D a c9 r9 σo) (by decide) (Nat.le_of_ble_eq_true rfl) (fun p e s m args below meth c A ls C0 hP hD hS hl => B_F_compare_0 C0 σ x1 x2 s.heap [] ls hP hD hS hl h)
def rm_F_placeFor : Room := { frames := 24, cells := 0, slots := 0, locals := 666 }
def M_F_placeFor_35_b (self9 : kS → Int32 → Int32 → Int32 → Option (Int32 × kS)) (σ : kS) (x1 x2 x3 : Int32) : Option (Int32 × kS) := if x3 ≤ 0 then (some (x3, σ)) else (k_call (M_F_partAt σ x1 ((x3 - 1))) fun v2 σ3 => k_call (M_F_compare σ3 v2 x2) fun v5 σ6 => if v5 ≤ 0 then (some (x3, σ6)) else (k_let (x3 + (-1)) fun v9 => self9 σ6 x1 x2 v9))
def M_F_placeFor_35 : Nat → kS → Int32 → Int32 → Int32 → Option (Int32 × kS)
  | 0 => fun _ _ _ _ => none
  | n + 1 => M_F_placeFor_35_b (M_F_placeFor_35 n)
set_option maxHeartbeats 4000000 in
set_option maxRecDepth 100000 in
theorem B_F_placeFor_35 {p : Program} {l : Launch} {e : Env} {s : State} {m : MethodId} {args : Array Value} {below : List Frame} {meth : Method} {c : Code} {D : va_G} {a : Nat → Nat} {c9 : Nat → ClassId} {A : Nat → Prop} {r9 : Int32} {σo : kS} (C0 : k_Cx D c9 p s m args meth c R_F c_F_placeFor 4 (some .int) A) : ∀ (n : Nat) (σ : kS) (x1 x2 x3 : Int32) (H : Heap) (locs : List Loc) (ls : Array Slot), va_P D kcl (kw a c9 σ) H → va_D A (kw a c9 σ) → va_S A s.heap H locs → lv_has ls 4 [(0, .ref (a 1)), (1, .int x1), (2, .int x2), (3, .int x3)] → M_F_placeFor_35 n σ x1 x2 x3 = some (r9, σo) → W p l e rm_F_placeFor s m args below meth c H locs 0 0 (MQ below (k_Qi D a c9 r9 σo A) args s 0 0 A) (F0 m 35 ls []) := by
  obtain ⟨hx, hb, hml, hown, hts, hr, hlk, hK, hN, hA⟩ := id C0
  intro n
  induction n with
  | zero =>
    intro σ x1 x2 x3 H locs ls hP hD hS hl h
    replace h : (none : Option (Int32 × kS)) = some (r9, σo) := h
    cases h
  | succ n ih =>
    intro σ x1 x2 x3 H locs ls hP hD hS hl h
    replace h : M_F_placeFor_35_b (M_F_placeFor_35 n) σ x1 x2 x3 = some (r9, σo) := h
    unfold M_F_placeFor_35_b at h
    refine lv_iload_n hx hb d_F_placeFor_35 rfl (lv_at hl 3 rfl) ?_
    refine lv_if_le (tgt := 61) hx hb d_F_placeFor_36 (by decide) (fun cn1 => ?_) (fun cn1 => ?_)
    · replace h := (if_pos cn1).symm.trans h
      refine lv_iload_n hx hb d_F_placeFor_61 rfl (lv_at hl 3 rfl) ?_
      cases h
      exact k_iret hx hb hr hlk hP hS d_F_placeFor_62
    · replace h := (if_neg cn1).symm.trans h
      refine lv_aload_n hx hb d_F_placeFor_39 rfl (lv_at hl 0 rfl) ?_
      refine lv_aload_n hx hb d_F_placeFor_40 rfl (lv_at hl 0 rfl) ?_
      refine lv_iload_n hx hb d_F_placeFor_41 rfl (lv_at hl 1 rfl) ?_
      refine lv_iload_n hx hb d_F_placeFor_42 rfl (lv_at hl 3 rfl) ?_
      refine lv_iconst (v := 1) hx hb d_F_placeFor_43 (by decide) ?_
      refine lv_isub hx hb d_F_placeFor_44 ?_
      obtain ⟨v2, σ3, hc4, h⟩ := k_call_e h
      refine k_calli (va_runV (As := [.int x1, .int ((x3 - 1))]) (rest := [.ref (a 1)]) ⟨hx, hb, hml, hown, hts⟩ (K_F_partAt l D a c9 H.size hc4) (cwV 2 hts (k_gV q_385 q_386 q_387 q_2 q_388) rfl rfl rfl h_F_partAt ⟨Nat.le_of_ble_eq_true rfl, Nat.le_of_ble_eq_true rfl⟩) (k_preV (ci := 2) (q0 := 1) rfl kw_1 hP hK hN hD) rfl rfl hl.1 rfl (lv_room (Nat.le_of_ble_eq_true rfl)) d_F_placeFor_45 ⟨Nat.zero_le _, Nat.zero_le _⟩) hD hS hA (fun H locs hP hD hS => ?_)
      refine lv_iload_n hx hb d_F_placeFor_48 rfl (lv_at hl 2 rfl) ?_
      obtain ⟨v5, σ6, hc7, h⟩ := k_call_e h
      refine k_calli (va_runV (As := [.int v2, .int x2]) (rest := []) ⟨hx, hb, hml, hown, hts⟩ (K_F_compare l D a c9 H.size hc7) (cwV 2 hts (k_gV q_389 q_390 q_391 q_2 q_392) rfl rfl rfl h_F_compare ⟨Nat.le_of_ble_eq_true rfl, Nat.le_of_ble_eq_true rfl⟩) (k_preV (ci := 2) (q0 := 1) rfl kw_1 hP hK hN hD) rfl rfl hl.1 rfl (lv_room (Nat.le_of_ble_eq_true rfl)) d_F_placeFor_49 ⟨Nat.zero_le _, Nat.zero_le _⟩) hD hS hA (fun H locs hP hD hS => ?_)
      refine lv_if_le (tgt := 61) hx hb d_F_placeFor_52 (by decide) (fun cn8 => ?_) (fun cn8 => ?_)
      · replace h := (if_pos cn8).symm.trans h
        refine lv_iload_n hx hb d_F_placeFor_61 rfl (lv_at hl 3 rfl) ?_
        cases h
        exact k_iret hx hb hr hlk hP hS d_F_placeFor_62
      · replace h := (if_neg cn8).symm.trans h
        obtain ⟨v9, ev9, h⟩ := k_let_e h
        refine lv_iinc (v := v9) (lv' := [(3, .int v9), (0, .ref (a 1)), (1, .int x1), (2, .int x2)]) hx hb d_F_placeFor_55 hl (k := 3) rfl (by rw [ev9]; rfl) (by decide) rfl (fun ls hl => ?_)
        refine lv_goto (tgt := 35) hx hb d_F_placeFor_58 (by decide) ?_
        exact ih _ _ _ _ H locs ls hP hD hS (lv_sub hl [1, 2, 3, 0] rfl) h
def M_F_placeFor (σ : kS) (x1 x2 : Int32) : Option (Int32 × kS) := k_ld (σ.2.1 9) 240 (x1) fun v1 => k_call (M_F_isAnyOrder σ x1) fun v2 σ3 => if v2 = 0 then (some (v1, σ3)) else (k_ld (σ3.2.1 5) 240 (x1) fun v6 => if v6 = 0 then (some (v1, σ3)) else (k_ld (σ3.2.1 5) 240 (x2) fun v8 => if v8 = 0 then (some (v1, σ3)) else (M_F_placeFor_35 k_fu σ3 x1 x2 v1)))
set_option maxHeartbeats 4000000 in
set_option maxRecDepth 100000 in
theorem B_F_placeFor_0 {p : Program} {l : Launch} {e : Env} {s : State} {m : MethodId} {args : Array Value} {below : List Frame} {meth : Method} {c : Code} {D : va_G} {a : Nat → Nat} {c9 : Nat → ClassId} {A : Nat → Prop} {r9 : Int32} {σo : kS} (C0 : k_Cx D c9 p s m args meth c R_F c_F_placeFor 4 (some .int) A) (σ : kS) (x1 x2 : Int32) (H : Heap) (locs : List Loc) (ls : Array Slot) (hP : va_P D kcl (kw a c9 σ) H) (hD : va_D A (kw a c9 σ)) (hS : va_S A s.heap H locs) (hl : lv_has ls 4 [(0, .ref (a 1)), (1, .int x1), (2, .int x2)]) (h : M_F_placeFor σ x1 x2 = some (r9, σo)) : W p l e rm_F_placeFor s m args below meth c H locs 0 0 (MQ below (k_Qi D a c9 r9 σo A) args s 0 0 A) (F0 m 0 ls []) := by
  obtain ⟨hx, hb, hml, hown, hts, hr, hlk, hK, hN, hA⟩ := id C0
  unfold M_F_placeFor at h
  refine lv_aload_n hx hb d_F_placeFor_0 rfl (lv_at hl 0 rfl) ?_
  refine va_get (ci := 2) (C := R_F) (T := T_F) (N := 13) hx hb hts in_F hown hK hP 1 kw_1 rfl 8 (by decide) (hts _ q_41) (fun _ h9 => h9) rfl d_F_placeFor_1 ?_
  refine lv_iload_n hx hb d_F_placeFor_4 rfl (lv_at hl 1 rfl) ?_
  obtain ⟨v1, ev1, hv1, h⟩ := k_ld_e h
  refine va_iald hx hb hK hP 16 0 kw_16 rfl hv1 d_F_placeFor_5 (k_top ev1 ?_)
  refine lv_istore_n (lv' := [(3, .int v1), (0, .ref (a 1)), (1, .int x1), (2, .int x2)]) hx hb d_F_placeFor_6 rfl hl (by decide) rfl (fun ls hl => ?_)
  refine lv_aload_n hx hb d_F_placeFor_7 rfl (lv_at hl 1 rfl) ?_
  refine lv_iload_n hx hb d_F_placeFor_8 rfl (lv_at hl 2 rfl) ?_
  obtain ⟨v2, σ3, hc4, h⟩ := k_call_e h
  refine k_calli (va_runV (As := [.int x1]) (rest := []) ⟨hx, hb, hml, hown, hts⟩ (K_F_isAnyOrder l D a c9 H.size hc4) (cwV 1 hts (k_gV q_381 q_382 q_383 q_2 q_384) rfl rfl rfl h_F_isAnyOrder ⟨Nat.le_of_ble_eq_true rfl, Nat.le_of_ble_eq_true rfl⟩) (k_preV (ci := 2) (q0 := 1) rfl kw_1 hP hK hN hD) rfl rfl hl.1 rfl (lv_room (Nat.le_of_ble_eq_true rfl)) d_F_placeFor_9 ⟨Nat.zero_le _, Nat.zero_le _⟩) hD hS hA (fun H locs hP hD hS => ?_)
  refine lv_if_eq (tgt := 33) hx hb d_F_placeFor_12 (by decide) (fun cn5 => ?_) (fun cn5 => ?_)
  · replace h := (if_pos cn5).symm.trans h
    refine lv_iload_n hx hb d_F_placeFor_33 rfl (lv_at hl 0 rfl) ?_
    cases h
    exact k_iret hx hb hr hlk hP hS d_F_placeFor_34
  · replace h := (if_neg cn5).symm.trans h
    refine lv_aload_n hx hb d_F_placeFor_15 rfl (lv_at hl 1 rfl) ?_
    refine va_get (ci := 2) (C := R_F) (T := T_F) (N := 13) hx hb hts in_F hown hK hP 1 kw_1 rfl 4 (by decide) (hts _ q_37) (fun _ h9 => h9) rfl d_F_placeFor_16 ?_
    refine lv_iload_n hx hb d_F_placeFor_19 rfl (lv_at hl 2 rfl) ?_
    obtain ⟨v6, ev6, hv6, h⟩ := k_ld_e h
    refine va_zald hx hb hK hP 12 1 kw_12 rfl hv6 d_F_placeFor_20 (k_top ev6 ?_)
    refine lv_if_eq (tgt := 33) hx hb d_F_placeFor_21 (by decide) (fun cn7 => ?_) (fun cn7 => ?_)
    · replace h := (if_pos cn7).symm.trans h
      refine lv_iload_n hx hb d_F_placeFor_33 rfl (lv_at hl 0 rfl) ?_
      cases h
      exact k_iret hx hb hr hlk hP hS d_F_placeFor_34
    · replace h := (if_neg cn7).symm.trans h
      refine lv_aload_n hx hb d_F_placeFor_24 rfl (lv_at hl 1 rfl) ?_
      refine va_get (ci := 2) (C := R_F) (T := T_F) (N := 13) hx hb hts in_F hown hK hP 1 kw_1 rfl 4 (by decide) (hts _ q_37) (fun _ h9 => h9) rfl d_F_placeFor_25 ?_
      refine lv_iload_n hx hb d_F_placeFor_28 rfl (lv_at hl 3 rfl) ?_
      obtain ⟨v8, ev8, hv8, h⟩ := k_ld_e h
      refine va_zald hx hb hK hP 12 1 kw_12 rfl hv8 d_F_placeFor_29 (k_top ev8 ?_)
      refine lv_if_ne (tgt := 35) hx hb d_F_placeFor_30 (by decide) (fun cn9 => ?_) (fun cn9 => ?_)
      · replace h := (if_neg cn9).symm.trans h
        exact B_F_placeFor_35 C0 k_fu _ _ _ _ H locs ls hP hD hS (lv_sub hl [1, 2, 3, 0] rfl) h
      · replace h := (if_pos cn9).symm.trans h
        refine lv_iload_n hx hb d_F_placeFor_33 rfl (lv_at hl 0 rfl) ?_
        cases h
        exact k_iret hx hb hr hlk hP hS d_F_placeFor_34
theorem K_F_placeFor (l : Launch) (D : va_G) (a : Nat → Nat) (c9 : Nat → ClassId) (sz : Nat) {σ : kS} {x1 x2 : Int32} {r9 : Int32} {σo : kS} (h : M_F_placeFor σ x1 x2 = some (r9, σo)) : Met l y_F_placeFor (Cond.code y_F_placeFor c_F_placeFor 4 (some .int) :: kG) rm_F_placeFor (k_Pc D a c9 sz σ [.ref (a 1), .int x1, .int x2]) (k_Qi D a c9 r9 σo (k_A a c9 σ sz)) 0 0 (k_A a c9 σ sz) :=
  k_met (Qf := k_Qi D a c9 r9 σo) (by decide) (Nat.le_of_ble_eq_true rfl) (fun p e s m args below meth c A ls C0 hP hD hS hl => B_F_placeFor_0 C0 σ x1 x2 s.heap [] ls hP hD hS hl h)
def rm_F_addPart : Room := { frames := 25, cells := 0, slots := 0, locals := 689 }
def M_F_addPart_115 (σ : kS) (x1 x2 x3 x4 x5 x6 y0 y1 : Int32) : Option (Int32 × kS) := k_st σ 5 240 (y1) (vp_nar .boolean (y0)) fun σ1 => k_ld (σ1.2.1 7) 240 (x1) fun v2 => k_ld (σ1.2.1 7) 240 (x2) fun v3 => k_st σ1 7 240 (x1) ((if v2 < (v3 + 1) then (v3 + 1) else v2)) fun σ4 => k_ld (σ4.2.1 8) 240 (x1) fun v5 => k_ld (σ4.2.1 8) 240 (x2) fun v6 => k_st σ4 8 240 (x1) ((v5 + v6)) fun σ7 => k_st σ7 6 240 (x2) (vp_nar .boolean (1)) fun σ8 => some (1, σ8)
set_option maxHeartbeats 4000000 in
set_option maxRecDepth 100000 in
theorem B_F_addPart_115 {p : Program} {l : Launch} {e : Env} {s : State} {m : MethodId} {args : Array Value} {below : List Frame} {meth : Method} {c : Code} {D : va_G} {a : Nat → Nat} {c9 : Nat → ClassId} {A : Nat → Prop} {r9 : Int32} {σo : kS} (C0 : k_Cx D c9 p s m args meth c R_F c_F_addPart 7 (some .boolean) A) (σ : kS) (x1 x2 x3 x4 x5 x6 y0 y1 : Int32) (H : Heap) (locs : List Loc) (ls : Array Slot) (hP : va_P D kcl (kw a c9 σ) H) (hD : va_D A (kw a c9 σ)) (hS : va_S A s.heap H locs) (hl : lv_has ls 7 [(0, .ref (a 1)), (1, .int x1), (2, .int x2), (3, .int x3), (4, .int x4), (5, .int x5), (6, .int x6)]) (h : M_F_addPart_115 σ x1 x2 x3 x4 x5 x6 y0 y1 = some (r9, σo)) : W p l e rm_F_addPart s m args below meth c H locs 0 0 (MQ below (k_Qi D a c9 r9 σo A) args s 0 0 A) (F0 m 115 ls [.int y0, .int y1, .ref (a 12)]) := by
  obtain ⟨hx, hb, hml, hown, hts, hr, hlk, hK, hN, hA⟩ := id C0
  unfold M_F_addPart_115 at h
  obtain ⟨σ1, eσ1, hiσ1, h⟩ := k_st_e h
  refine va_zast hx hb hK hP hD hS 12 1 kw_12 rfl hiσ1 d_F_addPart_115 (fun H locs hP hD hS => ?_)
  replace hP := k_mvP (kw_s12.trans (congrArg _ eσ1.symm)) hP
  replace hD := k_mvD (kw_s12.trans (congrArg _ eσ1.symm)) hD
  refine lv_aload_n hx hb d_F_addPart_116 rfl (lv_at hl 0 rfl) ?_
  refine va_get (ci := 2) (C := R_F) (T := T_F) (N := 13) hx hb hts in_F hown hK hP 1 kw_1 rfl 6 (by decide) (hts _ q_39) (fun _ h9 => h9) rfl d_F_addPart_117 ?_
  refine lv_iload_n hx hb d_F_addPart_120 rfl (lv_at hl 1 rfl) ?_
  refine lv_aload_n hx hb d_F_addPart_121 rfl (lv_at hl 0 rfl) ?_
  refine va_get (ci := 2) (C := R_F) (T := T_F) (N := 13) hx hb hts in_F hown hK hP 1 kw_1 rfl 6 (by decide) (hts _ q_39) (fun _ h9 => h9) rfl d_F_addPart_122 ?_
  refine lv_iload_n hx hb d_F_addPart_125 rfl (lv_at hl 1 rfl) ?_
  obtain ⟨v2, ev2, hv2, h⟩ := k_ld_e h
  refine va_iald hx hb hK hP 14 0 kw_14 rfl hv2 d_F_addPart_126 (k_top ev2 ?_)
  refine lv_aload_n hx hb d_F_addPart_127 rfl (lv_at hl 0 rfl) ?_
  refine va_get (ci := 2) (C := R_F) (T := T_F) (N := 13) hx hb hts in_F hown hK hP 1 kw_1 rfl 6 (by decide) (hts _ q_39) (fun _ h9 => h9) rfl d_F_addPart_128 ?_
  refine lv_iload_n hx hb d_F_addPart_131 rfl (lv_at hl 2 rfl) ?_
  obtain ⟨v3, ev3, hv3, h⟩ := k_ld_e h
  refine va_iald hx hb hK hP 14 0 kw_14 rfl hv3 d_F_addPart_132 (k_top ev3 ?_)
  refine lv_iconst (v := 1) hx hb d_F_addPart_133 (by decide) ?_
  refine lv_iadd hx hb d_F_addPart_134 ?_
  refine va_mmax hx hb (hml.trans hl.1.symm) hown (hts _ q_396) (hts _ q_397) (hts _ q_14) (hts _ q_398) (Nat.le_of_ble_eq_true rfl) (Nat.le_of_ble_eq_true rfl) (Nat.zero_le _) (Nat.zero_le _) d_F_addPart_135 ?_
  obtain ⟨σ4, eσ4, hiσ4, h⟩ := k_st_e h
  refine va_iast hx hb hK hP hD hS 14 0 kw_14 rfl hiσ4 d_F_addPart_138 (fun H locs hP hD hS => ?_)
  replace hP := k_mvP (kw_s14.trans (congrArg _ eσ4.symm)) hP
  replace hD := k_mvD (kw_s14.trans (congrArg _ eσ4.symm)) hD
  refine lv_aload_n hx hb d_F_addPart_139 rfl (lv_at hl 0 rfl) ?_
  refine va_get (ci := 2) (C := R_F) (T := T_F) (N := 13) hx hb hts in_F hown hK hP 1 kw_1 rfl 7 (by decide) (hts _ q_40) (fun _ h9 => h9) rfl d_F_addPart_140 ?_
  refine lv_iload_n hx hb d_F_addPart_143 rfl (lv_at hl 1 rfl) ?_
  refine lv_dup2_11 hx hb d_F_addPart_144 rfl rfl ?_
  obtain ⟨v5, ev5, hv5, h⟩ := k_ld_e h
  refine va_iald hx hb hK hP 15 0 kw_15 rfl hv5 d_F_addPart_145 (k_top ev5 ?_)
  refine lv_aload_n hx hb d_F_addPart_146 rfl (lv_at hl 0 rfl) ?_
  refine va_get (ci := 2) (C := R_F) (T := T_F) (N := 13) hx hb hts in_F hown hK hP 1 kw_1 rfl 7 (by decide) (hts _ q_40) (fun _ h9 => h9) rfl d_F_addPart_147 ?_
  refine lv_iload_n hx hb d_F_addPart_150 rfl (lv_at hl 2 rfl) ?_
  obtain ⟨v6, ev6, hv6, h⟩ := k_ld_e h
  refine va_iald hx hb hK hP 15 0 kw_15 rfl hv6 d_F_addPart_151 (k_top ev6 ?_)
  refine lv_iadd hx hb d_F_addPart_152 ?_
  obtain ⟨σ7, eσ7, hiσ7, h⟩ := k_st_e h
  refine va_iast hx hb hK hP hD hS 15 0 kw_15 rfl hiσ7 d_F_addPart_153 (fun H locs hP hD hS => ?_)
  replace hP := k_mvP (kw_s15.trans (congrArg _ eσ7.symm)) hP
  replace hD := k_mvD (kw_s15.trans (congrArg _ eσ7.symm)) hD
  refine lv_aload_n hx hb d_F_addPart_154 rfl (lv_at hl 0 rfl) ?_
  refine va_get (ci := 2) (C := R_F) (T := T_F) (N := 13) hx hb hts in_F hown hK hP 1 kw_1 rfl 5 (by decide) (hts _ q_38) (fun _ h9 => h9) rfl d_F_addPart_155 ?_
  refine lv_iload_n hx hb d_F_addPart_158 rfl (lv_at hl 2 rfl) ?_
  refine lv_iconst (v := 1) hx hb d_F_addPart_159 (by decide) ?_
  obtain ⟨σ8, eσ8, hiσ8, h⟩ := k_st_e h
  refine va_zast hx hb hK hP hD hS 13 1 kw_13 rfl hiσ8 d_F_addPart_160 (fun H locs hP hD hS => ?_)
  replace hP := k_mvP (kw_s13.trans (congrArg _ eσ8.symm)) hP
  replace hD := k_mvD (kw_s13.trans (congrArg _ eσ8.symm)) hD
  refine lv_iconst (v := 1) hx hb d_F_addPart_161 (by decide) ?_
  cases h
  exact k_zret (Or.inr rfl) hx hb hr hlk hP hS d_F_addPart_162
def M_F_addPart_114 (σ : kS) (x1 x2 x3 x4 x5 x6 y0 : Int32) : Option (Int32 × kS) := M_F_addPart_115 σ x1 x2 x3 x4 x5 x6 0 y0
set_option maxHeartbeats 4000000 in
set_option maxRecDepth 100000 in
theorem B_F_addPart_114 {p : Program} {l : Launch} {e : Env} {s : State} {m : MethodId} {args : Array Value} {below : List Frame} {meth : Method} {c : Code} {D : va_G} {a : Nat → Nat} {c9 : Nat → ClassId} {A : Nat → Prop} {r9 : Int32} {σo : kS} (C0 : k_Cx D c9 p s m args meth c R_F c_F_addPart 7 (some .boolean) A) (σ : kS) (x1 x2 x3 x4 x5 x6 y0 : Int32) (H : Heap) (locs : List Loc) (ls : Array Slot) (hP : va_P D kcl (kw a c9 σ) H) (hD : va_D A (kw a c9 σ)) (hS : va_S A s.heap H locs) (hl : lv_has ls 7 [(0, .ref (a 1)), (1, .int x1), (2, .int x2), (3, .int x3), (4, .int x4), (5, .int x5), (6, .int x6)]) (h : M_F_addPart_114 σ x1 x2 x3 x4 x5 x6 y0 = some (r9, σo)) : W p l e rm_F_addPart s m args below meth c H locs 0 0 (MQ below (k_Qi D a c9 r9 σo A) args s 0 0 A) (F0 m 114 ls [.int y0, .ref (a 12)]) := by
  obtain ⟨hx, hb, hml, hown, hts, hr, hlk, hK, hN, hA⟩ := id C0
  unfold M_F_addPart_114 at h
  refine lv_iconst (v := 0) hx hb d_F_addPart_114 (by decide) ?_
  exact B_F_addPart_115 C0 _ _ _ _ _ _ _ _ _ H locs ls hP hD hS (lv_sub hl [0, 1, 2, 3, 4, 5, 6] rfl) h
def M_F_addPart_32_b (self9 : kS → Int32 → Int32 → Int32 → Int32 → Int32 → Int32 → Option (Int32 × kS)) (σ : kS) (x1 x2 x3 x4 x5 x6 : Int32) : Option (Int32 × kS) := if x6 ≤ x5 then (k_st σ 10 2880 ((x4 + x5)) (x2) fun σ2 => k_st σ2 9 240 (x1) ((x3 + 1)) fun σ3 => k_ld (σ3.2.1 5) 240 (x1) fun v4 => if v4 = 0 then (M_F_addPart_114 σ3 x1 x2 x3 x4 x5 x6 x1) else (k_ld (σ3.2.1 5) 240 (x2) fun v6 => if v6 = 0 then (M_F_addPart_114 σ3 x1 x2 x3 x4 x5 x6 x1) else (M_F_addPart_115 σ3 x1 x2 x3 x4 x5 x6 1 x1))) else (k_ld (σ.2.1 10) 2880 (((x4 + x6) - 1)) fun v8 => k_st σ 10 2880 ((x4 + x6)) (v8) fun σ9 => k_let (x6 + (-1)) fun v10 => self9 σ9 x1 x2 x3 x4 x5 v10)
def M_F_addPart_32 : Nat → kS → Int32 → Int32 → Int32 → Int32 → Int32 → Int32 → Option (Int32 × kS)
  | 0 => fun _ _ _ _ _ _ _ => none
  | n + 1 => M_F_addPart_32_b (M_F_addPart_32 n)
set_option maxHeartbeats 4000000 in
set_option maxRecDepth 100000 in
theorem B_F_addPart_32 {p : Program} {l : Launch} {e : Env} {s : State} {m : MethodId} {args : Array Value} {below : List Frame} {meth : Method} {c : Code} {D : va_G} {a : Nat → Nat} {c9 : Nat → ClassId} {A : Nat → Prop} {r9 : Int32} {σo : kS} (C0 : k_Cx D c9 p s m args meth c R_F c_F_addPart 7 (some .boolean) A) : ∀ (n : Nat) (σ : kS) (x1 x2 x3 x4 x5 x6 : Int32) (H : Heap) (locs : List Loc) (ls : Array Slot), va_P D kcl (kw a c9 σ) H → va_D A (kw a c9 σ) → va_S A s.heap H locs → lv_has ls 7 [(0, .ref (a 1)), (1, .int x1), (2, .int x2), (3, .int x3), (4, .int x4), (5, .int x5), (6, .int x6)] → M_F_addPart_32 n σ x1 x2 x3 x4 x5 x6 = some (r9, σo) → W p l e rm_F_addPart s m args below meth c H locs 0 0 (MQ below (k_Qi D a c9 r9 σo A) args s 0 0 A) (F0 m 32 ls []) := by
  obtain ⟨hx, hb, hml, hown, hts, hr, hlk, hK, hN, hA⟩ := id C0
  intro n
  induction n with
  | zero =>
    intro σ x1 x2 x3 x4 x5 x6 H locs ls hP hD hS hl h
    replace h : (none : Option (Int32 × kS)) = some (r9, σo) := h
    cases h
  | succ n ih =>
    intro σ x1 x2 x3 x4 x5 x6 H locs ls hP hD hS hl h
    replace h : M_F_addPart_32_b (M_F_addPart_32 n) σ x1 x2 x3 x4 x5 x6 = some (r9, σo) := h
    unfold M_F_addPart_32_b at h
    refine lv_iload hx hb d_F_addPart_32 (lv_at hl 6 rfl) ?_
    refine lv_iload hx hb d_F_addPart_34 (lv_at hl 5 rfl) ?_
    refine lv_icmp_le (tgt := 67) hx hb d_F_addPart_36 (by decide) (fun cn1 => ?_) (fun cn1 => ?_)
    · replace h := (if_pos cn1).symm.trans h
      refine lv_aload_n hx hb d_F_addPart_67 rfl (lv_at hl 0 rfl) ?_
      refine va_get (ci := 2) (C := R_F) (T := T_F) (N := 13) hx hb hts in_F hown hK hP 1 kw_1 rfl 9 (by decide) (hts _ q_42) (fun _ h9 => h9) rfl d_F_addPart_68 ?_
      refine lv_iload hx hb d_F_addPart_71 (lv_at hl 4 rfl) ?_
      refine lv_iload hx hb d_F_addPart_73 (lv_at hl 5 rfl) ?_
      refine lv_iadd hx hb d_F_addPart_75 ?_
      refine lv_iload_n hx hb d_F_addPart_76 rfl (lv_at hl 2 rfl) ?_
      obtain ⟨σ2, eσ2, hiσ2, h⟩ := k_st_e h
      refine va_iast hx hb hK hP hD hS 17 0 kw_17 rfl hiσ2 d_F_addPart_77 (fun H locs hP hD hS => ?_)
      replace hP := k_mvP (kw_s17.trans (congrArg _ eσ2.symm)) hP
      replace hD := k_mvD (kw_s17.trans (congrArg _ eσ2.symm)) hD
      refine lv_aload_n hx hb d_F_addPart_78 rfl (lv_at hl 0 rfl) ?_
      refine va_get (ci := 2) (C := R_F) (T := T_F) (N := 13) hx hb hts in_F hown hK hP 1 kw_1 rfl 8 (by decide) (hts _ q_41) (fun _ h9 => h9) rfl d_F_addPart_79 ?_
      refine lv_iload_n hx hb d_F_addPart_82 rfl (lv_at hl 1 rfl) ?_
      refine lv_iload_n hx hb d_F_addPart_83 rfl (lv_at hl 3 rfl) ?_
      refine lv_iconst (v := 1) hx hb d_F_addPart_84 (by decide) ?_
      refine lv_iadd hx hb d_F_addPart_85 ?_
      obtain ⟨σ3, eσ3, hiσ3, h⟩ := k_st_e h
      refine va_iast hx hb hK hP hD hS 16 0 kw_16 rfl hiσ3 d_F_addPart_86 (fun H locs hP hD hS => ?_)
      replace hP := k_mvP (kw_s16.trans (congrArg _ eσ3.symm)) hP
      replace hD := k_mvD (kw_s16.trans (congrArg _ eσ3.symm)) hD
      refine lv_aload_n hx hb d_F_addPart_87 rfl (lv_at hl 0 rfl) ?_
      refine va_get (ci := 2) (C := R_F) (T := T_F) (N := 13) hx hb hts in_F hown hK hP 1 kw_1 rfl 4 (by decide) (hts _ q_37) (fun _ h9 => h9) rfl d_F_addPart_88 ?_
      refine lv_iload_n hx hb d_F_addPart_91 rfl (lv_at hl 1 rfl) ?_
      refine lv_aload_n hx hb d_F_addPart_92 rfl (lv_at hl 0 rfl) ?_
      refine va_get (ci := 2) (C := R_F) (T := T_F) (N := 13) hx hb hts in_F hown hK hP 1 kw_1 rfl 4 (by decide) (hts _ q_37) (fun _ h9 => h9) rfl d_F_addPart_93 ?_
      refine lv_iload_n hx hb d_F_addPart_96 rfl (lv_at hl 1 rfl) ?_
      obtain ⟨v4, ev4, hv4, h⟩ := k_ld_e h
      refine va_zald hx hb hK hP 12 1 kw_12 rfl hv4 d_F_addPart_97 (k_top ev4 ?_)
      refine lv_if_eq (tgt := 114) hx hb d_F_addPart_98 (by decide) (fun cn5 => ?_) (fun cn5 => ?_)
      · replace h := (if_pos cn5).symm.trans h
        exact B_F_addPart_114 C0 _ _ _ _ _ _ _ _ H locs ls hP hD hS (lv_sub hl [0, 1, 2, 3, 4, 5, 6] rfl) h
      · replace h := (if_neg cn5).symm.trans h
        refine lv_aload_n hx hb d_F_addPart_101 rfl (lv_at hl 0 rfl) ?_
        refine va_get (ci := 2) (C := R_F) (T := T_F) (N := 13) hx hb hts in_F hown hK hP 1 kw_1 rfl 4 (by decide) (hts _ q_37) (fun _ h9 => h9) rfl d_F_addPart_102 ?_
        refine lv_iload_n hx hb d_F_addPart_105 rfl (lv_at hl 2 rfl) ?_
        obtain ⟨v6, ev6, hv6, h⟩ := k_ld_e h
        refine va_zald hx hb hK hP 12 1 kw_12 rfl hv6 d_F_addPart_106 (k_top ev6 ?_)
        refine lv_if_eq (tgt := 114) hx hb d_F_addPart_107 (by decide) (fun cn7 => ?_) (fun cn7 => ?_)
        · replace h := (if_pos cn7).symm.trans h
          exact B_F_addPart_114 C0 _ _ _ _ _ _ _ _ H locs ls hP hD hS (lv_sub hl [0, 1, 2, 3, 4, 5, 6] rfl) h
        · replace h := (if_neg cn7).symm.trans h
          refine lv_iconst (v := 1) hx hb d_F_addPart_110 (by decide) ?_
          refine lv_goto (tgt := 115) hx hb d_F_addPart_111 (by decide) ?_
          exact B_F_addPart_115 C0 _ _ _ _ _ _ _ _ _ H locs ls hP hD hS (lv_sub hl [0, 1, 2, 3, 4, 5, 6] rfl) h
    · replace h := (if_neg cn1).symm.trans h
      refine lv_aload_n hx hb d_F_addPart_39 rfl (lv_at hl 0 rfl) ?_
      refine va_get (ci := 2) (C := R_F) (T := T_F) (N := 13) hx hb hts in_F hown hK hP 1 kw_1 rfl 9 (by decide) (hts _ q_42) (fun _ h9 => h9) rfl d_F_addPart_40 ?_
      refine lv_iload hx hb d_F_addPart_43 (lv_at hl 4 rfl) ?_
      refine lv_iload hx hb d_F_addPart_45 (lv_at hl 6 rfl) ?_
      refine lv_iadd hx hb d_F_addPart_47 ?_
      refine lv_aload_n hx hb d_F_addPart_48 rfl (lv_at hl 0 rfl) ?_
      refine va_get (ci := 2) (C := R_F) (T := T_F) (N := 13) hx hb hts in_F hown hK hP 1 kw_1 rfl 9 (by decide) (hts _ q_42) (fun _ h9 => h9) rfl d_F_addPart_49 ?_
      refine lv_iload hx hb d_F_addPart_52 (lv_at hl 4 rfl) ?_
      refine lv_iload hx hb d_F_addPart_54 (lv_at hl 6 rfl) ?_
      refine lv_iadd hx hb d_F_addPart_56 ?_
      refine lv_iconst (v := 1) hx hb d_F_addPart_57 (by decide) ?_
      refine lv_isub hx hb d_F_addPart_58 ?_
      obtain ⟨v8, ev8, hv8, h⟩ := k_ld_e h
      refine va_iald hx hb hK hP 17 0 kw_17 rfl hv8 d_F_addPart_59 (k_top ev8 ?_)
      obtain ⟨σ9, eσ9, hiσ9, h⟩ := k_st_e h
      refine va_iast hx hb hK hP hD hS 17 0 kw_17 rfl hiσ9 d_F_addPart_60 (fun H locs hP hD hS => ?_)
      replace hP := k_mvP (kw_s17.trans (congrArg _ eσ9.symm)) hP
      replace hD := k_mvD (kw_s17.trans (congrArg _ eσ9.symm)) hD
      obtain ⟨v10, ev10, h⟩ := k_let_e h
      refine lv_iinc (v := v10) (lv' := [(6, .int v10), (0, .ref (a 1)), (1, .int x1), (2, .int x2), (3, .int x3), (4, .int x4), (5, .int x5)]) hx hb d_F_addPart_61 hl (k := 6) rfl (by rw [ev10]; rfl) (by decide) rfl (fun ls hl => ?_)
      refine lv_goto (tgt := 32) hx hb d_F_addPart_64 (by decide) ?_
      exact ih _ _ _ _ _ _ _ H locs ls hP hD hS (lv_sub hl [1, 2, 3, 4, 5, 6, 0] rfl) h
def M_F_addPart (σ : kS) (x1 x2 : Int32) : Option (Int32 × kS) := k_ld (σ.2.1 9) 240 (x1) fun v1 => if v1 < 12 then (k_let ((x1 * 12)) fun v3 => k_call (M_F_placeFor σ x1 x2) fun v4 σ5 => M_F_addPart_32 k_fu σ5 x1 x2 v1 v3 v4 v1) else (some (0, σ))
set_option maxHeartbeats 4000000 in
set_option maxRecDepth 100000 in
theorem B_F_addPart_0 {p : Program} {l : Launch} {e : Env} {s : State} {m : MethodId} {args : Array Value} {below : List Frame} {meth : Method} {c : Code} {D : va_G} {a : Nat → Nat} {c9 : Nat → ClassId} {A : Nat → Prop} {r9 : Int32} {σo : kS} (C0 : k_Cx D c9 p s m args meth c R_F c_F_addPart 7 (some .boolean) A) (σ : kS) (x1 x2 : Int32) (H : Heap) (locs : List Loc) (ls : Array Slot) (hP : va_P D kcl (kw a c9 σ) H) (hD : va_D A (kw a c9 σ)) (hS : va_S A s.heap H locs) (hl : lv_has ls 7 [(0, .ref (a 1)), (1, .int x1), (2, .int x2)]) (h : M_F_addPart σ x1 x2 = some (r9, σo)) : W p l e rm_F_addPart s m args below meth c H locs 0 0 (MQ below (k_Qi D a c9 r9 σo A) args s 0 0 A) (F0 m 0 ls []) := by
  obtain ⟨hx, hb, hml, hown, hts, hr, hlk, hK, hN, hA⟩ := id C0
  unfold M_F_addPart at h
  refine lv_aload_n hx hb d_F_addPart_0 rfl (lv_at hl 0 rfl) ?_
  refine va_get (ci := 2) (C := R_F) (T := T_F) (N := 13) hx hb hts in_F hown hK hP 1 kw_1 rfl 8 (by decide) (hts _ q_41) (fun _ h9 => h9) rfl d_F_addPart_1 ?_
  refine lv_iload_n hx hb d_F_addPart_4 rfl (lv_at hl 1 rfl) ?_
  obtain ⟨v1, ev1, hv1, h⟩ := k_ld_e h
  refine va_iald hx hb hK hP 16 0 kw_16 rfl hv1 d_F_addPart_5 (k_top ev1 ?_)
  refine lv_istore_n (lv' := [(3, .int v1), (0, .ref (a 1)), (1, .int x1), (2, .int x2)]) hx hb d_F_addPart_6 rfl hl (by decide) rfl (fun ls hl => ?_)
  refine lv_iload_n hx hb d_F_addPart_7 rfl (lv_at hl 0 rfl) ?_
  refine lv_bipush (v := 12) hx hb d_F_addPart_8 (by decide) ?_
  refine lv_icmp_lt (tgt := 15) hx hb d_F_addPart_10 (by decide) (fun cn2 => ?_) (fun cn2 => ?_)
  · replace h := (if_pos cn2).symm.trans h
    refine lv_iload_n hx hb d_F_addPart_15 rfl (lv_at hl 2 rfl) ?_
    refine lv_bipush (v := 12) hx hb d_F_addPart_16 (by decide) ?_
    refine lv_imul hx hb d_F_addPart_18 ?_
    obtain ⟨v3, ev3, h⟩ := k_let_e h
    refine k_top ev3 ?_
    refine lv_istore (lv' := [(4, .int v3), (3, .int v1), (0, .ref (a 1)), (1, .int x1), (2, .int x2)]) hx hb d_F_addPart_19 hl (by decide) rfl (fun ls hl => ?_)
    refine lv_aload_n hx hb d_F_addPart_21 rfl (lv_at hl 2 rfl) ?_
    refine lv_iload_n hx hb d_F_addPart_22 rfl (lv_at hl 3 rfl) ?_
    refine lv_iload_n hx hb d_F_addPart_23 rfl (lv_at hl 4 rfl) ?_
    obtain ⟨v4, σ5, hc6, h⟩ := k_call_e h
    refine k_calli (va_runV (As := [.int x1, .int x2]) (rest := []) ⟨hx, hb, hml, hown, hts⟩ (K_F_placeFor l D a c9 H.size hc6) (cwV 2 hts (k_gV q_377 q_379 s_3 q_2 q_380) rfl rfl rfl h_F_placeFor ⟨Nat.le_of_ble_eq_true rfl, Nat.le_of_ble_eq_true rfl⟩) (k_preV (ci := 2) (q0 := 1) rfl kw_1 hP hK hN hD) rfl rfl hl.1 rfl (lv_room (Nat.le_of_ble_eq_true rfl)) d_F_addPart_24 ⟨Nat.zero_le _, Nat.zero_le _⟩) hD hS hA (fun H locs hP hD hS => ?_)
    refine lv_istore (lv' := [(5, .int v4), (4, .int v3), (3, .int v1), (0, .ref (a 1)), (1, .int x1), (2, .int x2)]) hx hb d_F_addPart_27 hl (by decide) rfl (fun ls hl => ?_)
    refine lv_iload_n hx hb d_F_addPart_29 rfl (lv_at hl 2 rfl) ?_
    refine lv_istore (lv' := [(6, .int v1), (5, .int v4), (4, .int v3), (3, .int v1), (0, .ref (a 1)), (1, .int x1), (2, .int x2)]) hx hb d_F_addPart_30 hl (by decide) rfl (fun ls hl => ?_)
    exact B_F_addPart_32 C0 k_fu _ _ _ _ _ _ _ H locs ls hP hD hS (lv_sub hl [4, 5, 6, 3, 2, 1, 0] rfl) h
  · replace h := (if_neg cn2).symm.trans h
    refine lv_iconst (v := 0) hx hb d_F_addPart_13 (by decide) ?_
    cases h
    exact k_zret (Or.inl rfl) hx hb hr hlk hP hS d_F_addPart_14
theorem K_F_addPart (l : Launch) (D : va_G) (a : Nat → Nat) (c9 : Nat → ClassId) (sz : Nat) {σ : kS} {x1 x2 : Int32} {r9 : Int32} {σo : kS} (h : M_F_addPart σ x1 x2 = some (r9, σo)) : Met l y_F_addPart (Cond.code y_F_addPart c_F_addPart 7 (some .boolean) :: kG) rm_F_addPart (k_Pc D a c9 sz σ [.ref (a 1), .int x1, .int x2]) (k_Qi D a c9 r9 σo (k_A a c9 σ sz)) 0 0 (k_A a c9 σ sz) :=
  k_met (Qf := k_Qi D a c9 r9 σo) (by decide) (Nat.le_of_ble_eq_true rfl) (fun p e s m args below meth c A ls C0 hP hD hS hl => B_F_addPart_0 C0 σ x1 x2 s.heap [] ls hP hD hS hl h)
def rm_F_addTest : Room := { frames := 0, cells := 0, slots := 0, locals := 0 }
def M_F_addTest (σ : kS) (x1 x2 x3 : Int32) : Option (Int32 × kS) := k_ld (σ.2.1 11) 240 (x1) fun v1 => if v1 < 3 then (k_st σ 12 720 (((x1 * 3) + v1)) (x2) fun σ3 => k_st σ3 13 720 (((x1 * 3) + v1)) (x3) fun σ4 => k_st σ4 11 240 (x1) ((v1 + 1)) fun σ5 => some (1, σ5)) else (some (0, σ))
set_option maxHeartbeats 4000000 in
set_option maxRecDepth 100000 in
theorem B_F_addTest_0 {p : Program} {l : Launch} {e : Env} {s : State} {m : MethodId} {args : Array Value} {below : List Frame} {meth : Method} {c : Code} {D : va_G} {a : Nat → Nat} {c9 : Nat → ClassId} {A : Nat → Prop} {r9 : Int32} {σo : kS} (C0 : k_Cx D c9 p s m args meth c R_F c_F_addTest 5 (some .boolean) A) (σ : kS) (x1 x2 x3 : Int32) (H : Heap) (locs : List Loc) (ls : Array Slot) (hP : va_P D kcl (kw a c9 σ) H) (hD : va_D A (kw a c9 σ)) (hS : va_S A s.heap H locs) (hl : lv_has ls 5 [(0, .ref (a 1)), (1, .int x1), (2, .int x2), (3, .int x3)]) (h : M_F_addTest σ x1 x2 x3 = some (r9, σo)) : W p l e rm_F_addTest s m args below meth c H locs 0 0 (MQ below (k_Qi D a c9 r9 σo A) args s 0 0 A) (F0 m 0 ls []) := by
  obtain ⟨hx, hb, hml, hown, hts, hr, hlk, hK, hN, hA⟩ := id C0
  unfold M_F_addTest at h
  refine lv_aload_n hx hb d_F_addTest_0 rfl (lv_at hl 0 rfl) ?_
  refine va_get (ci := 2) (C := R_F) (T := T_F) (N := 13) hx hb hts in_F hown hK hP 1 kw_1 rfl 10 (by decide) (hts _ q_43) (fun _ h9 => h9) rfl d_F_addTest_1 ?_
  refine lv_iload_n hx hb d_F_addTest_4 rfl (lv_at hl 1 rfl) ?_
  obtain ⟨v1, ev1, hv1, h⟩ := k_ld_e h
  refine va_iald hx hb hK hP 18 0 kw_18 rfl hv1 d_F_addTest_5 (k_top ev1 ?_)
  refine lv_istore (lv' := [(4, .int v1), (0, .ref (a 1)), (1, .int x1), (2, .int x2), (3, .int x3)]) hx hb d_F_addTest_6 hl (by decide) rfl (fun ls hl => ?_)
  refine lv_iload hx hb d_F_addTest_8 (lv_at hl 0 rfl) ?_
  refine lv_iconst (v := 3) hx hb d_F_addTest_10 (by decide) ?_
  refine lv_icmp_lt (tgt := 16) hx hb d_F_addTest_11 (by decide) (fun cn2 => ?_) (fun cn2 => ?_)
  · replace h := (if_pos cn2).symm.trans h
    refine lv_aload_n hx hb d_F_addTest_16 rfl (lv_at hl 1 rfl) ?_
    refine va_get (ci := 2) (C := R_F) (T := T_F) (N := 13) hx hb hts in_F hown hK hP 1 kw_1 rfl 11 (by decide) (hts _ q_44) (fun _ h9 => h9) rfl d_F_addTest_17 ?_
    refine lv_iload_n hx hb d_F_addTest_20 rfl (lv_at hl 2 rfl) ?_
    refine lv_iconst (v := 3) hx hb d_F_addTest_21 (by decide) ?_
    refine lv_imul hx hb d_F_addTest_22 ?_
    refine lv_iload hx hb d_F_addTest_23 (lv_at hl 0 rfl) ?_
    refine lv_iadd hx hb d_F_addTest_25 ?_
    refine lv_iload_n hx hb d_F_addTest_26 rfl (lv_at hl 3 rfl) ?_
    obtain ⟨σ3, eσ3, hiσ3, h⟩ := k_st_e h
    refine va_iast hx hb hK hP hD hS 19 0 kw_19 rfl hiσ3 d_F_addTest_27 (fun H locs hP hD hS => ?_)
    replace hP := k_mvP (kw_s19.trans (congrArg _ eσ3.symm)) hP
    replace hD := k_mvD (kw_s19.trans (congrArg _ eσ3.symm)) hD
    refine lv_aload_n hx hb d_F_addTest_28 rfl (lv_at hl 1 rfl) ?_
    refine va_get (ci := 2) (C := R_F) (T := T_F) (N := 13) hx hb hts in_F hown hK hP 1 kw_1 rfl 12 (by decide) (hts _ q_45) (fun _ h9 => h9) rfl d_F_addTest_29 ?_
    refine lv_iload_n hx hb d_F_addTest_32 rfl (lv_at hl 2 rfl) ?_
    refine lv_iconst (v := 3) hx hb d_F_addTest_33 (by decide) ?_
    refine lv_imul hx hb d_F_addTest_34 ?_
    refine lv_iload hx hb d_F_addTest_35 (lv_at hl 0 rfl) ?_
    refine lv_iadd hx hb d_F_addTest_37 ?_
    refine lv_iload_n hx hb d_F_addTest_38 rfl (lv_at hl 4 rfl) ?_
    obtain ⟨σ4, eσ4, hiσ4, h⟩ := k_st_e h
    refine va_iast hx hb hK hP hD hS 20 0 kw_20 rfl hiσ4 d_F_addTest_39 (fun H locs hP hD hS => ?_)
    replace hP := k_mvP (kw_s20.trans (congrArg _ eσ4.symm)) hP
    replace hD := k_mvD (kw_s20.trans (congrArg _ eσ4.symm)) hD
    refine lv_aload_n hx hb d_F_addTest_40 rfl (lv_at hl 1 rfl) ?_
    refine va_get (ci := 2) (C := R_F) (T := T_F) (N := 13) hx hb hts in_F hown hK hP 1 kw_1 rfl 10 (by decide) (hts _ q_43) (fun _ h9 => h9) rfl d_F_addTest_41 ?_
    refine lv_iload_n hx hb d_F_addTest_44 rfl (lv_at hl 2 rfl) ?_
    refine lv_iload hx hb d_F_addTest_45 (lv_at hl 0 rfl) ?_
    refine lv_iconst (v := 1) hx hb d_F_addTest_47 (by decide) ?_
    refine lv_iadd hx hb d_F_addTest_48 ?_
    obtain ⟨σ5, eσ5, hiσ5, h⟩ := k_st_e h
    refine va_iast hx hb hK hP hD hS 18 0 kw_18 rfl hiσ5 d_F_addTest_49 (fun H locs hP hD hS => ?_)
    replace hP := k_mvP (kw_s18.trans (congrArg _ eσ5.symm)) hP
    replace hD := k_mvD (kw_s18.trans (congrArg _ eσ5.symm)) hD
    refine lv_iconst (v := 1) hx hb d_F_addTest_50 (by decide) ?_
    cases h
    exact k_zret (Or.inr rfl) hx hb hr hlk hP hS d_F_addTest_51
  · replace h := (if_neg cn2).symm.trans h
    refine lv_iconst (v := 0) hx hb d_F_addTest_14 (by decide) ?_
    cases h
    exact k_zret (Or.inl rfl) hx hb hr hlk hP hS d_F_addTest_15
theorem K_F_addTest (l : Launch) (D : va_G) (a : Nat → Nat) (c9 : Nat → ClassId) (sz : Nat) {σ : kS} {x1 x2 x3 : Int32} {r9 : Int32} {σo : kS} (h : M_F_addTest σ x1 x2 x3 = some (r9, σo)) : Met l y_F_addTest (Cond.code y_F_addTest c_F_addTest 5 (some .boolean) :: kG) rm_F_addTest (k_Pc D a c9 sz σ [.ref (a 1), .int x1, .int x2, .int x3]) (k_Qi D a c9 r9 σo (k_A a c9 σ sz)) 0 0 (k_A a c9 σ sz) :=
  k_met (Qf := k_Qi D a c9 r9 σo) (by decide) (Nat.le_of_ble_eq_true rfl) (fun p e s m args below meth c A ls C0 hP hD hS hl => B_F_addTest_0 C0 σ x1 x2 x3 s.heap [] ls hP hD hS hl h)
def rm_F_passes : Room := { frames := 1, cells := 0, slots := 0, locals := 21 }
def M_F_passes (σ : kS) (x1 x2 x4 : Int32) : Option (Int32 × kS) := if x1 = 2 then (if x4 < x2 then (some (0, σ)) else (some (1, σ))) else (if x4 = 1 then (k_ld (σ.2.1 17) 12 (0) fun v3 => if x1 = 0 then (k_call (M_F_isLeaf σ v3) fun v5 σ6 => if v5 = 0 then (some (0, σ6)) else (k_ld (σ6.2.1 3) 240 (v3) fun v9 => if v9 ≤ x2 then (some (0, σ6)) else (some (1, σ6)))) else (if x1 = 1 then (k_call (M_F_isLeaf σ v3) fun v12 σ13 => if v12 = 0 then (some (0, σ13)) else (k_ld (σ13.2.1 3) 240 (v3) fun v16 => if x2 ≤ v16 then (some (0, σ13)) else (some (1, σ13)))) else (if x1 = 2 then (k_call (M_F_isLeaf σ v3) fun v19 σ20 => if v19 = 0 then (some (1, σ20)) else (some (0, σ20))) else (if x1 = 3 then (k_call (M_F_isNode σ v3) fun v24 σ25 => if v24 = 0 then (some (0, σ25)) else (k_ld (σ25.2.1 3) 240 (v3) fun v28 => if v28 = x2 then (some (1, σ25)) else (some (0, σ25)))) else (k_call (M_F_isLeaf σ v3) fun v30 σ31 => if v30 = 0 then (some (1, σ31)) else (some (0, σ31))))))) else (some (0, σ)))
set_option maxHeartbeats 4000000 in
set_option maxRecDepth 100000 in
theorem B_F_passes_0 {p : Program} {l : Launch} {e : Env} {s : State} {m : MethodId} {args : Array Value} {below : List Frame} {meth : Method} {c : Code} {D : va_G} {a : Nat → Nat} {c9 : Nat → ClassId} {A : Nat → Prop} {r9 : Int32} {σo : kS} (C0 : k_Cx D c9 p s m args meth c R_F c_F_passes 6 (some .boolean) A) (σ : kS) (x1 x2 x4 : Int32) (H : Heap) (locs : List Loc) (ls : Array Slot) (hP : va_P D kcl (kw a c9 σ) H) (hD : va_D A (kw a c9 σ)) (hS : va_S A s.heap H locs) (hl : lv_has ls 6 [(0, .ref (a 1)), (1, .int x1), (2, .int x2), (3, .ref (a 24)), (4, .int x4)]) (h : M_F_passes σ x1 x2 x4 = some (r9, σo)) : W p l e rm_F_passes s m args below meth c H locs 0 0 (MQ below (k_Qi D a c9 r9 σo A) args s 0 0 A) (F0 m 0 ls []) := by
  obtain ⟨hx, hb, hml, hown, hts, hr, hlk, hK, hN, hA⟩ := id C0
  unfold M_F_passes at h
  refine lv_iload_n hx hb d_F_passes_0 rfl (lv_at hl 1 rfl) ?_
  refine lv_iconst (v := 2) hx hb d_F_passes_1 (by decide) ?_
  refine lv_icmp_ne (tgt := 17) hx hb d_F_passes_2 (by decide) (fun cn1 => ?_) (fun cn1 => ?_)
  · replace h := (if_neg cn1).symm.trans h
    refine lv_iload hx hb d_F_passes_17 (lv_at hl 4 rfl) ?_
    refine lv_iconst (v := 1) hx hb d_F_passes_19 (by decide) ?_
    refine lv_icmp_eq (tgt := 25) hx hb d_F_passes_20 (by decide) (fun cn2 => ?_) (fun cn2 => ?_)
    · replace h := (if_pos cn2).symm.trans h
      refine lv_aload_n hx hb d_F_passes_25 rfl (lv_at hl 3 rfl) ?_
      refine lv_iconst (v := 0) hx hb d_F_passes_26 (by decide) ?_
      obtain ⟨v3, ev3, hv3, h⟩ := k_ld_e h
      refine va_iald hx hb hK hP 24 0 kw_24 rfl hv3 d_F_passes_27 (k_top ev3 ?_)
      refine lv_istore (lv' := [(5, .int v3), (0, .ref (a 1)), (1, .int x1), (2, .int x2), (3, .ref (a 24)), (4, .int x4)]) hx hb d_F_passes_28 hl (by decide) rfl (fun ls hl => ?_)
      refine lv_iload_n hx hb d_F_passes_30 rfl (lv_at hl 2 rfl) ?_
      by_cases cn4 : x1 = 0
      · replace h := (if_pos cn4).symm.trans h
        refine lv_tableIn (off := 29) (tgt := 60) hx hb d_F_passes_31 (by rw [cn4]; decide) (by rw [cn4]; decide) (by rw [cn4]; rfl) (by decide) ?_
        refine lv_aload_n hx hb d_F_passes_60 rfl (lv_at hl 1 rfl) ?_
        refine lv_iload hx hb d_F_passes_61 (lv_at hl 0 rfl) ?_
        obtain ⟨v5, σ6, hc7, h⟩ := k_call_e h
        refine k_calli (va_runV (As := [.int v3]) (rest := []) ⟨hx, hb, hml, hown, hts⟩ (K_F_isLeaf l D a c9 H.size hc7) (cwV 1 hts (k_gV q_555 q_544 q_545 q_2 q_546) rfl rfl rfl h_F_isLeaf ⟨Nat.le_of_ble_eq_true rfl, Nat.le_of_ble_eq_true rfl⟩) (k_preV (ci := 2) (q0 := 1) rfl kw_1 hP hK hN hD) rfl rfl hl.1 rfl (lv_room (Nat.le_of_ble_eq_true rfl)) d_F_passes_63 ⟨Nat.zero_le _, Nat.zero_le _⟩) hD hS hA (fun H locs hP hD hS => ?_)
        refine lv_if_eq (tgt := 84) hx hb d_F_passes_66 (by decide) (fun cn8 => ?_) (fun cn8 => ?_)
        · replace h := (if_pos cn8).symm.trans h
          refine lv_iconst (v := 0) hx hb d_F_passes_84 (by decide) ?_
          cases h
          exact k_zret (Or.inl rfl) hx hb hr hlk hP hS d_F_passes_85
        · replace h := (if_neg cn8).symm.trans h
          refine lv_aload_n hx hb d_F_passes_69 rfl (lv_at hl 1 rfl) ?_
          refine va_get (ci := 2) (C := R_F) (T := T_F) (N := 13) hx hb hts in_F hown hK hP 1 kw_1 rfl 2 (by decide) (hts _ q_35) (fun _ h9 => h9) rfl d_F_passes_70 ?_
          refine lv_iload hx hb d_F_passes_73 (lv_at hl 0 rfl) ?_
          obtain ⟨v9, ev9, hv9, h⟩ := k_ld_e h
          refine va_iald hx hb hK hP 10 0 kw_10 rfl hv9 d_F_passes_75 (k_top ev9 ?_)
          refine lv_iload_n hx hb d_F_passes_76 rfl (lv_at hl 3 rfl) ?_
          refine lv_icmp_le (tgt := 84) hx hb d_F_passes_77 (by decide) (fun cn10 => ?_) (fun cn10 => ?_)
          · replace h := (if_pos cn10).symm.trans h
            refine lv_iconst (v := 0) hx hb d_F_passes_84 (by decide) ?_
            cases h
            exact k_zret (Or.inl rfl) hx hb hr hlk hP hS d_F_passes_85
          · replace h := (if_neg cn10).symm.trans h
            refine lv_iconst (v := 1) hx hb d_F_passes_80 (by decide) ?_
            refine lv_goto (tgt := 85) hx hb d_F_passes_81 (by decide) ?_
            cases h
            exact k_zret (Or.inr rfl) hx hb hr hlk hP hS d_F_passes_85
      replace h := (if_neg cn4).symm.trans h
      by_cases cn11 : x1 = 1
      · replace h := (if_pos cn11).symm.trans h
        refine lv_tableIn (off := 55) (tgt := 86) hx hb d_F_passes_31 (by rw [cn11]; decide) (by rw [cn11]; decide) (by rw [cn11]; rfl) (by decide) ?_
        refine lv_aload_n hx hb d_F_passes_86 rfl (lv_at hl 1 rfl) ?_
        refine lv_iload hx hb d_F_passes_87 (lv_at hl 0 rfl) ?_
        obtain ⟨v12, σ13, hc14, h⟩ := k_call_e h
        refine k_calli (va_runV (As := [.int v3]) (rest := []) ⟨hx, hb, hml, hown, hts⟩ (K_F_isLeaf l D a c9 H.size hc14) (cwV 1 hts (k_gV q_555 q_544 q_545 q_2 q_546) rfl rfl rfl h_F_isLeaf ⟨Nat.le_of_ble_eq_true rfl, Nat.le_of_ble_eq_true rfl⟩) (k_preV (ci := 2) (q0 := 1) rfl kw_1 hP hK hN hD) rfl rfl hl.1 rfl (lv_room (Nat.le_of_ble_eq_true rfl)) d_F_passes_89 ⟨Nat.zero_le _, Nat.zero_le _⟩) hD hS hA (fun H locs hP hD hS => ?_)
        refine lv_if_eq (tgt := 110) hx hb d_F_passes_92 (by decide) (fun cn15 => ?_) (fun cn15 => ?_)
        · replace h := (if_pos cn15).symm.trans h
          refine lv_iconst (v := 0) hx hb d_F_passes_110 (by decide) ?_
          cases h
          exact k_zret (Or.inl rfl) hx hb hr hlk hP hS d_F_passes_111
        · replace h := (if_neg cn15).symm.trans h
          refine lv_aload_n hx hb d_F_passes_95 rfl (lv_at hl 1 rfl) ?_
          refine va_get (ci := 2) (C := R_F) (T := T_F) (N := 13) hx hb hts in_F hown hK hP 1 kw_1 rfl 2 (by decide) (hts _ q_35) (fun _ h9 => h9) rfl d_F_passes_96 ?_
          refine lv_iload hx hb d_F_passes_99 (lv_at hl 0 rfl) ?_
          obtain ⟨v16, ev16, hv16, h⟩ := k_ld_e h
          refine va_iald hx hb hK hP 10 0 kw_10 rfl hv16 d_F_passes_101 (k_top ev16 ?_)
          refine lv_iload_n hx hb d_F_passes_102 rfl (lv_at hl 3 rfl) ?_
          refine lv_icmp_ge (tgt := 110) hx hb d_F_passes_103 (by decide) (fun cn17 => ?_) (fun cn17 => ?_)
          · replace h := (if_pos cn17).symm.trans h
            refine lv_iconst (v := 0) hx hb d_F_passes_110 (by decide) ?_
            cases h
            exact k_zret (Or.inl rfl) hx hb hr hlk hP hS d_F_passes_111
          · replace h := (if_neg cn17).symm.trans h
            refine lv_iconst (v := 1) hx hb d_F_passes_106 (by decide) ?_
            refine lv_goto (tgt := 111) hx hb d_F_passes_107 (by decide) ?_
            cases h
            exact k_zret (Or.inr rfl) hx hb hr hlk hP hS d_F_passes_111
      replace h := (if_neg cn11).symm.trans h
      by_cases cn18 : x1 = 2
      · replace h := (if_pos cn18).symm.trans h
        refine lv_tableIn (off := 107) (tgt := 138) hx hb d_F_passes_31 (by rw [cn18]; decide) (by rw [cn18]; decide) (by rw [cn18]; rfl) (by decide) ?_
        refine lv_aload_n hx hb d_F_passes_138 rfl (lv_at hl 1 rfl) ?_
        refine lv_iload hx hb d_F_passes_139 (lv_at hl 0 rfl) ?_
        obtain ⟨v19, σ20, hc21, h⟩ := k_call_e h
        refine k_calli (va_runV (As := [.int v3]) (rest := []) ⟨hx, hb, hml, hown, hts⟩ (K_F_isLeaf l D a c9 H.size hc21) (cwV 1 hts (k_gV q_555 q_544 q_545 q_2 q_546) rfl rfl rfl h_F_isLeaf ⟨Nat.le_of_ble_eq_true rfl, Nat.le_of_ble_eq_true rfl⟩) (k_preV (ci := 2) (q0 := 1) rfl kw_1 hP hK hN hD) rfl rfl hl.1 rfl (lv_room (Nat.le_of_ble_eq_true rfl)) d_F_passes_141 ⟨Nat.zero_le _, Nat.zero_le _⟩) hD hS hA (fun H locs hP hD hS => ?_)
        refine lv_if_ne (tgt := 151) hx hb d_F_passes_144 (by decide) (fun cn22 => ?_) (fun cn22 => ?_)
        · replace h := (if_neg cn22).symm.trans h
          refine lv_iconst (v := 0) hx hb d_F_passes_151 (by decide) ?_
          cases h
          exact k_zret (Or.inl rfl) hx hb hr hlk hP hS d_F_passes_152
        · replace h := (if_pos cn22).symm.trans h
          refine lv_iconst (v := 1) hx hb d_F_passes_147 (by decide) ?_
          refine lv_goto (tgt := 152) hx hb d_F_passes_148 (by decide) ?_
          cases h
          exact k_zret (Or.inr rfl) hx hb hr hlk hP hS d_F_passes_152
      replace h := (if_neg cn18).symm.trans h
      by_cases cn23 : x1 = 3
      · replace h := (if_pos cn23).symm.trans h
        refine lv_tableIn (off := 81) (tgt := 112) hx hb d_F_passes_31 (by rw [cn23]; decide) (by rw [cn23]; decide) (by rw [cn23]; rfl) (by decide) ?_
        refine lv_aload_n hx hb d_F_passes_112 rfl (lv_at hl 1 rfl) ?_
        refine lv_iload hx hb d_F_passes_113 (lv_at hl 0 rfl) ?_
        obtain ⟨v24, σ25, hc26, h⟩ := k_call_e h
        refine k_calli (va_runV (As := [.int v3]) (rest := []) ⟨hx, hb, hml, hown, hts⟩ (K_F_isNode l D a c9 H.size hc26) (cwV 1 hts (k_gV q_556 q_557 q_558 q_2 q_559) rfl rfl rfl h_F_isNode ⟨Nat.le_of_ble_eq_true rfl, Nat.le_of_ble_eq_true rfl⟩) (k_preV (ci := 2) (q0 := 1) rfl kw_1 hP hK hN hD) rfl rfl hl.1 rfl (lv_room (Nat.le_of_ble_eq_true rfl)) d_F_passes_115 ⟨Nat.zero_le _, Nat.zero_le _⟩) hD hS hA (fun H locs hP hD hS => ?_)
        refine lv_if_eq (tgt := 136) hx hb d_F_passes_118 (by decide) (fun cn27 => ?_) (fun cn27 => ?_)
        · replace h := (if_pos cn27).symm.trans h
          refine lv_iconst (v := 0) hx hb d_F_passes_136 (by decide) ?_
          cases h
          exact k_zret (Or.inl rfl) hx hb hr hlk hP hS d_F_passes_137
        · replace h := (if_neg cn27).symm.trans h
          refine lv_aload_n hx hb d_F_passes_121 rfl (lv_at hl 1 rfl) ?_
          refine va_get (ci := 2) (C := R_F) (T := T_F) (N := 13) hx hb hts in_F hown hK hP 1 kw_1 rfl 2 (by decide) (hts _ q_35) (fun _ h9 => h9) rfl d_F_passes_122 ?_
          refine lv_iload hx hb d_F_passes_125 (lv_at hl 0 rfl) ?_
          obtain ⟨v28, ev28, hv28, h⟩ := k_ld_e h
          refine va_iald hx hb hK hP 10 0 kw_10 rfl hv28 d_F_passes_127 (k_top ev28 ?_)
          refine lv_iload_n hx hb d_F_passes_128 rfl (lv_at hl 3 rfl) ?_
          refine lv_icmp_ne (tgt := 136) hx hb d_F_passes_129 (by decide) (fun cn29 => ?_) (fun cn29 => ?_)
          · replace h := (if_neg cn29).symm.trans h
            refine lv_iconst (v := 0) hx hb d_F_passes_136 (by decide) ?_
            cases h
            exact k_zret (Or.inl rfl) hx hb hr hlk hP hS d_F_passes_137
          · replace h := (if_pos cn29).symm.trans h
            refine lv_iconst (v := 1) hx hb d_F_passes_132 (by decide) ?_
            refine lv_goto (tgt := 137) hx hb d_F_passes_133 (by decide) ?_
            cases h
            exact k_zret (Or.inr rfl) hx hb hr hlk hP hS d_F_passes_137
      replace h := (if_neg cn23).symm.trans h
      refine lv_tableOut (tgt := 138) hx hb d_F_passes_31 (by have := lv_neT cn4 (k := 0) (a := 0) (by decide); have := lv_neT cn11 (k := 1) (a := 1) (by decide); have := lv_neT cn18 (k := 2) (a := 2) (by decide); have := lv_neT cn23 (k := 3) (a := 3) (by decide); omega) (by decide) ?_
      refine lv_aload_n hx hb d_F_passes_138 rfl (lv_at hl 1 rfl) ?_
      refine lv_iload hx hb d_F_passes_139 (lv_at hl 0 rfl) ?_
      obtain ⟨v30, σ31, hc32, h⟩ := k_call_e h
      refine k_calli (va_runV (As := [.int v3]) (rest := []) ⟨hx, hb, hml, hown, hts⟩ (K_F_isLeaf l D a c9 H.size hc32) (cwV 1 hts (k_gV q_555 q_544 q_545 q_2 q_546) rfl rfl rfl h_F_isLeaf ⟨Nat.le_of_ble_eq_true rfl, Nat.le_of_ble_eq_true rfl⟩) (k_preV (ci := 2) (q0 := 1) rfl kw_1 hP hK hN hD) rfl rfl hl.1 rfl (lv_room (Nat.le_of_ble_eq_true rfl)) d_F_passes_141 ⟨Nat.zero_le _, Nat.zero_le _⟩) hD hS hA (fun H locs hP hD hS => ?_)
      refine lv_if_ne (tgt := 151) hx hb d_F_passes_144 (by decide) (fun cn33 => ?_) (fun cn33 => ?_)
      · replace h := (if_neg cn33).symm.trans h
        refine lv_iconst (v := 0) hx hb d_F_passes_151 (by decide) ?_
        cases h
        exact k_zret (Or.inl rfl) hx hb hr hlk hP hS d_F_passes_152
      · replace h := (if_pos cn33).symm.trans h
        refine lv_iconst (v := 1) hx hb d_F_passes_147 (by decide) ?_
        refine lv_goto (tgt := 152) hx hb d_F_passes_148 (by decide) ?_
        cases h
        exact k_zret (Or.inr rfl) hx hb hr hlk hP hS d_F_passes_152
    · replace h := (if_neg cn2).symm.trans h
      refine lv_iconst (v := 0) hx hb d_F_passes_23 (by decide) ?_
      cases h
      exact k_zret (Or.inl rfl) hx hb hr hlk hP hS d_F_passes_24
  · replace h := (if_pos cn1).symm.trans h
    refine lv_iload hx hb d_F_passes_5 (lv_at hl 4 rfl) ?_
    refine lv_iload_n hx hb d_F_passes_7 rfl (lv_at hl 2 rfl) ?_
    refine lv_icmp_lt (tgt := 15) hx hb d_F_passes_8 (by decide) (fun cn34 => ?_) (fun cn34 => ?_)
    · replace h := (if_pos cn34).symm.trans h
      refine lv_iconst (v := 0) hx hb d_F_passes_15 (by decide) ?_
      cases h
      exact k_zret (Or.inl rfl) hx hb hr hlk hP hS d_F_passes_16
    · replace h := (if_neg cn34).symm.trans h
      refine lv_iconst (v := 1) hx hb d_F_passes_11 (by decide) ?_
      refine lv_goto (tgt := 16) hx hb d_F_passes_12 (by decide) ?_
      cases h
      exact k_zret (Or.inr rfl) hx hb hr hlk hP hS d_F_passes_16
theorem K_F_passes (l : Launch) (D : va_G) (a : Nat → Nat) (c9 : Nat → ClassId) (sz : Nat) {σ : kS} {x1 x2 x4 : Int32} {r9 : Int32} {σo : kS} (h : M_F_passes σ x1 x2 x4 = some (r9, σo)) : Met l y_F_passes (Cond.code y_F_passes c_F_passes 6 (some .boolean) :: kG) rm_F_passes (k_Pc D a c9 sz σ [.ref (a 1), .int x1, .int x2, .ref (a 24), .int x4]) (k_Qi D a c9 r9 σo (k_A a c9 σ sz)) 0 0 (k_A a c9 σ sz) :=
  k_met (Qf := k_Qi D a c9 r9 σo) (by decide) (Nat.le_of_ble_eq_true rfl) (fun p e s m args below meth c A ls C0 hP hD hS hl => B_F_passes_0 C0 σ x1 x2 x4 s.heap [] ls hP hD hS hl h)
def rm_F_passesTests : Room := { frames := 2, cells := 0, slots := 0, locals := 46 }
def M_F_passesTests_3_b (self9 : kS → Int32 → Int32 → Int32 → Option (Int32 × kS)) (σ : kS) (x1 x3 x4 : Int32) : Option (Int32 × kS) := k_ld (σ.2.1 11) 240 (x1) fun v1 => if v1 ≤ x4 then (some (1, σ)) else (k_let (((x1 * 3) + x4)) fun v3 => k_ld (σ.2.1 12) 720 (v3) fun v4 => k_ld (σ.2.1 13) 720 (v3) fun v5 => k_call (M_F_passes σ v4 v5 x3) fun v6 σ7 => if v6 = 0 then (some (0, σ7)) else (k_let (x4 + 1) fun v10 => self9 σ7 x1 x3 v10))
def M_F_passesTests_3 : Nat → kS → Int32 → Int32 → Int32 → Option (Int32 × kS)
  | 0 => fun _ _ _ _ => none
  | n + 1 => M_F_passesTests_3_b (M_F_passesTests_3 n)
set_option maxHeartbeats 4000000 in
set_option maxRecDepth 100000 in
theorem B_F_passesTests_3 {p : Program} {l : Launch} {e : Env} {s : State} {m : MethodId} {args : Array Value} {below : List Frame} {meth : Method} {c : Code} {D : va_G} {a : Nat → Nat} {c9 : Nat → ClassId} {A : Nat → Prop} {r9 : Int32} {σo : kS} (C0 : k_Cx D c9 p s m args meth c R_F c_F_passesTests 6 (some .boolean) A) : ∀ (n : Nat) (σ : kS) (x1 x3 x4 : Int32) (H : Heap) (locs : List Loc) (ls : Array Slot), va_P D kcl (kw a c9 σ) H → va_D A (kw a c9 σ) → va_S A s.heap H locs → lv_has ls 6 [(0, .ref (a 1)), (1, .int x1), (2, .ref (a 24)), (3, .int x3), (4, .int x4)] → M_F_passesTests_3 n σ x1 x3 x4 = some (r9, σo) → W p l e rm_F_passesTests s m args below meth c H locs 0 0 (MQ below (k_Qi D a c9 r9 σo A) args s 0 0 A) (F0 m 3 ls []) := by
  obtain ⟨hx, hb, hml, hown, hts, hr, hlk, hK, hN, hA⟩ := id C0
  intro n
  induction n with
  | zero =>
    intro σ x1 x3 x4 H locs ls hP hD hS hl h
    replace h : (none : Option (Int32 × kS)) = some (r9, σo) := h
    cases h
  | succ n ih =>
    intro σ x1 x3 x4 H locs ls hP hD hS hl h
    replace h : M_F_passesTests_3_b (M_F_passesTests_3 n) σ x1 x3 x4 = some (r9, σo) := h
    unfold M_F_passesTests_3_b at h
    refine lv_iload hx hb d_F_passesTests_3 (lv_at hl 4 rfl) ?_
    refine lv_aload_n hx hb d_F_passesTests_5 rfl (lv_at hl 0 rfl) ?_
    refine va_get (ci := 2) (C := R_F) (T := T_F) (N := 13) hx hb hts in_F hown hK hP 1 kw_1 rfl 10 (by decide) (hts _ q_43) (fun _ h9 => h9) rfl d_F_passesTests_6 ?_
    refine lv_iload_n hx hb d_F_passesTests_9 rfl (lv_at hl 1 rfl) ?_
    obtain ⟨v1, ev1, hv1, h⟩ := k_ld_e h
    refine va_iald hx hb hK hP 18 0 kw_18 rfl hv1 d_F_passesTests_10 (k_top ev1 ?_)
    refine lv_icmp_ge (tgt := 53) hx hb d_F_passesTests_11 (by decide) (fun cn2 => ?_) (fun cn2 => ?_)
    · replace h := (if_pos cn2).symm.trans h
      refine lv_iconst (v := 1) hx hb d_F_passesTests_53 (by decide) ?_
      cases h
      exact k_zret (Or.inr rfl) hx hb hr hlk hP hS d_F_passesTests_54
    · replace h := (if_neg cn2).symm.trans h
      refine lv_iload_n hx hb d_F_passesTests_14 rfl (lv_at hl 1 rfl) ?_
      refine lv_iconst (v := 3) hx hb d_F_passesTests_15 (by decide) ?_
      refine lv_imul hx hb d_F_passesTests_16 ?_
      refine lv_iload hx hb d_F_passesTests_17 (lv_at hl 4 rfl) ?_
      refine lv_iadd hx hb d_F_passesTests_19 ?_
      obtain ⟨v3, ev3, h⟩ := k_let_e h
      refine k_top ev3 ?_
      refine lv_istore (lv' := [(5, .int v3), (0, .ref (a 1)), (1, .int x1), (2, .ref (a 24)), (3, .int x3), (4, .int x4)]) hx hb d_F_passesTests_20 hl (by decide) rfl (fun ls hl => ?_)
      refine lv_aload_n hx hb d_F_passesTests_22 rfl (lv_at hl 1 rfl) ?_
      refine lv_aload_n hx hb d_F_passesTests_23 rfl (lv_at hl 1 rfl) ?_
      refine va_get (ci := 2) (C := R_F) (T := T_F) (N := 13) hx hb hts in_F hown hK hP 1 kw_1 rfl 11 (by decide) (hts _ q_44) (fun _ h9 => h9) rfl d_F_passesTests_24 ?_
      refine lv_iload hx hb d_F_passesTests_27 (lv_at hl 0 rfl) ?_
      obtain ⟨v4, ev4, hv4, h⟩ := k_ld_e h
      refine va_iald hx hb hK hP 19 0 kw_19 rfl hv4 d_F_passesTests_29 (k_top ev4 ?_)
      refine lv_aload_n hx hb d_F_passesTests_30 rfl (lv_at hl 1 rfl) ?_
      refine va_get (ci := 2) (C := R_F) (T := T_F) (N := 13) hx hb hts in_F hown hK hP 1 kw_1 rfl 12 (by decide) (hts _ q_45) (fun _ h9 => h9) rfl d_F_passesTests_31 ?_
      refine lv_iload hx hb d_F_passesTests_34 (lv_at hl 0 rfl) ?_
      obtain ⟨v5, ev5, hv5, h⟩ := k_ld_e h
      refine va_iald hx hb hK hP 20 0 kw_20 rfl hv5 d_F_passesTests_36 (k_top ev5 ?_)
      refine lv_aload_n hx hb d_F_passesTests_37 rfl (lv_at hl 3 rfl) ?_
      refine lv_iload_n hx hb d_F_passesTests_38 rfl (lv_at hl 4 rfl) ?_
      obtain ⟨v6, σ7, hc8, h⟩ := k_call_e h
      refine k_calli (va_runV (As := [.int v4, .int v5, .ref (a 24), .int x3]) (rest := []) ⟨hx, hb, hml, hown, hts⟩ (K_F_passes l D a c9 H.size hc8) (cwV 4 hts (k_gV q_551 q_553 s_12 q_2 q_554) rfl rfl rfl h_F_passes ⟨Nat.le_of_ble_eq_true rfl, Nat.le_of_ble_eq_true rfl⟩) (k_preV (ci := 2) (q0 := 1) rfl kw_1 hP hK hN hD) rfl rfl hl.1 rfl (lv_room (Nat.le_of_ble_eq_true rfl)) d_F_passesTests_39 ⟨Nat.zero_le _, Nat.zero_le _⟩) hD hS hA (fun H locs hP hD hS => ?_)
      refine lv_if_ne (tgt := 47) hx hb d_F_passesTests_42 (by decide) (fun cn9 => ?_) (fun cn9 => ?_)
      · replace h := (if_neg cn9).symm.trans h
        obtain ⟨v10, ev10, h⟩ := k_let_e h
        refine lv_iinc (v := v10) (lv' := [(4, .int v10), (5, .int v3), (0, .ref (a 1)), (1, .int x1), (2, .ref (a 24)), (3, .int x3)]) hx hb d_F_passesTests_47 hl (k := 5) rfl (by rw [ev10]; rfl) (by decide) rfl (fun ls hl => ?_)
        refine lv_goto (tgt := 3) hx hb d_F_passesTests_50 (by decide) ?_
        exact ih _ _ _ _ H locs ls hP hD hS (lv_sub hl [2, 3, 4, 5, 0] rfl) h
      · replace h := (if_pos cn9).symm.trans h
        refine lv_iconst (v := 0) hx hb d_F_passesTests_45 (by decide) ?_
        cases h
        exact k_zret (Or.inl rfl) hx hb hr hlk hP hS d_F_passesTests_46
def M_F_passesTests (σ : kS) (x1 x3 : Int32) : Option (Int32 × kS) := M_F_passesTests_3 k_fu σ x1 x3 0
set_option maxHeartbeats 4000000 in
set_option maxRecDepth 100000 in
theorem B_F_passesTests_0 {p : Program} {l : Launch} {e : Env} {s : State} {m : MethodId} {args : Array Value} {below : List Frame} {meth : Method} {c : Code} {D : va_G} {a : Nat → Nat} {c9 : Nat → ClassId} {A : Nat → Prop} {r9 : Int32} {σo : kS} (C0 : k_Cx D c9 p s m args meth c R_F c_F_passesTests 6 (some .boolean) A) (σ : kS) (x1 x3 : Int32) (H : Heap) (locs : List Loc) (ls : Array Slot) (hP : va_P D kcl (kw a c9 σ) H) (hD : va_D A (kw a c9 σ)) (hS : va_S A s.heap H locs) (hl : lv_has ls 6 [(0, .ref (a 1)), (1, .int x1), (2, .ref (a 24)), (3, .int x3)]) (h : M_F_passesTests σ x1 x3 = some (r9, σo)) : W p l e rm_F_passesTests s m args below meth c H locs 0 0 (MQ below (k_Qi D a c9 r9 σo A) args s 0 0 A) (F0 m 0 ls []) := by
  obtain ⟨hx, hb, hml, hown, hts, hr, hlk, hK, hN, hA⟩ := id C0
  unfold M_F_passesTests at h
  refine lv_iconst (v := 0) hx hb d_F_passesTests_0 (by decide) ?_
  refine lv_istore (lv' := [(4, .int 0), (0, .ref (a 1)), (1, .int x1), (2, .ref (a 24)), (3, .int x3)]) hx hb d_F_passesTests_1 hl (by decide) rfl (fun ls hl => ?_)
  exact B_F_passesTests_3 C0 k_fu _ _ _ _ H locs ls hP hD hS (lv_sub hl [1, 2, 3, 4, 0] rfl) h
theorem K_F_passesTests (l : Launch) (D : va_G) (a : Nat → Nat) (c9 : Nat → ClassId) (sz : Nat) {σ : kS} {x1 x3 : Int32} {r9 : Int32} {σo : kS} (h : M_F_passesTests σ x1 x3 = some (r9, σo)) : Met l y_F_passesTests (Cond.code y_F_passesTests c_F_passesTests 6 (some .boolean) :: kG) rm_F_passesTests (k_Pc D a c9 sz σ [.ref (a 1), .int x1, .ref (a 24), .int x3]) (k_Qi D a c9 r9 σo (k_A a c9 σ sz)) 0 0 (k_A a c9 σ sz) :=
  k_met (Qf := k_Qi D a c9 r9 σo) (by decide) (Nat.le_of_ble_eq_true rfl) (fun p e s m args below meth c A ls C0 hP hD hS hl => B_F_passesTests_0 C0 σ x1 x3 s.heap [] ls hP hD hS hl h)
def rm_F_hasFittingCount : Room := { frames := 2, cells := 0, slots := 0, locals := 43 }
def M_F_hasFittingCount_41 (rec8 : kS → Int32 → Int32 → Int32 → Int32 → Int32 → Option (Int32 × kS)) (σ : kS) (x1 x2 x3 x4 x5 x6 : Int32) : Option (Int32 × kS) := if x4 = 0 then (k_call (M_F_takesSeveral σ x6) fun v3 σ4 => if v3 = 0 then (k_let (x5 + 1) fun v7 => rec8 σ4 x1 x2 x3 0 v7) else (k_let (x5 + 1) fun v8 => rec8 σ4 x1 x2 x3 1 v8)) else (k_let (x5 + 1) fun v2 => rec8 σ x1 x2 x3 1 v2)
set_option maxHeartbeats 4000000 in
set_option maxRecDepth 100000 in
theorem B_F_hasFittingCount_41 {p : Program} {l : Launch} {e : Env} {s : State} {m : MethodId} {args : Array Value} {below : List Frame} {meth : Method} {c : Code} {D : va_G} {a : Nat → Nat} {c9 : Nat → ClassId} {A : Nat → Prop} {r9 : Int32} {σo : kS} (C0 : k_Cx D c9 p s m args meth c R_F c_F_hasFittingCount 7 (some .boolean) A) {rec8 : kS → Int32 → Int32 → Int32 → Int32 → Int32 → Option (Int32 × kS)} (hrec8 : ∀ (σ : kS) (x1 x2 x3 x4 x5 : Int32) (H : Heap) (locs : List Loc) (ls : Array Slot), va_P D kcl (kw a c9 σ) H → va_D A (kw a c9 σ) → va_S A s.heap H locs → lv_has ls 7 [(0, .ref (a 1)), (1, .int x1), (2, .int x2), (3, .int x3), (4, .int x4), (5, .int x5)] → rec8 σ x1 x2 x3 x4 x5 = some (r9, σo) → W p l e rm_F_hasFittingCount s m args below meth c H locs 0 0 (MQ below (k_Qi D a c9 r9 σo A) args s 0 0 A) (F0 m 8 ls [])) (σ : kS) (x1 x2 x3 x4 x5 x6 : Int32) (H : Heap) (locs : List Loc) (ls : Array Slot) (hP : va_P D kcl (kw a c9 σ) H) (hD : va_D A (kw a c9 σ)) (hS : va_S A s.heap H locs) (hl : lv_has ls 7 [(0, .ref (a 1)), (1, .int x1), (2, .int x2), (3, .int x3), (4, .int x4), (5, .int x5), (6, .int x6)]) (h : M_F_hasFittingCount_41 rec8 σ x1 x2 x3 x4 x5 x6 = some (r9, σo)) : W p l e rm_F_hasFittingCount s m args below meth c H locs 0 0 (MQ below (k_Qi D a c9 r9 σo A) args s 0 0 A) (F0 m 41 ls []) := by
  obtain ⟨hx, hb, hml, hown, hts, hr, hlk, hK, hN, hA⟩ := id C0
  unfold M_F_hasFittingCount_41 at h
  refine lv_iload hx hb d_F_hasFittingCount_41 (lv_at hl 4 rfl) ?_
  refine lv_if_ne (tgt := 55) hx hb d_F_hasFittingCount_43 (by decide) (fun cn1 => ?_) (fun cn1 => ?_)
  · replace h := (if_neg cn1).symm.trans h
    refine lv_iconst (v := 1) hx hb d_F_hasFittingCount_55 (by decide) ?_
    refine lv_goto (tgt := 60) hx hb d_F_hasFittingCount_56 (by decide) ?_
    refine lv_istore (lv' := [(4, .int 1), (0, .ref (a 1)), (1, .int x1), (2, .int x2), (3, .int x3), (5, .int x5), (6, .int x6)]) hx hb d_F_hasFittingCount_60 hl (by decide) rfl (fun ls hl => ?_)
    obtain ⟨v2, ev2, h⟩ := k_let_e h
    refine lv_iinc (v := v2) (lv' := [(5, .int v2), (4, .int 1), (0, .ref (a 1)), (1, .int x1), (2, .int x2), (3, .int x3), (6, .int x6)]) hx hb d_F_hasFittingCount_62 hl (k := 5) rfl (by rw [ev2]; rfl) (by decide) rfl (fun ls hl => ?_)
    refine lv_goto (tgt := 8) hx hb d_F_hasFittingCount_65 (by decide) ?_
    exact hrec8 _ _ _ _ _ _ H locs ls hP hD hS (lv_sub hl [2, 3, 4, 5, 1, 0] rfl) h
  · replace h := (if_pos cn1).symm.trans h
    refine lv_aload_n hx hb d_F_hasFittingCount_46 rfl (lv_at hl 0 rfl) ?_
    refine lv_iload hx hb d_F_hasFittingCount_47 (lv_at hl 6 rfl) ?_
    obtain ⟨v3, σ4, hc5, h⟩ := k_call_e h
    refine k_calli (va_runV (As := [.int x6]) (rest := []) ⟨hx, hb, hml, hown, hts⟩ (K_F_takesSeveral l D a c9 H.size hc5) (cwV 1 hts (k_gV q_670 q_511 q_512 q_2 q_513) rfl rfl rfl h_F_takesSeveral ⟨Nat.le_of_ble_eq_true rfl, Nat.le_of_ble_eq_true rfl⟩) (k_preV (ci := 2) (q0 := 1) rfl kw_1 hP hK hN hD) rfl rfl hl.1 rfl (lv_room (Nat.le_of_ble_eq_true rfl)) d_F_hasFittingCount_49 ⟨Nat.zero_le _, Nat.zero_le _⟩) hD hS hA (fun H locs hP hD hS => ?_)
    refine lv_if_eq (tgt := 59) hx hb d_F_hasFittingCount_52 (by decide) (fun cn6 => ?_) (fun cn6 => ?_)
    · replace h := (if_pos cn6).symm.trans h
      refine lv_iconst (v := 0) hx hb d_F_hasFittingCount_59 (by decide) ?_
      refine lv_istore (lv' := [(4, .int 0), (0, .ref (a 1)), (1, .int x1), (2, .int x2), (3, .int x3), (5, .int x5), (6, .int x6)]) hx hb d_F_hasFittingCount_60 hl (by decide) rfl (fun ls hl => ?_)
      obtain ⟨v7, ev7, h⟩ := k_let_e h
      refine lv_iinc (v := v7) (lv' := [(5, .int v7), (4, .int 0), (0, .ref (a 1)), (1, .int x1), (2, .int x2), (3, .int x3), (6, .int x6)]) hx hb d_F_hasFittingCount_62 hl (k := 5) rfl (by rw [ev7]; rfl) (by decide) rfl (fun ls hl => ?_)
      refine lv_goto (tgt := 8) hx hb d_F_hasFittingCount_65 (by decide) ?_
      exact hrec8 _ _ _ _ _ _ H locs ls hP hD hS (lv_sub hl [2, 3, 4, 5, 1, 0] rfl) h
    · replace h := (if_neg cn6).symm.trans h
      refine lv_iconst (v := 1) hx hb d_F_hasFittingCount_55 (by decide) ?_
      refine lv_goto (tgt := 60) hx hb d_F_hasFittingCount_56 (by decide) ?_
      refine lv_istore (lv' := [(4, .int 1), (0, .ref (a 1)), (1, .int x1), (2, .int x2), (3, .int x3), (5, .int x5), (6, .int x6)]) hx hb d_F_hasFittingCount_60 hl (by decide) rfl (fun ls hl => ?_)
      obtain ⟨v8, ev8, h⟩ := k_let_e h
      refine lv_iinc (v := v8) (lv' := [(5, .int v8), (4, .int 1), (0, .ref (a 1)), (1, .int x1), (2, .int x2), (3, .int x3), (6, .int x6)]) hx hb d_F_hasFittingCount_62 hl (k := 5) rfl (by rw [ev8]; rfl) (by decide) rfl (fun ls hl => ?_)
      refine lv_goto (tgt := 8) hx hb d_F_hasFittingCount_65 (by decide) ?_
      exact hrec8 _ _ _ _ _ _ H locs ls hP hD hS (lv_sub hl [2, 3, 4, 5, 1, 0] rfl) h
def M_F_hasFittingCount_8_b (self9 : kS → Int32 → Int32 → Int32 → Int32 → Int32 → Option (Int32 × kS)) (σ : kS) (x1 x2 x3 x4 x5 : Int32) : Option (Int32 × kS) := k_ld (σ.2.1 9) 240 (x1) fun v1 => if v1 ≤ x5 then (k_ld (σ.2.1 9) 240 (x2) fun v3 => if v3 < x3 then (some (0, σ)) else (if x4 = 0 then (k_ld (σ.2.1 9) 240 (x2) fun v6 => k_ld (σ.2.1 9) 240 (x1) fun v7 => if v7 < v6 then (some (0, σ)) else (some (1, σ))) else (some (1, σ)))) else (k_call (M_F_partAt σ x1 x5) fun v9 σ10 => k_call (M_F_isHoleOfKind σ10 v9 3) fun v12 σ13 => if v12 = 0 then (k_let (x3 + 1) fun v16 => M_F_hasFittingCount_41 self9 σ13 x1 x2 v16 x4 x5 v9) else (M_F_hasFittingCount_41 self9 σ13 x1 x2 x3 x4 x5 v9))
def M_F_hasFittingCount_8 : Nat → kS → Int32 → Int32 → Int32 → Int32 → Int32 → Option (Int32 × kS)
  | 0 => fun _ _ _ _ _ _ => none
  | n + 1 => M_F_hasFittingCount_8_b (M_F_hasFittingCount_8 n)
set_option maxHeartbeats 4000000 in
set_option maxRecDepth 100000 in
theorem B_F_hasFittingCount_8 {p : Program} {l : Launch} {e : Env} {s : State} {m : MethodId} {args : Array Value} {below : List Frame} {meth : Method} {c : Code} {D : va_G} {a : Nat → Nat} {c9 : Nat → ClassId} {A : Nat → Prop} {r9 : Int32} {σo : kS} (C0 : k_Cx D c9 p s m args meth c R_F c_F_hasFittingCount 7 (some .boolean) A) : ∀ (n : Nat) (σ : kS) (x1 x2 x3 x4 x5 : Int32) (H : Heap) (locs : List Loc) (ls : Array Slot), va_P D kcl (kw a c9 σ) H → va_D A (kw a c9 σ) → va_S A s.heap H locs → lv_has ls 7 [(0, .ref (a 1)), (1, .int x1), (2, .int x2), (3, .int x3), (4, .int x4), (5, .int x5)] → M_F_hasFittingCount_8 n σ x1 x2 x3 x4 x5 = some (r9, σo) → W p l e rm_F_hasFittingCount s m args below meth c H locs 0 0 (MQ below (k_Qi D a c9 r9 σo A) args s 0 0 A) (F0 m 8 ls []) := by
  obtain ⟨hx, hb, hml, hown, hts, hr, hlk, hK, hN, hA⟩ := id C0
  intro n
  induction n with
  | zero =>
    intro σ x1 x2 x3 x4 x5 H locs ls hP hD hS hl h
    replace h : (none : Option (Int32 × kS)) = some (r9, σo) := h
    cases h
  | succ n ih =>
    intro σ x1 x2 x3 x4 x5 H locs ls hP hD hS hl h
    replace h : M_F_hasFittingCount_8_b (M_F_hasFittingCount_8 n) σ x1 x2 x3 x4 x5 = some (r9, σo) := h
    unfold M_F_hasFittingCount_8_b at h
    refine lv_iload hx hb d_F_hasFittingCount_8 (lv_at hl 5 rfl) ?_
    refine lv_aload_n hx hb d_F_hasFittingCount_10 rfl (lv_at hl 0 rfl) ?_
    refine va_get (ci := 2) (C := R_F) (T := T_F) (N := 13) hx hb hts in_F hown hK hP 1 kw_1 rfl 8 (by decide) (hts _ q_41) (fun _ h9 => h9) rfl d_F_hasFittingCount_11 ?_
    refine lv_iload_n hx hb d_F_hasFittingCount_14 rfl (lv_at hl 1 rfl) ?_
    obtain ⟨v1, ev1, hv1, h⟩ := k_ld_e h
    refine va_iald hx hb hK hP 16 0 kw_16 rfl hv1 d_F_hasFittingCount_15 (k_top ev1 ?_)
    refine lv_icmp_ge (tgt := 68) hx hb d_F_hasFittingCount_16 (by decide) (fun cn2 => ?_) (fun cn2 => ?_)
    · replace h := (if_pos cn2).symm.trans h
      refine lv_aload_n hx hb d_F_hasFittingCount_68 rfl (lv_at hl 0 rfl) ?_
      refine va_get (ci := 2) (C := R_F) (T := T_F) (N := 13) hx hb hts in_F hown hK hP 1 kw_1 rfl 8 (by decide) (hts _ q_41) (fun _ h9 => h9) rfl d_F_hasFittingCount_69 ?_
      refine lv_iload_n hx hb d_F_hasFittingCount_72 rfl (lv_at hl 2 rfl) ?_
      obtain ⟨v3, ev3, hv3, h⟩ := k_ld_e h
      refine va_iald hx hb hK hP 16 0 kw_16 rfl hv3 d_F_hasFittingCount_73 (k_top ev3 ?_)
      refine lv_iload_n hx hb d_F_hasFittingCount_74 rfl (lv_at hl 3 rfl) ?_
      refine lv_icmp_lt (tgt := 102) hx hb d_F_hasFittingCount_75 (by decide) (fun cn4 => ?_) (fun cn4 => ?_)
      · replace h := (if_pos cn4).symm.trans h
        refine lv_iconst (v := 0) hx hb d_F_hasFittingCount_102 (by decide) ?_
        cases h
        exact k_zret (Or.inl rfl) hx hb hr hlk hP hS d_F_hasFittingCount_103
      · replace h := (if_neg cn4).symm.trans h
        refine lv_iload hx hb d_F_hasFittingCount_78 (lv_at hl 4 rfl) ?_
        refine lv_if_ne (tgt := 98) hx hb d_F_hasFittingCount_80 (by decide) (fun cn5 => ?_) (fun cn5 => ?_)
        · replace h := (if_neg cn5).symm.trans h
          refine lv_iconst (v := 1) hx hb d_F_hasFittingCount_98 (by decide) ?_
          refine lv_goto (tgt := 103) hx hb d_F_hasFittingCount_99 (by decide) ?_
          cases h
          exact k_zret (Or.inr rfl) hx hb hr hlk hP hS d_F_hasFittingCount_103
        · replace h := (if_pos cn5).symm.trans h
          refine lv_aload_n hx hb d_F_hasFittingCount_83 rfl (lv_at hl 0 rfl) ?_
          refine va_get (ci := 2) (C := R_F) (T := T_F) (N := 13) hx hb hts in_F hown hK hP 1 kw_1 rfl 8 (by decide) (hts _ q_41) (fun _ h9 => h9) rfl d_F_hasFittingCount_84 ?_
          refine lv_iload_n hx hb d_F_hasFittingCount_87 rfl (lv_at hl 2 rfl) ?_
          obtain ⟨v6, ev6, hv6, h⟩ := k_ld_e h
          refine va_iald hx hb hK hP 16 0 kw_16 rfl hv6 d_F_hasFittingCount_88 (k_top ev6 ?_)
          refine lv_aload_n hx hb d_F_hasFittingCount_89 rfl (lv_at hl 0 rfl) ?_
          refine va_get (ci := 2) (C := R_F) (T := T_F) (N := 13) hx hb hts in_F hown hK hP 1 kw_1 rfl 8 (by decide) (hts _ q_41) (fun _ h9 => h9) rfl d_F_hasFittingCount_90 ?_
          refine lv_iload_n hx hb d_F_hasFittingCount_93 rfl (lv_at hl 1 rfl) ?_
          obtain ⟨v7, ev7, hv7, h⟩ := k_ld_e h
          refine va_iald hx hb hK hP 16 0 kw_16 rfl hv7 d_F_hasFittingCount_94 (k_top ev7 ?_)
          refine lv_icmp_gt (tgt := 102) hx hb d_F_hasFittingCount_95 (by decide) (fun cn8 => ?_) (fun cn8 => ?_)
          · replace h := (if_pos cn8).symm.trans h
            refine lv_iconst (v := 0) hx hb d_F_hasFittingCount_102 (by decide) ?_
            cases h
            exact k_zret (Or.inl rfl) hx hb hr hlk hP hS d_F_hasFittingCount_103
          · replace h := (if_neg cn8).symm.trans h
            refine lv_iconst (v := 1) hx hb d_F_hasFittingCount_98 (by decide) ?_
            refine lv_goto (tgt := 103) hx hb d_F_hasFittingCount_99 (by decide) ?_
            cases h
            exact k_zret (Or.inr rfl) hx hb hr hlk hP hS d_F_hasFittingCount_103
    · replace h := (if_neg cn2).symm.trans h
      refine lv_aload_n hx hb d_F_hasFittingCount_19 rfl (lv_at hl 0 rfl) ?_
      refine lv_iload_n hx hb d_F_hasFittingCount_20 rfl (lv_at hl 1 rfl) ?_
      refine lv_iload hx hb d_F_hasFittingCount_21 (lv_at hl 5 rfl) ?_
      obtain ⟨v9, σ10, hc11, h⟩ := k_call_e h
      refine k_calli (va_runV (As := [.int x1, .int x5]) (rest := []) ⟨hx, hb, hml, hown, hts⟩ (K_F_partAt l D a c9 H.size hc11) (cwV 2 hts (k_gV q_385 q_386 q_387 q_2 q_388) rfl rfl rfl h_F_partAt ⟨Nat.le_of_ble_eq_true rfl, Nat.le_of_ble_eq_true rfl⟩) (k_preV (ci := 2) (q0 := 1) rfl kw_1 hP hK hN hD) rfl rfl hl.1 rfl (lv_room (Nat.le_of_ble_eq_true rfl)) d_F_hasFittingCount_23 ⟨Nat.zero_le _, Nat.zero_le _⟩) hD hS hA (fun H locs hP hD hS => ?_)
      refine lv_istore (lv' := [(6, .int v9), (0, .ref (a 1)), (1, .int x1), (2, .int x2), (3, .int x3), (4, .int x4), (5, .int x5)]) hx hb d_F_hasFittingCount_26 hl (by decide) rfl (fun ls hl => ?_)
      refine lv_aload_n hx hb d_F_hasFittingCount_28 rfl (lv_at hl 1 rfl) ?_
      refine lv_iload hx hb d_F_hasFittingCount_29 (lv_at hl 0 rfl) ?_
      refine lv_iconst (v := 3) hx hb d_F_hasFittingCount_31 (by decide) ?_
      obtain ⟨v12, σ13, hc14, h⟩ := k_call_e h
      refine k_calli (va_runV (As := [.int v9, .int 3]) (rest := []) ⟨hx, hb, hml, hown, hts⟩ (K_F_isHoleOfKind l D a c9 H.size hc14) (cwV 2 hts (k_gV q_514 q_499 q_500 q_2 q_501) rfl rfl rfl h_F_isHoleOfKind ⟨Nat.le_of_ble_eq_true rfl, Nat.le_of_ble_eq_true rfl⟩) (k_preV (ci := 2) (q0 := 1) rfl kw_1 hP hK hN hD) rfl rfl hl.1 rfl (lv_room (Nat.le_of_ble_eq_true rfl)) d_F_hasFittingCount_32 ⟨Nat.zero_le _, Nat.zero_le _⟩) hD hS hA (fun H locs hP hD hS => ?_)
      refine lv_if_ne (tgt := 41) hx hb d_F_hasFittingCount_35 (by decide) (fun cn15 => ?_) (fun cn15 => ?_)
      · replace h := (if_neg cn15).symm.trans h
        exact B_F_hasFittingCount_41 C0 ih _ _ _ _ _ _ _ H locs ls hP hD hS (lv_sub hl [1, 2, 3, 4, 5, 6, 0] rfl) h
      · replace h := (if_pos cn15).symm.trans h
        obtain ⟨v16, ev16, h⟩ := k_let_e h
        refine lv_iinc (v := v16) (lv' := [(3, .int v16), (6, .int v9), (0, .ref (a 1)), (1, .int x1), (2, .int x2), (4, .int x4), (5, .int x5)]) hx hb d_F_hasFittingCount_38 hl (k := 4) rfl (by rw [ev16]; rfl) (by decide) rfl (fun ls hl => ?_)
        exact B_F_hasFittingCount_41 C0 ih _ _ _ _ _ _ _ H locs ls hP hD hS (lv_sub hl [2, 3, 4, 0, 5, 6, 1] rfl) h
def M_F_hasFittingCount (σ : kS) (x1 x2 : Int32) : Option (Int32 × kS) := M_F_hasFittingCount_8 k_fu σ x1 x2 0 0 0
set_option maxHeartbeats 4000000 in
set_option maxRecDepth 100000 in
theorem B_F_hasFittingCount_0 {p : Program} {l : Launch} {e : Env} {s : State} {m : MethodId} {args : Array Value} {below : List Frame} {meth : Method} {c : Code} {D : va_G} {a : Nat → Nat} {c9 : Nat → ClassId} {A : Nat → Prop} {r9 : Int32} {σo : kS} (C0 : k_Cx D c9 p s m args meth c R_F c_F_hasFittingCount 7 (some .boolean) A) (σ : kS) (x1 x2 : Int32) (H : Heap) (locs : List Loc) (ls : Array Slot) (hP : va_P D kcl (kw a c9 σ) H) (hD : va_D A (kw a c9 σ)) (hS : va_S A s.heap H locs) (hl : lv_has ls 7 [(0, .ref (a 1)), (1, .int x1), (2, .int x2)]) (h : M_F_hasFittingCount σ x1 x2 = some (r9, σo)) : W p l e rm_F_hasFittingCount s m args below meth c H locs 0 0 (MQ below (k_Qi D a c9 r9 σo A) args s 0 0 A) (F0 m 0 ls []) := by
  obtain ⟨hx, hb, hml, hown, hts, hr, hlk, hK, hN, hA⟩ := id C0
  unfold M_F_hasFittingCount at h
  refine lv_iconst (v := 0) hx hb d_F_hasFittingCount_0 (by decide) ?_
  refine lv_istore_n (lv' := [(3, .int 0), (0, .ref (a 1)), (1, .int x1), (2, .int x2)]) hx hb d_F_hasFittingCount_1 rfl hl (by decide) rfl (fun ls hl => ?_)
  refine lv_iconst (v := 0) hx hb d_F_hasFittingCount_2 (by decide) ?_
  refine lv_istore (lv' := [(4, .int 0), (3, .int 0), (0, .ref (a 1)), (1, .int x1), (2, .int x2)]) hx hb d_F_hasFittingCount_3 hl (by decide) rfl (fun ls hl => ?_)
  refine lv_iconst (v := 0) hx hb d_F_hasFittingCount_5 (by decide) ?_
  refine lv_istore (lv' := [(5, .int 0), (4, .int 0), (3, .int 0), (0, .ref (a 1)), (1, .int x1), (2, .int x2)]) hx hb d_F_hasFittingCount_6 hl (by decide) rfl (fun ls hl => ?_)
  exact B_F_hasFittingCount_8 C0 k_fu _ _ _ _ _ _ H locs ls hP hD hS (lv_sub hl [3, 4, 5, 2, 1, 0] rfl) h
theorem K_F_hasFittingCount (l : Launch) (D : va_G) (a : Nat → Nat) (c9 : Nat → ClassId) (sz : Nat) {σ : kS} {x1 x2 : Int32} {r9 : Int32} {σo : kS} (h : M_F_hasFittingCount σ x1 x2 = some (r9, σo)) : Met l y_F_hasFittingCount (Cond.code y_F_hasFittingCount c_F_hasFittingCount 7 (some .boolean) :: kG) rm_F_hasFittingCount (k_Pc D a c9 sz σ [.ref (a 1), .int x1, .int x2]) (k_Qi D a c9 r9 σo (k_A a c9 σ sz)) 0 0 (k_A a c9 σ sz) :=
  k_met (Qf := k_Qi D a c9 r9 σo) (by decide) (Nat.le_of_ble_eq_true rfl) (fun p e s m args below meth c A ls C0 hP hD hS hl => B_F_hasFittingCount_0 C0 σ x1 x2 s.heap [] ls hP hD hS hl h)
def rm_F_hasFittingStart : Room := { frames := 1, cells := 0, slots := 0, locals := 22 }
def M_F_hasFittingStart (σ : kS) (x1 x2 : Int32) : Option (Int32 × kS) := k_call (M_F_isAnyOrder σ x1) fun v1 σ2 => if v1 = 0 then (k_ld (σ2.2.1 9) 240 (x1) fun v5 => if v5 = 0 then (some (1, σ2)) else (k_call (M_F_partAt σ2 x1 0) fun v7 σ8 => k_call (M_F_isHole σ8 v7) fun v10 σ11 => if v10 = 0 then (k_ld (σ11.2.1 9) 240 (x2) fun v14 => if v14 ≤ 0 then (some (0, σ11)) else (k_call (M_F_partAt σ11 x1 0) fun v16 σ17 => k_call (M_F_partAt σ17 x2 0) fun v19 σ20 => k_call (M_F_looksLike σ20 v16 v19) fun v22 σ23 => if v22 = 0 then (some (0, σ23)) else (some (1, σ23)))) else (some (1, σ11)))) else (some (1, σ2))
set_option maxHeartbeats 4000000 in
set_option maxRecDepth 100000 in
theorem B_F_hasFittingStart_0 {p : Program} {l : Launch} {e : Env} {s : State} {m : MethodId} {args : Array Value} {below : List Frame} {meth : Method} {c : Code} {D : va_G} {a : Nat → Nat} {c9 : Nat → ClassId} {A : Nat → Prop} {r9 : Int32} {σo : kS} (C0 : k_Cx D c9 p s m args meth c R_F c_F_hasFittingStart 3 (some .boolean) A) (σ : kS) (x1 x2 : Int32) (H : Heap) (locs : List Loc) (ls : Array Slot) (hP : va_P D kcl (kw a c9 σ) H) (hD : va_D A (kw a c9 σ)) (hS : va_S A s.heap H locs) (hl : lv_has ls 3 [(0, .ref (a 1)), (1, .int x1), (2, .int x2)]) (h : M_F_hasFittingStart σ x1 x2 = some (r9, σo)) : W p l e rm_F_hasFittingStart s m args below meth c H locs 0 0 (MQ below (k_Qi D a c9 r9 σo A) args s 0 0 A) (F0 m 0 ls []) := by
  obtain ⟨hx, hb, hml, hown, hts, hr, hlk, hK, hN, hA⟩ := id C0
  unfold M_F_hasFittingStart at h
  refine lv_aload_n hx hb d_F_hasFittingStart_0 rfl (lv_at hl 0 rfl) ?_
  refine lv_iload_n hx hb d_F_hasFittingStart_1 rfl (lv_at hl 1 rfl) ?_
  obtain ⟨v1, σ2, hc3, h⟩ := k_call_e h
  refine k_calli (va_runV (As := [.int x1]) (rest := []) ⟨hx, hb, hml, hown, hts⟩ (K_F_isAnyOrder l D a c9 H.size hc3) (cwV 1 hts (k_gV q_381 q_382 q_383 q_2 q_384) rfl rfl rfl h_F_isAnyOrder ⟨Nat.le_of_ble_eq_true rfl, Nat.le_of_ble_eq_true rfl⟩) (k_preV (ci := 2) (q0 := 1) rfl kw_1 hP hK hN hD) rfl rfl hl.1 rfl (lv_room (Nat.le_of_ble_eq_true rfl)) d_F_hasFittingStart_2 ⟨Nat.zero_le _, Nat.zero_le _⟩) hD hS hA (fun H locs hP hD hS => ?_)
  refine lv_if_ne (tgt := 30) hx hb d_F_hasFittingStart_5 (by decide) (fun cn4 => ?_) (fun cn4 => ?_)
  · replace h := (if_neg cn4).symm.trans h
    refine lv_iconst (v := 1) hx hb d_F_hasFittingStart_30 (by decide) ?_
    cases h
    exact k_zret (Or.inr rfl) hx hb hr hlk hP hS d_F_hasFittingStart_31
  · replace h := (if_pos cn4).symm.trans h
    refine lv_aload_n hx hb d_F_hasFittingStart_8 rfl (lv_at hl 0 rfl) ?_
    refine va_get (ci := 2) (C := R_F) (T := T_F) (N := 13) hx hb hts in_F hown hK hP 1 kw_1 rfl 8 (by decide) (hts _ q_41) (fun _ h9 => h9) rfl d_F_hasFittingStart_9 ?_
    refine lv_iload_n hx hb d_F_hasFittingStart_12 rfl (lv_at hl 1 rfl) ?_
    obtain ⟨v5, ev5, hv5, h⟩ := k_ld_e h
    refine va_iald hx hb hK hP 16 0 kw_16 rfl hv5 d_F_hasFittingStart_13 (k_top ev5 ?_)
    refine lv_if_eq (tgt := 30) hx hb d_F_hasFittingStart_14 (by decide) (fun cn6 => ?_) (fun cn6 => ?_)
    · replace h := (if_pos cn6).symm.trans h
      refine lv_iconst (v := 1) hx hb d_F_hasFittingStart_30 (by decide) ?_
      cases h
      exact k_zret (Or.inr rfl) hx hb hr hlk hP hS d_F_hasFittingStart_31
    · replace h := (if_neg cn6).symm.trans h
      refine lv_aload_n hx hb d_F_hasFittingStart_17 rfl (lv_at hl 0 rfl) ?_
      refine lv_aload_n hx hb d_F_hasFittingStart_18 rfl (lv_at hl 0 rfl) ?_
      refine lv_iload_n hx hb d_F_hasFittingStart_19 rfl (lv_at hl 1 rfl) ?_
      refine lv_iconst (v := 0) hx hb d_F_hasFittingStart_20 (by decide) ?_
      obtain ⟨v7, σ8, hc9, h⟩ := k_call_e h
      refine k_calli (va_runV (As := [.int x1, .int 0]) (rest := [.ref (a 1)]) ⟨hx, hb, hml, hown, hts⟩ (K_F_partAt l D a c9 H.size hc9) (cwV 2 hts (k_gV q_385 q_386 q_387 q_2 q_388) rfl rfl rfl h_F_partAt ⟨Nat.le_of_ble_eq_true rfl, Nat.le_of_ble_eq_true rfl⟩) (k_preV (ci := 2) (q0 := 1) rfl kw_1 hP hK hN hD) rfl rfl hl.1 rfl (lv_room (Nat.le_of_ble_eq_true rfl)) d_F_hasFittingStart_21 ⟨Nat.zero_le _, Nat.zero_le _⟩) hD hS hA (fun H locs hP hD hS => ?_)
      obtain ⟨v10, σ11, hc12, h⟩ := k_call_e h
      refine k_calli (va_runV (As := [.int v7]) (rest := []) ⟨hx, hb, hml, hown, hts⟩ (K_F_isHole l D a c9 H.size hc12) (cwV 1 hts (k_gV q_664 q_414 q_415 q_2 q_416) rfl rfl rfl h_F_isHole ⟨Nat.le_of_ble_eq_true rfl, Nat.le_of_ble_eq_true rfl⟩) (k_preV (ci := 2) (q0 := 1) rfl kw_1 hP hK hN hD) rfl rfl hl.1 rfl (lv_room (Nat.le_of_ble_eq_true rfl)) d_F_hasFittingStart_24 ⟨Nat.zero_le _, Nat.zero_le _⟩) hD hS hA (fun H locs hP hD hS => ?_)
      refine lv_if_eq (tgt := 32) hx hb d_F_hasFittingStart_27 (by decide) (fun cn13 => ?_) (fun cn13 => ?_)
      · replace h := (if_pos cn13).symm.trans h
        refine lv_aload_n hx hb d_F_hasFittingStart_32 rfl (lv_at hl 0 rfl) ?_
        refine va_get (ci := 2) (C := R_F) (T := T_F) (N := 13) hx hb hts in_F hown hK hP 1 kw_1 rfl 8 (by decide) (hts _ q_41) (fun _ h9 => h9) rfl d_F_hasFittingStart_33 ?_
        refine lv_iload_n hx hb d_F_hasFittingStart_36 rfl (lv_at hl 2 rfl) ?_
        obtain ⟨v14, ev14, hv14, h⟩ := k_ld_e h
        refine va_iald hx hb hK hP 16 0 kw_16 rfl hv14 d_F_hasFittingStart_37 (k_top ev14 ?_)
        refine lv_if_le (tgt := 64) hx hb d_F_hasFittingStart_38 (by decide) (fun cn15 => ?_) (fun cn15 => ?_)
        · replace h := (if_pos cn15).symm.trans h
          refine lv_iconst (v := 0) hx hb d_F_hasFittingStart_64 (by decide) ?_
          cases h
          exact k_zret (Or.inl rfl) hx hb hr hlk hP hS d_F_hasFittingStart_65
        · replace h := (if_neg cn15).symm.trans h
          refine lv_aload_n hx hb d_F_hasFittingStart_41 rfl (lv_at hl 0 rfl) ?_
          refine lv_aload_n hx hb d_F_hasFittingStart_42 rfl (lv_at hl 0 rfl) ?_
          refine lv_iload_n hx hb d_F_hasFittingStart_43 rfl (lv_at hl 1 rfl) ?_
          refine lv_iconst (v := 0) hx hb d_F_hasFittingStart_44 (by decide) ?_
          obtain ⟨v16, σ17, hc18, h⟩ := k_call_e h
          refine k_calli (va_runV (As := [.int x1, .int 0]) (rest := [.ref (a 1)]) ⟨hx, hb, hml, hown, hts⟩ (K_F_partAt l D a c9 H.size hc18) (cwV 2 hts (k_gV q_385 q_386 q_387 q_2 q_388) rfl rfl rfl h_F_partAt ⟨Nat.le_of_ble_eq_true rfl, Nat.le_of_ble_eq_true rfl⟩) (k_preV (ci := 2) (q0 := 1) rfl kw_1 hP hK hN hD) rfl rfl hl.1 rfl (lv_room (Nat.le_of_ble_eq_true rfl)) d_F_hasFittingStart_45 ⟨Nat.zero_le _, Nat.zero_le _⟩) hD hS hA (fun H locs hP hD hS => ?_)
          refine lv_aload_n hx hb d_F_hasFittingStart_48 rfl (lv_at hl 0 rfl) ?_
          refine lv_iload_n hx hb d_F_hasFittingStart_49 rfl (lv_at hl 2 rfl) ?_
          refine lv_iconst (v := 0) hx hb d_F_hasFittingStart_50 (by decide) ?_
          obtain ⟨v19, σ20, hc21, h⟩ := k_call_e h
          refine k_calli (va_runV (As := [.int x2, .int 0]) (rest := [.int v16, .ref (a 1)]) ⟨hx, hb, hml, hown, hts⟩ (K_F_partAt l D a c9 H.size hc21) (cwV 2 hts (k_gV q_385 q_386 q_387 q_2 q_388) rfl rfl rfl h_F_partAt ⟨Nat.le_of_ble_eq_true rfl, Nat.le_of_ble_eq_true rfl⟩) (k_preV (ci := 2) (q0 := 1) rfl kw_1 hP hK hN hD) rfl rfl hl.1 rfl (lv_room (Nat.le_of_ble_eq_true rfl)) d_F_hasFittingStart_51 ⟨Nat.zero_le _, Nat.zero_le _⟩) hD hS hA (fun H locs hP hD hS => ?_)
          obtain ⟨v22, σ23, hc24, h⟩ := k_call_e h
          refine k_calli (va_runV (As := [.int v16, .int v19]) (rest := []) ⟨hx, hb, hml, hown, hts⟩ (K_F_looksLike l D a c9 H.size hc24) (cwV 2 hts (k_gV q_665 q_581 q_582 q_2 q_583) rfl rfl rfl h_F_looksLike ⟨Nat.le_of_ble_eq_true rfl, Nat.le_of_ble_eq_true rfl⟩) (k_preV (ci := 2) (q0 := 1) rfl kw_1 hP hK hN hD) rfl rfl hl.1 rfl (lv_room (Nat.le_of_ble_eq_true rfl)) d_F_hasFittingStart_54 ⟨Nat.zero_le _, Nat.zero_le _⟩) hD hS hA (fun H locs hP hD hS => ?_)
          refine lv_if_eq (tgt := 64) hx hb d_F_hasFittingStart_57 (by decide) (fun cn25 => ?_) (fun cn25 => ?_)
          · replace h := (if_pos cn25).symm.trans h
            refine lv_iconst (v := 0) hx hb d_F_hasFittingStart_64 (by decide) ?_
            cases h
            exact k_zret (Or.inl rfl) hx hb hr hlk hP hS d_F_hasFittingStart_65
          · replace h := (if_neg cn25).symm.trans h
            refine lv_iconst (v := 1) hx hb d_F_hasFittingStart_60 (by decide) ?_
            refine lv_goto (tgt := 65) hx hb d_F_hasFittingStart_61 (by decide) ?_
            cases h
            exact k_zret (Or.inr rfl) hx hb hr hlk hP hS d_F_hasFittingStart_65
      · replace h := (if_neg cn13).symm.trans h
        refine lv_iconst (v := 1) hx hb d_F_hasFittingStart_30 (by decide) ?_
        cases h
        exact k_zret (Or.inr rfl) hx hb hr hlk hP hS d_F_hasFittingStart_31
theorem K_F_hasFittingStart (l : Launch) (D : va_G) (a : Nat → Nat) (c9 : Nat → ClassId) (sz : Nat) {σ : kS} {x1 x2 : Int32} {r9 : Int32} {σo : kS} (h : M_F_hasFittingStart σ x1 x2 = some (r9, σo)) : Met l y_F_hasFittingStart (Cond.code y_F_hasFittingStart c_F_hasFittingStart 3 (some .boolean) :: kG) rm_F_hasFittingStart (k_Pc D a c9 sz σ [.ref (a 1), .int x1, .int x2]) (k_Qi D a c9 r9 σo (k_A a c9 σ sz)) 0 0 (k_A a c9 σ sz) :=
  k_met (Qf := k_Qi D a c9 r9 σo) (by decide) (Nat.le_of_ble_eq_true rfl) (fun p e s m args below meth c A ls C0 hP hD hS hl => B_F_hasFittingStart_0 C0 σ x1 x2 s.heap [] ls hP hD hS hl h)
def rm_F_mayMatch : Room := { frames := 3, cells := 0, slots := 0, locals := 69 }
def M_F_mayMatch (σ : kS) (x1 x2 : Int32) : Option (Int32 × kS) := k_call (M_F_isHole σ x1) fun v1 σ2 => if v1 = 0 then (k_call (M_F_looksLike σ2 x1 x2) fun v5 σ6 => if v5 = 0 then (some (0, σ6)) else (k_call (M_F_isLeaf σ6 x1) fun v9 σ10 => if v9 = 0 then (k_call (M_F_hasFittingCount σ10 x1 x2) fun v13 σ14 => if v13 = 0 then (some (0, σ14)) else (k_call (M_F_hasFittingStart σ14 x1 x2) fun v17 σ18 => if v17 = 0 then (some (0, σ18)) else (some (1, σ18)))) else (some (1, σ10)))) else (k_ld (σ2.2.1 4) 240 (x1) fun v21 => if v21 = 1 then (k_call (M_F_isLeaf σ2 x2) fun v23 σ24 => if v23 = 0 then (some (0, σ24)) else (some (1, σ24))) else (some (1, σ2)))
set_option maxHeartbeats 4000000 in
set_option maxRecDepth 100000 in
theorem B_F_mayMatch_0 {p : Program} {l : Launch} {e : Env} {s : State} {m : MethodId} {args : Array Value} {below : List Frame} {meth : Method} {c : Code} {D : va_G} {a : Nat → Nat} {c9 : Nat → ClassId} {A : Nat → Prop} {r9 : Int32} {σo : kS} (C0 : k_Cx D c9 p s m args meth c R_F c_F_mayMatch 3 (some .boolean) A) (σ : kS) (x1 x2 : Int32) (H : Heap) (locs : List Loc) (ls : Array Slot) (hP : va_P D kcl (kw a c9 σ) H) (hD : va_D A (kw a c9 σ)) (hS : va_S A s.heap H locs) (hl : lv_has ls 3 [(0, .ref (a 1)), (1, .int x1), (2, .int x2)]) (h : M_F_mayMatch σ x1 x2 = some (r9, σo)) : W p l e rm_F_mayMatch s m args below meth c H locs 0 0 (MQ below (k_Qi D a c9 r9 σo A) args s 0 0 A) (F0 m 0 ls []) := by
  obtain ⟨hx, hb, hml, hown, hts, hr, hlk, hK, hN, hA⟩ := id C0
  unfold M_F_mayMatch at h
  refine lv_aload_n hx hb d_F_mayMatch_0 rfl (lv_at hl 0 rfl) ?_
  refine lv_iload_n hx hb d_F_mayMatch_1 rfl (lv_at hl 1 rfl) ?_
  obtain ⟨v1, σ2, hc3, h⟩ := k_call_e h
  refine k_calli (va_runV (As := [.int x1]) (rest := []) ⟨hx, hb, hml, hown, hts⟩ (K_F_isHole l D a c9 H.size hc3) (cwV 1 hts (k_gV q_664 q_414 q_415 q_2 q_416) rfl rfl rfl h_F_isHole ⟨Nat.le_of_ble_eq_true rfl, Nat.le_of_ble_eq_true rfl⟩) (k_preV (ci := 2) (q0 := 1) rfl kw_1 hP hK hN hD) rfl rfl hl.1 rfl (lv_room (Nat.le_of_ble_eq_true rfl)) d_F_mayMatch_2 ⟨Nat.zero_le _, Nat.zero_le _⟩) hD hS hA (fun H locs hP hD hS => ?_)
  refine lv_if_eq (tgt := 32) hx hb d_F_mayMatch_5 (by decide) (fun cn4 => ?_) (fun cn4 => ?_)
  · replace h := (if_pos cn4).symm.trans h
    refine lv_aload_n hx hb d_F_mayMatch_32 rfl (lv_at hl 0 rfl) ?_
    refine lv_iload_n hx hb d_F_mayMatch_33 rfl (lv_at hl 1 rfl) ?_
    refine lv_iload_n hx hb d_F_mayMatch_34 rfl (lv_at hl 2 rfl) ?_
    obtain ⟨v5, σ6, hc7, h⟩ := k_call_e h
    refine k_calli (va_runV (As := [.int x1, .int x2]) (rest := []) ⟨hx, hb, hml, hown, hts⟩ (K_F_looksLike l D a c9 H.size hc7) (cwV 2 hts (k_gV q_665 q_581 q_582 q_2 q_583) rfl rfl rfl h_F_looksLike ⟨Nat.le_of_ble_eq_true rfl, Nat.le_of_ble_eq_true rfl⟩) (k_preV (ci := 2) (q0 := 1) rfl kw_1 hP hK hN hD) rfl rfl hl.1 rfl (lv_room (Nat.le_of_ble_eq_true rfl)) d_F_mayMatch_35 ⟨Nat.zero_le _, Nat.zero_le _⟩) hD hS hA (fun H locs hP hD hS => ?_)
    refine lv_if_ne (tgt := 43) hx hb d_F_mayMatch_38 (by decide) (fun cn8 => ?_) (fun cn8 => ?_)
    · replace h := (if_neg cn8).symm.trans h
      refine lv_aload_n hx hb d_F_mayMatch_43 rfl (lv_at hl 0 rfl) ?_
      refine lv_iload_n hx hb d_F_mayMatch_44 rfl (lv_at hl 1 rfl) ?_
      obtain ⟨v9, σ10, hc11, h⟩ := k_call_e h
      refine k_calli (va_runV (As := [.int x1]) (rest := []) ⟨hx, hb, hml, hown, hts⟩ (K_F_isLeaf l D a c9 H.size hc11) (cwV 1 hts (k_gV q_555 q_544 q_545 q_2 q_546) rfl rfl rfl h_F_isLeaf ⟨Nat.le_of_ble_eq_true rfl, Nat.le_of_ble_eq_true rfl⟩) (k_preV (ci := 2) (q0 := 1) rfl kw_1 hP hK hN hD) rfl rfl hl.1 rfl (lv_room (Nat.le_of_ble_eq_true rfl)) d_F_mayMatch_45 ⟨Nat.zero_le _, Nat.zero_le _⟩) hD hS hA (fun H locs hP hD hS => ?_)
      refine lv_if_ne (tgt := 69) hx hb d_F_mayMatch_48 (by decide) (fun cn12 => ?_) (fun cn12 => ?_)
      · replace h := (if_neg cn12).symm.trans h
        refine lv_iconst (v := 1) hx hb d_F_mayMatch_69 (by decide) ?_
        refine lv_goto (tgt := 74) hx hb d_F_mayMatch_70 (by decide) ?_
        cases h
        exact k_zret (Or.inr rfl) hx hb hr hlk hP hS d_F_mayMatch_74
      · replace h := (if_pos cn12).symm.trans h
        refine lv_aload_n hx hb d_F_mayMatch_51 rfl (lv_at hl 0 rfl) ?_
        refine lv_iload_n hx hb d_F_mayMatch_52 rfl (lv_at hl 1 rfl) ?_
        refine lv_iload_n hx hb d_F_mayMatch_53 rfl (lv_at hl 2 rfl) ?_
        obtain ⟨v13, σ14, hc15, h⟩ := k_call_e h
        refine k_calli (va_runV (As := [.int x1, .int x2]) (rest := []) ⟨hx, hb, hml, hown, hts⟩ (K_F_hasFittingCount l D a c9 H.size hc15) (cwV 2 hts (k_gV q_666 q_668 s_16 q_2 q_669) rfl rfl rfl h_F_hasFittingCount ⟨Nat.le_of_ble_eq_true rfl, Nat.le_of_ble_eq_true rfl⟩) (k_preV (ci := 2) (q0 := 1) rfl kw_1 hP hK hN hD) rfl rfl hl.1 rfl (lv_room (Nat.le_of_ble_eq_true rfl)) d_F_mayMatch_54 ⟨Nat.zero_le _, Nat.zero_le _⟩) hD hS hA (fun H locs hP hD hS => ?_)
        refine lv_if_eq (tgt := 73) hx hb d_F_mayMatch_57 (by decide) (fun cn16 => ?_) (fun cn16 => ?_)
        · replace h := (if_pos cn16).symm.trans h
          refine lv_iconst (v := 0) hx hb d_F_mayMatch_73 (by decide) ?_
          cases h
          exact k_zret (Or.inl rfl) hx hb hr hlk hP hS d_F_mayMatch_74
        · replace h := (if_neg cn16).symm.trans h
          refine lv_aload_n hx hb d_F_mayMatch_60 rfl (lv_at hl 0 rfl) ?_
          refine lv_iload_n hx hb d_F_mayMatch_61 rfl (lv_at hl 1 rfl) ?_
          refine lv_iload_n hx hb d_F_mayMatch_62 rfl (lv_at hl 2 rfl) ?_
          obtain ⟨v17, σ18, hc19, h⟩ := k_call_e h
          refine k_calli (va_runV (As := [.int x1, .int x2]) (rest := []) ⟨hx, hb, hml, hown, hts⟩ (K_F_hasFittingStart l D a c9 H.size hc19) (cwV 2 hts (k_gV q_671 q_673 s_17 q_2 q_674) rfl rfl rfl h_F_hasFittingStart ⟨Nat.le_of_ble_eq_true rfl, Nat.le_of_ble_eq_true rfl⟩) (k_preV (ci := 2) (q0 := 1) rfl kw_1 hP hK hN hD) rfl rfl hl.1 rfl (lv_room (Nat.le_of_ble_eq_true rfl)) d_F_mayMatch_63 ⟨Nat.zero_le _, Nat.zero_le _⟩) hD hS hA (fun H locs hP hD hS => ?_)
          refine lv_if_eq (tgt := 73) hx hb d_F_mayMatch_66 (by decide) (fun cn20 => ?_) (fun cn20 => ?_)
          · replace h := (if_pos cn20).symm.trans h
            refine lv_iconst (v := 0) hx hb d_F_mayMatch_73 (by decide) ?_
            cases h
            exact k_zret (Or.inl rfl) hx hb hr hlk hP hS d_F_mayMatch_74
          · replace h := (if_neg cn20).symm.trans h
            refine lv_iconst (v := 1) hx hb d_F_mayMatch_69 (by decide) ?_
            refine lv_goto (tgt := 74) hx hb d_F_mayMatch_70 (by decide) ?_
            cases h
            exact k_zret (Or.inr rfl) hx hb hr hlk hP hS d_F_mayMatch_74
    · replace h := (if_pos cn8).symm.trans h
      refine lv_iconst (v := 0) hx hb d_F_mayMatch_41 (by decide) ?_
      cases h
      exact k_zret (Or.inl rfl) hx hb hr hlk hP hS d_F_mayMatch_42
  · replace h := (if_neg cn4).symm.trans h
    refine lv_aload_n hx hb d_F_mayMatch_8 rfl (lv_at hl 0 rfl) ?_
    refine va_get (ci := 2) (C := R_F) (T := T_F) (N := 13) hx hb hts in_F hown hK hP 1 kw_1 rfl 3 (by decide) (hts _ q_36) (fun _ h9 => h9) rfl d_F_mayMatch_9 ?_
    refine lv_iload_n hx hb d_F_mayMatch_12 rfl (lv_at hl 1 rfl) ?_
    obtain ⟨v21, ev21, hv21, h⟩ := k_ld_e h
    refine va_iald hx hb hK hP 11 0 kw_11 rfl hv21 d_F_mayMatch_13 (k_top ev21 ?_)
    refine lv_iconst (v := 1) hx hb d_F_mayMatch_14 (by decide) ?_
    refine lv_icmp_ne (tgt := 26) hx hb d_F_mayMatch_15 (by decide) (fun cn22 => ?_) (fun cn22 => ?_)
    · replace h := (if_neg cn22).symm.trans h
      refine lv_iconst (v := 1) hx hb d_F_mayMatch_26 (by decide) ?_
      refine lv_goto (tgt := 31) hx hb d_F_mayMatch_27 (by decide) ?_
      cases h
      exact k_zret (Or.inr rfl) hx hb hr hlk hP hS d_F_mayMatch_31
    · replace h := (if_pos cn22).symm.trans h
      refine lv_aload_n hx hb d_F_mayMatch_18 rfl (lv_at hl 0 rfl) ?_
      refine lv_iload_n hx hb d_F_mayMatch_19 rfl (lv_at hl 2 rfl) ?_
      obtain ⟨v23, σ24, hc25, h⟩ := k_call_e h
      refine k_calli (va_runV (As := [.int x2]) (rest := []) ⟨hx, hb, hml, hown, hts⟩ (K_F_isLeaf l D a c9 H.size hc25) (cwV 1 hts (k_gV q_555 q_544 q_545 q_2 q_546) rfl rfl rfl h_F_isLeaf ⟨Nat.le_of_ble_eq_true rfl, Nat.le_of_ble_eq_true rfl⟩) (k_preV (ci := 2) (q0 := 1) rfl kw_1 hP hK hN hD) rfl rfl hl.1 rfl (lv_room (Nat.le_of_ble_eq_true rfl)) d_F_mayMatch_20 ⟨Nat.zero_le _, Nat.zero_le _⟩) hD hS hA (fun H locs hP hD hS => ?_)
      refine lv_if_eq (tgt := 30) hx hb d_F_mayMatch_23 (by decide) (fun cn26 => ?_) (fun cn26 => ?_)
      · replace h := (if_pos cn26).symm.trans h
        refine lv_iconst (v := 0) hx hb d_F_mayMatch_30 (by decide) ?_
        cases h
        exact k_zret (Or.inl rfl) hx hb hr hlk hP hS d_F_mayMatch_31
      · replace h := (if_neg cn26).symm.trans h
        refine lv_iconst (v := 1) hx hb d_F_mayMatch_26 (by decide) ?_
        refine lv_goto (tgt := 31) hx hb d_F_mayMatch_27 (by decide) ?_
        cases h
        exact k_zret (Or.inr rfl) hx hb hr hlk hP hS d_F_mayMatch_31
theorem K_F_mayMatch (l : Launch) (D : va_G) (a : Nat → Nat) (c9 : Nat → ClassId) (sz : Nat) {σ : kS} {x1 x2 : Int32} {r9 : Int32} {σo : kS} (h : M_F_mayMatch σ x1 x2 = some (r9, σo)) : Met l y_F_mayMatch (Cond.code y_F_mayMatch c_F_mayMatch 3 (some .boolean) :: kG) rm_F_mayMatch (k_Pc D a c9 sz σ [.ref (a 1), .int x1, .int x2]) (k_Qi D a c9 r9 σo (k_A a c9 σ sz)) 0 0 (k_A a c9 σ sz) :=
  k_met (Qf := k_Qi D a c9 r9 σo) (by decide) (Nat.le_of_ble_eq_true rfl) (fun p e s m args below meth c A ls C0 hP hD hS hl => B_F_mayMatch_0 C0 σ x1 x2 s.heap [] ls hP hD hS hl h)

