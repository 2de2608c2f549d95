/-! mirrors and contracts, by program (wip/whole/run.py) -/
def rm_SM_tried : Room := { frames := 1, cells := 0, slots := 0, locals := 20 }
def M_SM_tried (σ : kS) : Option (Int32 × kS) := k_call (M_Se_triesMade σ) fun v1 σ2 => some (v1, σ2)
set_option maxHeartbeats 4000000 in
set_option maxRecDepth 100000 in
theorem B_SM_tried_0 {p : Program} {l : Launch} {e : Env} {s : State} {m : MethodId} {args : Array Value} {below : List Frame} {meth : Method} {c : Code} {D : va_G} {a : Nat → Nat} {c9 : Nat → ClassId} {A : Nat → Prop} {r9 : Int32} {σo : kS} (C0 : k_Cx D c9 p s m args meth c R_SM c_SM_tried 1 (some .int) A) (σ : kS) (H : Heap) (locs : List Loc) (ls : Array Slot) (hP : va_P D kcl (kw a c9 σ) H) (hD : va_D A (kw a c9 σ)) (hS : va_S A s.heap H locs) (hl : lv_has ls 1 [(0, .ref (a 0))]) (h : M_SM_tried σ  = some (r9, σo)) : W p l e rm_SM_tried s m args below meth c H locs 0 0 (MQ below (k_Qi D a c9 r9 σo A) args s 0 0 A) (F0 m 0 ls []) := by
  obtain ⟨hx, hb, hml, hown, hts, hr, hlk, hK, hN, hA⟩ := id C0
  unfold M_SM_tried at h
  refine lv_aload_n hx hb d_SM_tried_0 rfl (lv_at hl 0 rfl) ?_
  refine va_get (ci := 0) (C := R_SM) (T := T_SM) (N := 6) hx hb hts in_SM hown hK hP 0 kw_0 rfl 1 (by decide) (hts _ q_175) (fun _ h9 => h9) rfl d_SM_tried_1 ?_
  obtain ⟨v1, σ2, hc3, h⟩ := k_call_e h
  refine k_calli (va_runV (As := []) (rest := []) ⟨hx, hb, hml, hown, hts⟩ (K_Se_triesMade l D a c9 H.size hc3) (cwV 0 hts (k_gV q_197 q_198 q_199 q_3 q_200) rfl rfl rfl h_Se_triesMade ⟨Nat.le_of_ble_eq_true rfl, Nat.le_of_ble_eq_true rfl⟩) (k_preV (ci := 6) (q0 := 2) rfl kw_2 hP hK hN hD) rfl rfl hl.1 rfl (lv_room (Nat.le_of_ble_eq_true rfl)) d_SM_tried_4 ⟨Nat.zero_le _, Nat.zero_le _⟩) hD hS hA (fun H locs hP hD hS => ?_)
  cases h
  exact k_iret hx hb hr hlk hP hS d_SM_tried_7
theorem K_SM_tried (l : Launch) (D : va_G) (a : Nat → Nat) (c9 : Nat → ClassId) (sz : Nat) {σ : kS} {r9 : Int32} {σo : kS} (h : M_SM_tried σ  = some (r9, σo)) : Met l y_SM_tried (Cond.code y_SM_tried c_SM_tried 1 (some .int) :: kG) rm_SM_tried (k_Pc D a c9 sz σ [.ref (a 0)]) (k_Qi D a c9 r9 σo (k_A a c9 σ sz)) 0 0 (k_A a c9 σ sz) :=
  k_met (Qf := k_Qi D a c9 r9 σo) (by decide) (Nat.le_of_ble_eq_true rfl) (fun p e s m args below meth c A ls C0 hP hD hS hl => B_SM_tried_0 C0 σ  s.heap [] ls hP hD hS hl h)
def rm_SM_rules : Room := { frames := 0, cells := 0, slots := 0, locals := 0 }
def M_SM_rules (σ : kS) (x1 : Int32) : Option (Int32 × kS) := if x1 < 0 then (some ((-1), σ)) else (if σ.1 1 ≤ x1 then (some ((-1), σ)) else (k_ld (σ.2.1 1) 30 (x1) fun v3 => some (v3, σ)))
set_option maxHeartbeats 4000000 in
set_option maxRecDepth 100000 in
theorem B_SM_rules_0 {p : Program} {l : Launch} {e : Env} {s : State} {m : MethodId} {args : Array Value} {below : List Frame} {meth : Method} {c : Code} {D : va_G} {a : Nat → Nat} {c9 : Nat → ClassId} {A : Nat → Prop} {r9 : Int32} {σo : kS} (C0 : k_Cx D c9 p s m args meth c R_SM c_SM_rules 2 (some .int) A) (σ : kS) (x1 : Int32) (H : Heap) (locs : List Loc) (ls : Array Slot) (hP : va_P D kcl (kw a c9 σ) H) (hD : va_D A (kw a c9 σ)) (hS : va_S A s.heap H locs) (hl : lv_has ls 2 [(0, .ref (a 0)), (1, .int x1)]) (h : M_SM_rules σ x1 = some (r9, σo)) : W p l e rm_SM_rules s m args below meth c H locs 0 0 (MQ below (k_Qi D a c9 r9 σo A) args s 0 0 A) (F0 m 0 ls []) := by
  obtain ⟨hx, hb, hml, hown, hts, hr, hlk, hK, hN, hA⟩ := id C0
  unfold M_SM_rules at h
  refine lv_iload_n hx hb d_SM_rules_0 rfl (lv_at hl 1 rfl) ?_
  refine lv_if_lt (tgt := 21) hx hb d_SM_rules_1 (by decide) (fun cn1 => ?_) (fun cn1 => ?_)
  · replace h := (if_pos cn1).symm.trans h
    refine lv_iconst (v := (-1)) hx hb d_SM_rules_21 (by decide) ?_
    cases h
    exact k_iret hx hb hr hlk hP hS d_SM_rules_22
  · replace h := (if_neg cn1).symm.trans h
    refine lv_iload_n hx hb d_SM_rules_4 rfl (lv_at hl 1 rfl) ?_
    refine lv_aload_n hx hb d_SM_rules_5 rfl (lv_at hl 0 rfl) ?_
    refine va_get (ci := 0) (C := R_SM) (T := T_SM) (N := 6) hx hb hts in_SM hown hK hP 0 kw_0 rfl 5 (by decide) (hts _ q_179) (fun _ h9 => h9) rfl d_SM_rules_6 ?_
    refine lv_icmp_ge (tgt := 21) hx hb d_SM_rules_9 (by decide) (fun cn2 => ?_) (fun cn2 => ?_)
    · replace h := (if_pos cn2).symm.trans h
      refine lv_iconst (v := (-1)) hx hb d_SM_rules_21 (by decide) ?_
      cases h
      exact k_iret hx hb hr hlk hP hS d_SM_rules_22
    · replace h := (if_neg cn2).symm.trans h
      refine lv_aload_n hx hb d_SM_rules_12 rfl (lv_at hl 0 rfl) ?_
      refine va_get (ci := 0) (C := R_SM) (T := T_SM) (N := 6) hx hb hts in_SM hown hK hP 0 kw_0 rfl 4 (by decide) (hts _ q_178) (fun _ h9 => h9) rfl d_SM_rules_13 ?_
      refine lv_iload_n hx hb d_SM_rules_16 rfl (lv_at hl 1 rfl) ?_
      obtain ⟨v3, ev3, hv3, h⟩ := k_ld_e h
      refine va_iald hx hb hK hP 8 0 kw_8 rfl hv3 d_SM_rules_17 (k_top ev3 ?_)
      refine lv_goto (tgt := 22) hx hb d_SM_rules_18 (by decide) ?_
      cases h
      exact k_iret hx hb hr hlk hP hS d_SM_rules_22
theorem K_SM_rules (l : Launch) (D : va_G) (a : Nat → Nat) (c9 : Nat → ClassId) (sz : Nat) {σ : kS} {x1 : Int32} {r9 : Int32} {σo : kS} (h : M_SM_rules σ x1 = some (r9, σo)) : Met l y_SM_rules (Cond.code y_SM_rules c_SM_rules 2 (some .int) :: kG) rm_SM_rules (k_Pc D a c9 sz σ [.ref (a 0), .int x1]) (k_Qi D a c9 r9 σo (k_A a c9 σ sz)) 0 0 (k_A a c9 σ sz) :=
  k_met (Qf := k_Qi D a c9 r9 σo) (by decide) (Nat.le_of_ble_eq_true rfl) (fun p e s m args below meth c A ls C0 hP hD hS hl => B_SM_rules_0 C0 σ x1 s.heap [] ls hP hD hS hl h)
def rm_SM_count : Room := { frames := 1, cells := 0, slots := 0, locals := 20 }
def M_SM_count (σ : kS) (x1 : Int32) : Option (Int32 × kS) := if x1 = 0 then (k_call (M_F_treeCount σ) fun v2 σ3 => some (v2, σ3)) else (if x1 = 1 then (some (σ.1 0, σ)) else (if x1 = 2 then (k_call (M_Se_matches σ) fun _ σ8 => k_call (M_Mt_keptCount σ8) fun v10 σ11 => some (v10, σ11)) else (some ((-1), σ))))
set_option maxHeartbeats 4000000 in
set_option maxRecDepth 100000 in
theorem B_SM_count_0 {p : Program} {l : Launch} {e : Env} {s : State} {m : MethodId} {args : Array Value} {below : List Frame} {meth : Method} {c : Code} {D : va_G} {a : Nat → Nat} {c9 : Nat → ClassId} {A : Nat → Prop} {r9 : Int32} {σo : kS} (C0 : k_Cx D c9 p s m args meth c R_SM c_SM_count 2 (some .int) A) (σ : kS) (x1 : Int32) (H : Heap) (locs : List Loc) (ls : Array Slot) (hP : va_P D kcl (kw a c9 σ) H) (hD : va_D A (kw a c9 σ)) (hS : va_S A s.heap H locs) (hl : lv_has ls 2 [(0, .ref (a 0)), (1, .int x1)]) (h : M_SM_count σ x1 = some (r9, σo)) : W p l e rm_SM_count s m args below meth c H locs 0 0 (MQ below (k_Qi D a c9 r9 σo A) args s 0 0 A) (F0 m 0 ls []) := by
  obtain ⟨hx, hb, hml, hown, hts, hr, hlk, hK, hN, hA⟩ := id C0
  unfold M_SM_count at h
  refine lv_iload_n hx hb d_SM_count_0 rfl (lv_at hl 1 rfl) ?_
  by_cases cn1 : x1 = 0
  · replace h := (if_pos cn1).symm.trans h
    refine lv_tableIn (off := 27) (tgt := 28) hx hb d_SM_count_1 (by rw [cn1]; decide) (by rw [cn1]; decide) (by rw [cn1]; rfl) (by decide) ?_
    refine lv_aload_n hx hb d_SM_count_28 rfl (lv_at hl 0 rfl) ?_
    refine va_get (ci := 0) (C := R_SM) (T := T_SM) (N := 6) hx hb hts in_SM hown hK hP 0 kw_0 rfl 0 (by decide) (hts _ q_174) (fun _ h9 => h9) rfl d_SM_count_29 ?_
    obtain ⟨v2, σ3, hc4, h⟩ := k_call_e h
    refine k_calli (va_runV (As := []) (rest := []) ⟨hx, hb, hml, hown, hts⟩ (K_F_treeCount l D a c9 H.size hc4) (cwV 0 hts (k_gV q_209 q_210 q_211 q_2 q_212) rfl rfl rfl h_F_treeCount ⟨Nat.le_of_ble_eq_true rfl, Nat.le_of_ble_eq_true rfl⟩) (k_preV (ci := 2) (q0 := 1) rfl kw_1 hP hK hN hD) rfl rfl hl.1 rfl (lv_room (Nat.le_of_ble_eq_true rfl)) d_SM_count_32 ⟨Nat.zero_le _, Nat.zero_le _⟩) hD hS hA (fun H locs hP hD hS => ?_)
    cases h
    exact k_iret hx hb hr hlk hP hS d_SM_count_35
  replace h := (if_neg cn1).symm.trans h
  by_cases cn5 : x1 = 1
  · replace h := (if_pos cn5).symm.trans h
    refine lv_tableIn (off := 35) (tgt := 36) hx hb d_SM_count_1 (by rw [cn5]; decide) (by rw [cn5]; decide) (by rw [cn5]; rfl) (by decide) ?_
    refine lv_aload_n hx hb d_SM_count_36 rfl (lv_at hl 0 rfl) ?_
    refine va_get (ci := 0) (C := R_SM) (T := T_SM) (N := 6) hx hb hts in_SM hown hK hP 0 kw_0 rfl 3 (by decide) (hts _ q_177) (fun _ h9 => h9) rfl d_SM_count_37 ?_
    cases h
    exact k_iret hx hb hr hlk hP hS d_SM_count_40
  replace h := (if_neg cn5).symm.trans h
  by_cases cn6 : x1 = 2
  · replace h := (if_pos cn6).symm.trans h
    refine lv_tableIn (off := 40) (tgt := 41) hx hb d_SM_count_1 (by rw [cn6]; decide) (by rw [cn6]; decide) (by rw [cn6]; rfl) (by decide) ?_
    refine lv_aload_n hx hb d_SM_count_41 rfl (lv_at hl 0 rfl) ?_
    refine va_get (ci := 0) (C := R_SM) (T := T_SM) (N := 6) hx hb hts in_SM hown hK hP 0 kw_0 rfl 1 (by decide) (hts _ q_175) (fun _ h9 => h9) rfl d_SM_count_42 ?_
    obtain ⟨v7, σ8, hc9, h⟩ := k_call_e h
    refine k_callr (va_runV (As := []) (rest := []) ⟨hx, hb, hml, hown, hts⟩ (K_Se_matches l D a c9 H.size hc9) (cwV 0 hts (k_gV q_213 q_214 q_215 q_3 q_216) rfl rfl rfl h_Se_matches ⟨Nat.le_of_ble_eq_true rfl, Nat.le_of_ble_eq_true rfl⟩) (k_preV (ci := 6) (q0 := 2) rfl kw_2 hP hK hN hD) rfl rfl hl.1 rfl (lv_room (Nat.le_of_ble_eq_true rfl)) d_SM_count_45 ⟨Nat.zero_le _, Nat.zero_le _⟩) hD hS hA (fun H locs hP hD hS => ?_)
    obtain ⟨v10, σ11, hc12, h⟩ := k_call_e h
    refine k_calli (va_runV (As := []) (rest := []) ⟨hx, hb, hml, hown, hts⟩ (K_Mt_keptCount l D a c9 H.size hc12) (cwV 0 hts (k_gV q_217 q_218 q_219 q_6 q_220) rfl rfl rfl h_Mt_keptCount ⟨Nat.le_of_ble_eq_true rfl, Nat.le_of_ble_eq_true rfl⟩) (k_preV (ci := 3) (q0 := 5) rfl kw_5 hP hK hN hD) rfl rfl hl.1 rfl (lv_room (Nat.le_of_ble_eq_true rfl)) d_SM_count_48 ⟨Nat.zero_le _, Nat.zero_le _⟩) hD hS hA (fun H locs hP hD hS => ?_)
    cases h
    exact k_iret hx hb hr hlk hP hS d_SM_count_51
  replace h := (if_neg cn6).symm.trans h
  refine lv_tableOut (tgt := 52) hx hb d_SM_count_1 (by have := lv_neT cn1 (k := 0) (a := 0) (by decide); have := lv_neT cn5 (k := 1) (a := 1) (by decide); have := lv_neT cn6 (k := 2) (a := 2) (by decide); omega) (by decide) ?_
  refine lv_iconst (v := (-1)) hx hb d_SM_count_52 (by decide) ?_
  cases h
  exact k_iret hx hb hr hlk hP hS d_SM_count_53
theorem K_SM_count (l : Launch) (D : va_G) (a : Nat → Nat) (c9 : Nat → ClassId) (sz : Nat) {σ : kS} {x1 : Int32} {r9 : Int32} {σo : kS} (h : M_SM_count σ x1 = some (r9, σo)) : Met l y_SM_count (Cond.code y_SM_count c_SM_count 2 (some .int) :: kG) rm_SM_count (k_Pc D a c9 sz σ [.ref (a 0), .int x1]) (k_Qi D a c9 r9 σo (k_A a c9 σ sz)) 0 0 (k_A a c9 σ sz) :=
  k_met (Qf := k_Qi D a c9 r9 σo) (by decide) (Nat.le_of_ble_eq_true rfl) (fun p e s m args below meth c A ls C0 hP hD hS hl => B_SM_count_0 C0 σ x1 s.heap [] ls hP hD hS hl h)

