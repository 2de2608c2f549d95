/-! mirrors and contracts, by program (wip/whole/run.py) -/
def rm_Se_matches : Room := { frames := 0, cells := 0, slots := 0, locals := 0 }
def M_Se_matches (σ : kS) : Option (Int32 × kS) := some (0, σ)
set_option maxHeartbeats 4000000 in
set_option maxRecDepth 100000 in
theorem B_Se_matches_0 {p : Program} {l : Launch} {e : Env} {s : State} {m : MethodId} {args : Array Value} {below : List Frame} {meth : Method} {c : Code} {D : va_G} {a : Nat → Nat} {c9 : Nat → ClassId} {A : Nat → Prop} {r9 : Int32} {σo : kS} (C0 : k_Cx D c9 p s m args meth c R_Se c_Se_matches 1 (some (.object "SequenceMatch$Matches")) A) (σ : kS) (H : Heap) (locs : List Loc) (ls : Array Slot) (hP : va_P D kcl (kw a c9 σ) H) (hD : va_D A (kw a c9 σ)) (hS : va_S A s.heap H locs) (hl : lv_has ls 1 [(0, .ref (a 2))]) (h : M_Se_matches σ  = some (r9, σo)) : W p l e rm_Se_matches s m args below meth c H locs 0 0 (MQ below (k_Qr D a c9 (a 5) σo A) args s 0 0 A) (F0 m 0 ls []) := by
  obtain ⟨hx, hb, hml, hown, hts, hr, hlk, hK, hN, hA⟩ := id C0
  unfold M_Se_matches at h
  refine lv_aload_n hx hb d_Se_matches_0 rfl (lv_at hl 0 rfl) ?_
  refine va_get (ci := 6) (C := R_Se) (T := T_Se) (N := 13) hx hb hts in_Se hown hK hP 2 kw_2 rfl 3 (by decide) (hts _ q_137) (fun _ h9 => h9) rfl d_Se_matches_1 ?_
  cases h
  exact k_aret hx hb hr hlk hP hS d_Se_matches_4
theorem K_Se_matches (l : Launch) (D : va_G) (a : Nat → Nat) (c9 : Nat → ClassId) (sz : Nat) {σ : kS} {r9 : Int32} {σo : kS} (h : M_Se_matches σ  = some (r9, σo)) : Met l y_Se_matches (Cond.code y_Se_matches c_Se_matches 1 (some (.object "SequenceMatch$Matches")) :: kG) rm_Se_matches (k_Pc D a c9 sz σ [.ref (a 2)]) (k_Qr D a c9 (a 5) σo (k_A a c9 σ sz)) 0 0 (k_A a c9 σ sz) :=
  k_met (Qf := k_Qr D a c9 (a 5) σo) (by decide) (Nat.le_of_ble_eq_true rfl) (fun p e s m args below meth c A ls C0 hP hD hS hl => B_Se_matches_0 C0 σ  s.heap [] ls hP hD hS hl h)
def rm_Se_triesMade : Room := { frames := 0, cells := 0, slots := 0, locals := 0 }
def M_Se_triesMade (σ : kS) : Option (Int32 × kS) := some (σ.1 5, σ)
set_option maxHeartbeats 4000000 in
set_option maxRecDepth 100000 in
theorem B_Se_triesMade_0 {p : Program} {l : Launch} {e : Env} {s : State} {m : MethodId} {args : Array Value} {below : List Frame} {meth : Method} {c : Code} {D : va_G} {a : Nat → Nat} {c9 : Nat → ClassId} {A : Nat → Prop} {r9 : Int32} {σo : kS} (C0 : k_Cx D c9 p s m args meth c R_Se c_Se_triesMade 1 (some .int) A) (σ : kS) (H : Heap) (locs : List Loc) (ls : Array Slot) (hP : va_P D kcl (kw a c9 σ) H) (hD : va_D A (kw a c9 σ)) (hS : va_S A s.heap H locs) (hl : lv_has ls 1 [(0, .ref (a 2))]) (h : M_Se_triesMade σ  = some (r9, σo)) : W p l e rm_Se_triesMade s m args below meth c H locs 0 0 (MQ below (k_Qi D a c9 r9 σo A) args s 0 0 A) (F0 m 0 ls []) := by
  obtain ⟨hx, hb, hml, hown, hts, hr, hlk, hK, hN, hA⟩ := id C0
  unfold M_Se_triesMade at h
  refine lv_aload_n hx hb d_Se_triesMade_0 rfl (lv_at hl 0 rfl) ?_
  refine va_get (ci := 6) (C := R_Se) (T := T_Se) (N := 13) hx hb hts in_Se hown hK hP 2 kw_2 rfl 10 (by decide) (hts _ q_144) (fun _ h9 => h9) rfl d_Se_triesMade_1 ?_
  cases h
  exact k_iret hx hb hr hlk hP hS d_Se_triesMade_4
theorem K_Se_triesMade (l : Launch) (D : va_G) (a : Nat → Nat) (c9 : Nat → ClassId) (sz : Nat) {σ : kS} {r9 : Int32} {σo : kS} (h : M_Se_triesMade σ  = some (r9, σo)) : Met l y_Se_triesMade (Cond.code y_Se_triesMade c_Se_triesMade 1 (some .int) :: kG) rm_Se_triesMade (k_Pc D a c9 sz σ [.ref (a 2)]) (k_Qi D a c9 r9 σo (k_A a c9 σ sz)) 0 0 (k_A a c9 σ sz) :=
  k_met (Qf := k_Qi D a c9 r9 σo) (by decide) (Nat.le_of_ble_eq_true rfl) (fun p e s m args below meth c A ls C0 hP hD hS hl => B_Se_triesMade_0 C0 σ  s.heap [] ls hP hD hS hl h)
def rm_Se_found : Room := { frames := 0, cells := 0, slots := 0, locals := 0 }
def M_Se_found (σ : kS) : Option (Int32 × kS) := some (σ.1 6, σ)
set_option maxHeartbeats 4000000 in
set_option maxRecDepth 100000 in
theorem B_Se_found_0 {p : Program} {l : Launch} {e : Env} {s : State} {m : MethodId} {args : Array Value} {below : List Frame} {meth : Method} {c : Code} {D : va_G} {a : Nat → Nat} {c9 : Nat → ClassId} {A : Nat → Prop} {r9 : Int32} {σo : kS} (C0 : k_Cx D c9 p s m args meth c R_Se c_Se_found 1 (some .int) A) (σ : kS) (H : Heap) (locs : List Loc) (ls : Array Slot) (hP : va_P D kcl (kw a c9 σ) H) (hD : va_D A (kw a c9 σ)) (hS : va_S A s.heap H locs) (hl : lv_has ls 1 [(0, .ref (a 2))]) (h : M_Se_found σ  = some (r9, σo)) : W p l e rm_Se_found s m args below meth c H locs 0 0 (MQ below (k_Qi D a c9 r9 σo A) args s 0 0 A) (F0 m 0 ls []) := by
  obtain ⟨hx, hb, hml, hown, hts, hr, hlk, hK, hN, hA⟩ := id C0
  unfold M_Se_found at h
  refine lv_aload_n hx hb d_Se_found_0 rfl (lv_at hl 0 rfl) ?_
  refine va_get (ci := 6) (C := R_Se) (T := T_Se) (N := 13) hx hb hts in_Se hown hK hP 2 kw_2 rfl 11 (by decide) (hts _ q_145) (fun _ h9 => h9) rfl d_Se_found_1 ?_
  cases h
  exact k_iret hx hb hr hlk hP hS d_Se_found_4
theorem K_Se_found (l : Launch) (D : va_G) (a : Nat → Nat) (c9 : Nat → ClassId) (sz : Nat) {σ : kS} {r9 : Int32} {σo : kS} (h : M_Se_found σ  = some (r9, σo)) : Met l y_Se_found (Cond.code y_Se_found c_Se_found 1 (some .int) :: kG) rm_Se_found (k_Pc D a c9 sz σ [.ref (a 2)]) (k_Qi D a c9 r9 σo (k_A a c9 σ sz)) 0 0 (k_A a c9 σ sz) :=
  k_met (Qf := k_Qi D a c9 r9 σo) (by decide) (Nat.le_of_ble_eq_true rfl) (fun p e s m args below meth c A ls C0 hP hD hS hl => B_Se_found_0 C0 σ  s.heap [] ls hP hD hS hl h)
def rm_Se_isSpent : Room := { frames := 0, cells := 0, slots := 0, locals := 0 }
def M_Se_isSpent (σ : kS) : Option (Int32 × kS) := k_z (σ.1 7) (some (σ.1 7, σ))
set_option maxHeartbeats 4000000 in
set_option maxRecDepth 100000 in
theorem B_Se_isSpent_0 {p : Program} {l : Launch} {e : Env} {s : State} {m : MethodId} {args : Array Value} {below : List Frame} {meth : Method} {c : Code} {D : va_G} {a : Nat → Nat} {c9 : Nat → ClassId} {A : Nat → Prop} {r9 : Int32} {σo : kS} (C0 : k_Cx D c9 p s m args meth c R_Se c_Se_isSpent 1 (some .boolean) A) (σ : kS) (H : Heap) (locs : List Loc) (ls : Array Slot) (hP : va_P D kcl (kw a c9 σ) H) (hD : va_D A (kw a c9 σ)) (hS : va_S A s.heap H locs) (hl : lv_has ls 1 [(0, .ref (a 2))]) (h : M_Se_isSpent σ  = some (r9, σo)) : W p l e rm_Se_isSpent s m args below meth c H locs 0 0 (MQ below (k_Qi D a c9 r9 σo A) args s 0 0 A) (F0 m 0 ls []) := by
  obtain ⟨hx, hb, hml, hown, hts, hr, hlk, hK, hN, hA⟩ := id C0
  unfold M_Se_isSpent at h
  refine lv_aload_n hx hb d_Se_isSpent_0 rfl (lv_at hl 0 rfl) ?_
  refine va_get (ci := 6) (C := R_Se) (T := T_Se) (N := 13) hx hb hts in_Se hown hK hP 2 kw_2 rfl 12 (by decide) (hts _ q_146) (fun _ h9 => h9) rfl d_Se_isSpent_1 ?_
  obtain ⟨hz, h⟩ := k_z_e h
  cases h
  exact k_zret hz hx hb hr hlk hP hS d_Se_isSpent_4
theorem K_Se_isSpent (l : Launch) (D : va_G) (a : Nat → Nat) (c9 : Nat → ClassId) (sz : Nat) {σ : kS} {r9 : Int32} {σo : kS} (h : M_Se_isSpent σ  = some (r9, σo)) : Met l y_Se_isSpent (Cond.code y_Se_isSpent c_Se_isSpent 1 (some .boolean) :: kG) rm_Se_isSpent (k_Pc D a c9 sz σ [.ref (a 2)]) (k_Qi D a c9 r9 σo (k_A a c9 σ sz)) 0 0 (k_A a c9 σ sz) :=
  k_met (Qf := k_Qi D a c9 r9 σo) (by decide) (Nat.le_of_ble_eq_true rfl) (fun p e s m args below meth c A ls C0 hP hD hS hl => B_Se_isSpent_0 C0 σ  s.heap [] ls hP hD hS hl h)
def rm_Se_clear : Room := { frames := 2, cells := 0, slots := 0, locals := 43 }
def M_Se_clear (σ : kS) : Option (Int32 × kS) := k_call (M_Mt_clear σ) fun _ σ2 => k_call (M_Nm_clear σ2) fun _ σ5 => k_set σ5 5 (0) fun σ7 => k_set σ7 6 (0) fun σ8 => k_set σ8 7 (0) fun σ9 => some (0, σ9)
set_option maxHeartbeats 4000000 in
set_option maxRecDepth 100000 in
theorem B_Se_clear_0 {p : Program} {l : Launch} {e : Env} {s : State} {m : MethodId} {args : Array Value} {below : List Frame} {meth : Method} {c : Code} {D : va_G} {a : Nat → Nat} {c9 : Nat → ClassId} {A : Nat → Prop} {r9 : Int32} {σo : kS} (C0 : k_Cx D c9 p s m args meth c R_Se c_Se_clear 1 none A) (σ : kS) (H : Heap) (locs : List Loc) (ls : Array Slot) (hP : va_P D kcl (kw a c9 σ) H) (hD : va_D A (kw a c9 σ)) (hS : va_S A s.heap H locs) (hl : lv_has ls 1 [(0, .ref (a 2))]) (h : M_Se_clear σ  = some (r9, σo)) : W p l e rm_Se_clear s m args below meth c H locs 0 0 (MQ below (k_Qv D a c9 σo A) args s 0 0 A) (F0 m 0 ls []) := by
  obtain ⟨hx, hb, hml, hown, hts, hr, hlk, hK, hN, hA⟩ := id C0
  unfold M_Se_clear at h
  refine lv_aload_n hx hb d_Se_clear_0 rfl (lv_at hl 0 rfl) ?_
  refine va_get (ci := 6) (C := R_Se) (T := T_Se) (N := 13) hx hb hts in_Se hown hK hP 2 kw_2 rfl 3 (by decide) (hts _ q_137) (fun _ h9 => h9) rfl d_Se_clear_1 ?_
  obtain ⟨v1, σ2, hc3, h⟩ := k_call_e h
  refine k_callv (va_runV (As := []) (rest := []) ⟨hx, hb, hml, hown, hts⟩ (K_Mt_clear l D a c9 H.size hc3) (cwV 0 hts (k_gV q_446 q_447 q_448 q_6 q_449) rfl rfl rfl h_Mt_clear ⟨Nat.le_of_ble_eq_true rfl, Nat.le_of_ble_eq_true rfl⟩) (k_preV (ci := 3) (q0 := 5) rfl kw_5 hP hK hN hD) rfl rfl hl.1 rfl (lv_room (Nat.le_of_ble_eq_true rfl)) d_Se_clear_4 ⟨Nat.zero_le _, Nat.zero_le _⟩) hD hS hA (fun H locs hP hD hS => ?_)
  refine lv_aload_n hx hb d_Se_clear_7 rfl (lv_at hl 0 rfl) ?_
  refine va_get (ci := 6) (C := R_Se) (T := T_Se) (N := 13) hx hb hts in_Se hown hK hP 2 kw_2 rfl 2 (by decide) (hts _ q_136) (fun _ h9 => h9) rfl d_Se_clear_8 ?_
  obtain ⟨v4, σ5, hc6, h⟩ := k_call_e h
  refine k_callv (va_runV (As := []) (rest := []) ⟨hx, hb, hml, hown, hts⟩ (K_Nm_clear l D a c9 H.size hc6) (cwV 0 hts (k_gV q_450 q_451 q_452 q_5 q_453) rfl rfl rfl h_Nm_clear ⟨Nat.le_of_ble_eq_true rfl, Nat.le_of_ble_eq_true rfl⟩) (k_preV (ci := 4) (q0 := 4) rfl kw_4 hP hK hN hD) rfl rfl hl.1 rfl (lv_room (Nat.le_of_ble_eq_true rfl)) d_Se_clear_11 ⟨Nat.zero_le _, Nat.zero_le _⟩) hD hS hA (fun H locs hP hD hS => ?_)
  refine lv_aload_n hx hb d_Se_clear_14 rfl (lv_at hl 0 rfl) ?_
  refine lv_iconst (v := 0) hx hb d_Se_clear_15 (by decide) ?_
  obtain ⟨σ7, eσ7, h⟩ := k_set_e h
  refine va_put (ci := 6) (v := .int 0) (ty := .int) (C := R_Se) (T := T_Se) (N := 13) hx hb hts in_Se t_Se t_Se_ok n_Se hown hK hP hD hS 2 kw_2 rfl 10 (by decide) (hts _ q_144) (fun _ h9 => h9) rfl (by decide +kernel) rfl rfl (Nat.le_of_ble_eq_true rfl) d_Se_clear_16 (fun H locs hP hD hS => ?_)
  replace hP := k_mvP (kw_f2_10.trans (congrArg _ eσ7.symm)) hP
  replace hD := k_mvD (kw_f2_10.trans (congrArg _ eσ7.symm)) hD
  refine lv_aload_n hx hb d_Se_clear_19 rfl (lv_at hl 0 rfl) ?_
  refine lv_iconst (v := 0) hx hb d_Se_clear_20 (by decide) ?_
  obtain ⟨σ8, eσ8, h⟩ := k_set_e h
  refine va_put (ci := 6) (v := .int 0) (ty := .int) (C := R_Se) (T := T_Se) (N := 13) hx hb hts in_Se t_Se t_Se_ok n_Se hown hK hP hD hS 2 kw_2 rfl 11 (by decide) (hts _ q_145) (fun _ h9 => h9) rfl (by decide +kernel) rfl rfl (Nat.le_of_ble_eq_true rfl) d_Se_clear_21 (fun H locs hP hD hS => ?_)
  replace hP := k_mvP (kw_f2_11.trans (congrArg _ eσ8.symm)) hP
  replace hD := k_mvD (kw_f2_11.trans (congrArg _ eσ8.symm)) hD
  refine lv_aload_n hx hb d_Se_clear_24 rfl (lv_at hl 0 rfl) ?_
  refine lv_iconst (v := 0) hx hb d_Se_clear_25 (by decide) ?_
  obtain ⟨σ9, eσ9, h⟩ := k_set_e h
  refine va_put (ci := 6) (v := .int 0) (ty := .boolean) (C := R_Se) (T := T_Se) (N := 13) hx hb hts in_Se t_Se t_Se_ok n_Se hown hK hP hD hS 2 kw_2 rfl 12 (by decide) (hts _ q_146) (fun _ h9 => h9) rfl (by decide +kernel) rfl rfl (Nat.le_of_ble_eq_true rfl) d_Se_clear_26 (fun H locs hP hD hS => ?_)
  replace hP := k_mvP (kw_f2_12.trans (congrArg _ eσ9.symm)) hP
  replace hD := k_mvD (kw_f2_12.trans (congrArg _ eσ9.symm)) hD
  cases h
  exact k_vret hx hb hr hlk hP hS d_Se_clear_29
theorem K_Se_clear (l : Launch) (D : va_G) (a : Nat → Nat) (c9 : Nat → ClassId) (sz : Nat) {σ : kS} {r9 : Int32} {σo : kS} (h : M_Se_clear σ  = some (r9, σo)) : Met l y_Se_clear (Cond.code y_Se_clear c_Se_clear 1 none :: kG) rm_Se_clear (k_Pc D a c9 sz σ [.ref (a 2)]) (k_Qv D a c9 σo (k_A a c9 σ sz)) 0 0 (k_A a c9 σ sz) :=
  k_met (Qf := k_Qv D a c9 σo) (by decide) (Nat.le_of_ble_eq_true rfl) (fun p e s m args below meth c A ls C0 hP hD hS hl => B_Se_clear_0 C0 σ  s.heap [] ls hP hD hS hl h)
def rm_Se_release : Room := { frames := 1, cells := 0, slots := 0, locals := 22 }
def M_Se_release_36 (σ : kS) (x1 : Int32) : Option (Int32 × kS) := k_call (M_Pl_treeAt σ x1) fun v1 σ2 => k_call (M_F_isHole σ2 v1) fun v4 σ5 => if v4 = 0 then (some (0, σ5)) else (k_call (M_F_nameOf σ5 v1) fun v8 σ9 => k_call (M_Nm_takeBack σ9 v8 x1) fun _ σ12 => some (0, σ12))
set_option maxHeartbeats 4000000 in
set_option maxRecDepth 100000 in
theorem B_Se_release_36 {p : Program} {l : Launch} {e : Env} {s : State} {m : MethodId} {args : Array Value} {below : List Frame} {meth : Method} {c : Code} {D : va_G} {a : Nat → Nat} {c9 : Nat → ClassId} {A : Nat → Prop} {r9 : Int32} {σo : kS} (C0 : k_Cx D c9 p s m args meth c R_Se c_Se_release 3 none A) (σ : kS) (x1 : Int32) (H : Heap) (locs : List Loc) (ls : Array Slot) (hP : va_P D kcl (kw a c9 σ) H) (hD : va_D A (kw a c9 σ)) (hS : va_S A s.heap H locs) (hl : lv_has ls 3 [(0, .ref (a 2)), (1, .int x1)]) (h : M_Se_release_36 σ x1 = some (r9, σo)) : W p l e rm_Se_release s m args below meth c H locs 0 0 (MQ below (k_Qv D a c9 σo A) args s 0 0 A) (F0 m 36 ls []) := by
  obtain ⟨hx, hb, hml, hown, hts, hr, hlk, hK, hN, hA⟩ := id C0
  unfold M_Se_release_36 at h
  refine lv_aload_n hx hb d_Se_release_36 rfl (lv_at hl 0 rfl) ?_
  refine va_get (ci := 6) (C := R_Se) (T := T_Se) (N := 13) hx hb hts in_Se hown hK hP 2 kw_2 rfl 1 (by decide) (hts _ q_135) (fun _ h9 => h9) rfl d_Se_release_37 ?_
  refine lv_iload_n hx hb d_Se_release_40 rfl (lv_at hl 1 rfl) ?_
  obtain ⟨v1, σ2, hc3, h⟩ := k_call_e h
  refine k_calli (va_runV (As := [.int x1]) (rest := []) ⟨hx, hb, hml, hown, hts⟩ (K_Pl_treeAt l D a c9 H.size hc3) (cwV 1 hts (k_gV q_477 q_478 q_479 q_4 q_480) rfl rfl rfl h_Pl_treeAt ⟨Nat.le_of_ble_eq_true rfl, Nat.le_of_ble_eq_true rfl⟩) (k_preV (ci := 5) (q0 := 3) rfl kw_3 hP hK hN hD) rfl rfl hl.1 rfl (lv_room (Nat.le_of_ble_eq_true rfl)) d_Se_release_41 ⟨Nat.zero_le _, Nat.zero_le _⟩) hD hS hA (fun H locs hP hD hS => ?_)
  refine lv_istore_n (lv' := [(2, .int v1), (0, .ref (a 2)), (1, .int x1)]) hx hb d_Se_release_44 rfl hl (by decide) rfl (fun ls hl => ?_)
  refine lv_aload_n hx hb d_Se_release_45 rfl (lv_at hl 1 rfl) ?_
  refine va_get (ci := 6) (C := R_Se) (T := T_Se) (N := 13) hx hb hts in_Se hown hK hP 2 kw_2 rfl 0 (by decide) (hts _ q_134) (fun _ h9 => h9) rfl d_Se_release_46 ?_
  refine lv_iload_n hx hb d_Se_release_49 rfl (lv_at hl 0 rfl) ?_
  obtain ⟨v4, σ5, hc6, h⟩ := k_call_e h
  refine k_calli (va_runV (As := [.int v1]) (rest := []) ⟨hx, hb, hml, hown, hts⟩ (K_F_isHole l D a c9 H.size hc6) (cwV 1 hts (k_gV q_481 q_414 q_415 q_2 q_416) rfl rfl rfl h_F_isHole ⟨Nat.le_of_ble_eq_true rfl, Nat.le_of_ble_eq_true rfl⟩) (k_preV (ci := 2) (q0 := 1) rfl kw_1 hP hK hN hD) rfl rfl hl.1 rfl (lv_room (Nat.le_of_ble_eq_true rfl)) d_Se_release_50 ⟨Nat.zero_le _, Nat.zero_le _⟩) hD hS hA (fun H locs hP hD hS => ?_)
  refine lv_if_eq (tgt := 72) hx hb d_Se_release_53 (by decide) (fun cn7 => ?_) (fun cn7 => ?_)
  · replace h := (if_pos cn7).symm.trans h
    cases h
    exact k_vret hx hb hr hlk hP hS d_Se_release_72
  · replace h := (if_neg cn7).symm.trans h
    refine lv_aload_n hx hb d_Se_release_56 rfl (lv_at hl 1 rfl) ?_
    refine va_get (ci := 6) (C := R_Se) (T := T_Se) (N := 13) hx hb hts in_Se hown hK hP 2 kw_2 rfl 2 (by decide) (hts _ q_136) (fun _ h9 => h9) rfl d_Se_release_57 ?_
    refine lv_aload_n hx hb d_Se_release_60 rfl (lv_at hl 1 rfl) ?_
    refine va_get (ci := 6) (C := R_Se) (T := T_Se) (N := 13) hx hb hts in_Se hown hK hP 2 kw_2 rfl 0 (by decide) (hts _ q_134) (fun _ h9 => h9) rfl d_Se_release_61 ?_
    refine lv_iload_n hx hb d_Se_release_64 rfl (lv_at hl 0 rfl) ?_
    obtain ⟨v8, σ9, hc10, h⟩ := k_call_e h
    refine k_calli (va_runV (As := [.int v1]) (rest := [.ref (a 4)]) ⟨hx, hb, hml, hown, hts⟩ (K_F_nameOf l D a c9 H.size hc10) (cwV 1 hts (k_gV q_482 q_483 q_484 q_2 q_485) rfl rfl rfl h_F_nameOf ⟨Nat.le_of_ble_eq_true rfl, Nat.le_of_ble_eq_true rfl⟩) (k_preV (ci := 2) (q0 := 1) rfl kw_1 hP hK hN hD) rfl rfl hl.1 rfl (lv_room (Nat.le_of_ble_eq_true rfl)) d_Se_release_65 ⟨Nat.zero_le _, Nat.zero_le _⟩) hD hS hA (fun H locs hP hD hS => ?_)
    refine lv_iload_n hx hb d_Se_release_68 rfl (lv_at hl 2 rfl) ?_
    obtain ⟨v11, σ12, hc13, h⟩ := k_call_e h
    refine k_callv (va_runV (As := [.int v8, .int x1]) (rest := []) ⟨hx, hb, hml, hown, hts⟩ (K_Nm_takeBack l D a c9 H.size hc13) (cwV 2 hts (k_gV q_486 q_487 q_488 q_5 q_489) rfl rfl rfl h_Nm_takeBack ⟨Nat.le_of_ble_eq_true rfl, Nat.le_of_ble_eq_true rfl⟩) (k_preV (ci := 4) (q0 := 4) rfl kw_4 hP hK hN hD) rfl rfl hl.1 rfl (lv_room (Nat.le_of_ble_eq_true rfl)) d_Se_release_69 ⟨Nat.zero_le _, Nat.zero_le _⟩) hD hS hA (fun H locs hP hD hS => ?_)
    cases h
    exact k_vret hx hb hr hlk hP hS d_Se_release_72
def M_Se_release (σ : kS) (x1 : Int32) : Option (Int32 × kS) := if x1 ≤ 0 then (M_Se_release_36 σ x1) else (k_ld (σ.2.1 14) 70 (x1) fun v2 => if v2 = (-1) then (M_Se_release_36 σ x1) else (k_call (M_Pl_parentOf σ x1) fun v4 σ5 => k_ld (σ5.2.1 16) 70 (v4) fun v7 => k_ld (σ5.2.1 14) 70 (x1) fun v8 => k_st σ5 16 70 (v4) ((v7 ||| v8)) fun σ9 => M_Se_release_36 σ9 x1))
set_option maxHeartbeats 4000000 in
set_option maxRecDepth 100000 in
theorem B_Se_release_0 {p : Program} {l : Launch} {e : Env} {s : State} {m : MethodId} {args : Array Value} {below : List Frame} {meth : Method} {c : Code} {D : va_G} {a : Nat → Nat} {c9 : Nat → ClassId} {A : Nat → Prop} {r9 : Int32} {σo : kS} (C0 : k_Cx D c9 p s m args meth c R_Se c_Se_release 3 none A) (σ : kS) (x1 : Int32) (H : Heap) (locs : List Loc) (ls : Array Slot) (hP : va_P D kcl (kw a c9 σ) H) (hD : va_D A (kw a c9 σ)) (hS : va_S A s.heap H locs) (hl : lv_has ls 3 [(0, .ref (a 2)), (1, .int x1)]) (h : M_Se_release σ x1 = some (r9, σo)) : W p l e rm_Se_release s m args below meth c H locs 0 0 (MQ below (k_Qv D a c9 σo A) args s 0 0 A) (F0 m 0 ls []) := by
  obtain ⟨hx, hb, hml, hown, hts, hr, hlk, hK, hN, hA⟩ := id C0
  unfold M_Se_release at h
  refine lv_iload_n hx hb d_Se_release_0 rfl (lv_at hl 1 rfl) ?_
  refine lv_if_le (tgt := 36) hx hb d_Se_release_1 (by decide) (fun cn1 => ?_) (fun cn1 => ?_)
  · replace h := (if_pos cn1).symm.trans h
    exact B_Se_release_36 C0 _ _ H locs ls hP hD hS (lv_sub hl [0, 1] rfl) h
  · replace h := (if_neg cn1).symm.trans h
    refine lv_aload_n hx hb d_Se_release_4 rfl (lv_at hl 0 rfl) ?_
    refine va_get (ci := 6) (C := R_Se) (T := T_Se) (N := 13) hx hb hts in_Se hown hK hP 2 kw_2 rfl 4 (by decide) (hts _ q_138) (fun _ h9 => h9) rfl d_Se_release_5 ?_
    refine lv_iload_n hx hb d_Se_release_8 rfl (lv_at hl 1 rfl) ?_
    obtain ⟨v2, ev2, hv2, h⟩ := k_ld_e h
    refine va_iald hx hb hK hP 21 0 kw_21 rfl hv2 d_Se_release_9 (k_top ev2 ?_)
    refine lv_iconst (v := (-1)) hx hb d_Se_release_10 (by decide) ?_
    refine lv_icmp_eq (tgt := 36) hx hb d_Se_release_11 (by decide) (fun cn3 => ?_) (fun cn3 => ?_)
    · replace h := (if_pos cn3).symm.trans h
      exact B_Se_release_36 C0 _ _ H locs ls hP hD hS (lv_sub hl [0, 1] rfl) h
    · replace h := (if_neg cn3).symm.trans h
      refine lv_aload_n hx hb d_Se_release_14 rfl (lv_at hl 0 rfl) ?_
      refine va_get (ci := 6) (C := R_Se) (T := T_Se) (N := 13) hx hb hts in_Se hown hK hP 2 kw_2 rfl 6 (by decide) (hts _ q_140) (fun _ h9 => h9) rfl d_Se_release_15 ?_
      refine lv_aload_n hx hb d_Se_release_18 rfl (lv_at hl 0 rfl) ?_
      refine va_get (ci := 6) (C := R_Se) (T := T_Se) (N := 13) hx hb hts in_Se hown hK hP 2 kw_2 rfl 1 (by decide) (hts _ q_135) (fun _ h9 => h9) rfl d_Se_release_19 ?_
      refine lv_iload_n hx hb d_Se_release_22 rfl (lv_at hl 1 rfl) ?_
      obtain ⟨v4, σ5, hc6, h⟩ := k_call_e h
      refine k_calli (va_runV (As := [.int x1]) (rest := [.ref (a 23)]) ⟨hx, hb, hml, hown, hts⟩ (K_Pl_parentOf l D a c9 H.size hc6) (cwV 1 hts (k_gV q_473 q_474 q_475 q_4 q_476) rfl rfl rfl h_Pl_parentOf ⟨Nat.le_of_ble_eq_true rfl, Nat.le_of_ble_eq_true rfl⟩) (k_preV (ci := 5) (q0 := 3) rfl kw_3 hP hK hN hD) rfl rfl hl.1 rfl (lv_room (Nat.le_of_ble_eq_true rfl)) d_Se_release_23 ⟨Nat.zero_le _, Nat.zero_le _⟩) hD hS hA (fun H locs hP hD hS => ?_)
      refine lv_dup2_11 hx hb d_Se_release_26 rfl rfl ?_
      obtain ⟨v7, ev7, hv7, h⟩ := k_ld_e h
      refine va_iald hx hb hK hP 23 0 kw_23 rfl hv7 d_Se_release_27 (k_top ev7 ?_)
      refine lv_aload_n hx hb d_Se_release_28 rfl (lv_at hl 0 rfl) ?_
      refine va_get (ci := 6) (C := R_Se) (T := T_Se) (N := 13) hx hb hts in_Se hown hK hP 2 kw_2 rfl 4 (by decide) (hts _ q_138) (fun _ h9 => h9) rfl d_Se_release_29 ?_
      refine lv_iload_n hx hb d_Se_release_32 rfl (lv_at hl 1 rfl) ?_
      obtain ⟨v8, ev8, hv8, h⟩ := k_ld_e h
      refine va_iald hx hb hK hP 21 0 kw_21 rfl hv8 d_Se_release_33 (k_top ev8 ?_)
      refine lv_ior hx hb d_Se_release_34 ?_
      obtain ⟨σ9, eσ9, hiσ9, h⟩ := k_st_e h
      refine va_iast hx hb hK hP hD hS 23 0 kw_23 rfl hiσ9 d_Se_release_35 (fun H locs hP hD hS => ?_)
      replace hP := k_mvP (kw_s23.trans (congrArg _ eσ9.symm)) hP
      replace hD := k_mvD (kw_s23.trans (congrArg _ eσ9.symm)) hD
      exact B_Se_release_36 C0 _ _ H locs ls hP hD hS (lv_sub hl [0, 1] rfl) h
theorem K_Se_release (l : Launch) (D : va_G) (a : Nat → Nat) (c9 : Nat → ClassId) (sz : Nat) {σ : kS} {x1 : Int32} {r9 : Int32} {σo : kS} (h : M_Se_release σ x1 = some (r9, σo)) : Met l y_Se_release (Cond.code y_Se_release c_Se_release 3 none :: kG) rm_Se_release (k_Pc D a c9 sz σ [.ref (a 2), .int x1]) (k_Qv D a c9 σo (k_A a c9 σ sz)) 0 0 (k_A a c9 σ sz) :=
  k_met (Qf := k_Qv D a c9 σo) (by decide) (Nat.le_of_ble_eq_true rfl) (fun p e s m args below meth c A ls C0 hP hD hS hl => B_Se_release_0 C0 σ x1 s.heap [] ls hP hD hS hl h)
def rm_Se_firstChoice : Room := { frames := 1, cells := 0, slots := 0, locals := 25 }
def M_Se_firstChoice_24 (σ : kS) (x1 y0 : Int32) : Option (Int32 × kS) := k_call (M_Pl_parentOf σ x1) fun v1 σ2 => k_ld (σ2.2.1 16) 70 (v1) fun v4 => k_call (M_Pc_lowest σ2 v4 y0) fun v5 σ6 => some (v5, σ6)
set_option maxHeartbeats 4000000 in
set_option maxRecDepth 100000 in
theorem B_Se_firstChoice_24 {p : Program} {l : Launch} {e : Env} {s : State} {m : MethodId} {args : Array Value} {below : List Frame} {meth : Method} {c : Code} {D : va_G} {a : Nat → Nat} {c9 : Nat → ClassId} {A : Nat → Prop} {r9 : Int32} {σo : kS} (C0 : k_Cx D c9 p s m args meth c R_Se c_Se_firstChoice 3 (some .int) A) (σ : kS) (x1 y0 : Int32) (H : Heap) (locs : List Loc) (ls : Array Slot) (hP : va_P D kcl (kw a c9 σ) H) (hD : va_D A (kw a c9 σ)) (hS : va_S A s.heap H locs) (hl : lv_has ls 3 [(0, .ref (a 2)), (1, .int x1)]) (h : M_Se_firstChoice_24 σ x1 y0 = some (r9, σo)) : W p l e rm_Se_firstChoice s m args below meth c H locs 0 0 (MQ below (k_Qi D a c9 r9 σo A) args s 0 0 A) (F0 m 24 ls [.int y0]) := by
  obtain ⟨hx, hb, hml, hown, hts, hr, hlk, hK, hN, hA⟩ := id C0
  unfold M_Se_firstChoice_24 at h
  refine lv_istore_n (lv' := [(2, .int y0), (0, .ref (a 2)), (1, .int x1)]) hx hb d_Se_firstChoice_24 rfl hl (by decide) rfl (fun ls hl => ?_)
  refine lv_aload_n hx hb d_Se_firstChoice_25 rfl (lv_at hl 1 rfl) ?_
  refine va_get (ci := 6) (C := R_Se) (T := T_Se) (N := 13) hx hb hts in_Se hown hK hP 2 kw_2 rfl 6 (by decide) (hts _ q_140) (fun _ h9 => h9) rfl d_Se_firstChoice_26 ?_
  refine lv_aload_n hx hb d_Se_firstChoice_29 rfl (lv_at hl 1 rfl) ?_
  refine va_get (ci := 6) (C := R_Se) (T := T_Se) (N := 13) hx hb hts in_Se hown hK hP 2 kw_2 rfl 1 (by decide) (hts _ q_135) (fun _ h9 => h9) rfl d_Se_firstChoice_30 ?_
  refine lv_iload_n hx hb d_Se_firstChoice_33 rfl (lv_at hl 2 rfl) ?_
  obtain ⟨v1, σ2, hc3, h⟩ := k_call_e h
  refine k_calli (va_runV (As := [.int x1]) (rest := [.ref (a 23)]) ⟨hx, hb, hml, hown, hts⟩ (K_Pl_parentOf l D a c9 H.size hc3) (cwV 1 hts (k_gV q_473 q_474 q_475 q_4 q_476) rfl rfl rfl h_Pl_parentOf ⟨Nat.le_of_ble_eq_true rfl, Nat.le_of_ble_eq_true rfl⟩) (k_preV (ci := 5) (q0 := 3) rfl kw_3 hP hK hN hD) rfl rfl hl.1 rfl (lv_room (Nat.le_of_ble_eq_true rfl)) d_Se_firstChoice_34 ⟨Nat.zero_le _, Nat.zero_le _⟩) hD hS hA (fun H locs hP hD hS => ?_)
  obtain ⟨v4, ev4, hv4, h⟩ := k_ld_e h
  refine va_iald hx hb hK hP 23 0 kw_23 rfl hv4 d_Se_firstChoice_37 (k_top ev4 ?_)
  refine lv_iload_n hx hb d_Se_firstChoice_38 rfl (lv_at hl 0 rfl) ?_
  obtain ⟨v5, σ6, hc7, h⟩ := k_call_e h
  refine k_calli (va_runS (As := [.int v4, .int y0]) (rest := []) ⟨hx, hb, hml, hown, hts⟩ (K_Pc_lowest l D a c9 H.size hc7) (va_cwS 2 hts (k_gS q_502 q_503 q_16 q_504) rfl rfl rfl h_Pc_lowest.2 ⟨Nat.le_of_ble_eq_true rfl, Nat.le_of_ble_eq_true rfl⟩) (k_preS hP hK hN hD) rfl rfl hl.1 rfl (lv_room (Nat.le_of_ble_eq_true rfl)) d_Se_firstChoice_39 ⟨Nat.zero_le _, Nat.zero_le _⟩) hD hS hA (fun H locs hP hD hS => ?_)
  cases h
  exact k_iret hx hb hr hlk hP hS d_Se_firstChoice_42
def M_Se_firstChoice (σ : kS) (x1 : Int32) : Option (Int32 × kS) := k_call (M_Pl_treeAt σ x1) fun v1 σ2 => k_call (M_F_isHoleOfKind σ2 v1 3) fun v4 σ5 => if v4 = 0 then (M_Se_firstChoice_24 σ5 x1 1) else (M_Se_firstChoice_24 σ5 x1 0)
set_option maxHeartbeats 4000000 in
set_option maxRecDepth 100000 in
theorem B_Se_firstChoice_0 {p : Program} {l : Launch} {e : Env} {s : State} {m : MethodId} {args : Array Value} {below : List Frame} {meth : Method} {c : Code} {D : va_G} {a : Nat → Nat} {c9 : Nat → ClassId} {A : Nat → Prop} {r9 : Int32} {σo : kS} (C0 : k_Cx D c9 p s m args meth c R_Se c_Se_firstChoice 3 (some .int) A) (σ : kS) (x1 : Int32) (H : Heap) (locs : List Loc) (ls : Array Slot) (hP : va_P D kcl (kw a c9 σ) H) (hD : va_D A (kw a c9 σ)) (hS : va_S A s.heap H locs) (hl : lv_has ls 3 [(0, .ref (a 2)), (1, .int x1)]) (h : M_Se_firstChoice σ x1 = some (r9, σo)) : W p l e rm_Se_firstChoice s m args below meth c H locs 0 0 (MQ below (k_Qi D a c9 r9 σo A) args s 0 0 A) (F0 m 0 ls []) := by
  obtain ⟨hx, hb, hml, hown, hts, hr, hlk, hK, hN, hA⟩ := id C0
  unfold M_Se_firstChoice at h
  refine lv_aload_n hx hb d_Se_firstChoice_0 rfl (lv_at hl 0 rfl) ?_
  refine va_get (ci := 6) (C := R_Se) (T := T_Se) (N := 13) hx hb hts in_Se hown hK hP 2 kw_2 rfl 0 (by decide) (hts _ q_134) (fun _ h9 => h9) rfl d_Se_firstChoice_1 ?_
  refine lv_aload_n hx hb d_Se_firstChoice_4 rfl (lv_at hl 0 rfl) ?_
  refine va_get (ci := 6) (C := R_Se) (T := T_Se) (N := 13) hx hb hts in_Se hown hK hP 2 kw_2 rfl 1 (by decide) (hts _ q_135) (fun _ h9 => h9) rfl d_Se_firstChoice_5 ?_
  refine lv_iload_n hx hb d_Se_firstChoice_8 rfl (lv_at hl 1 rfl) ?_
  obtain ⟨v1, σ2, hc3, h⟩ := k_call_e h
  refine k_calli (va_runV (As := [.int x1]) (rest := [.ref (a 1)]) ⟨hx, hb, hml, hown, hts⟩ (K_Pl_treeAt l D a c9 H.size hc3) (cwV 1 hts (k_gV q_477 q_478 q_479 q_4 q_480) rfl rfl rfl h_Pl_treeAt ⟨Nat.le_of_ble_eq_true rfl, Nat.le_of_ble_eq_true rfl⟩) (k_preV (ci := 5) (q0 := 3) rfl kw_3 hP hK hN hD) rfl rfl hl.1 rfl (lv_room (Nat.le_of_ble_eq_true rfl)) d_Se_firstChoice_9 ⟨Nat.zero_le _, Nat.zero_le _⟩) hD hS hA (fun H locs hP hD hS => ?_)
  refine lv_iconst (v := 3) hx hb d_Se_firstChoice_12 (by decide) ?_
  obtain ⟨v4, σ5, hc6, h⟩ := k_call_e h
  refine k_calli (va_runV (As := [.int v1, .int 3]) (rest := []) ⟨hx, hb, hml, hown, hts⟩ (K_F_isHoleOfKind l D a c9 H.size hc6) (cwV 2 hts (k_gV q_498 q_499 q_500 q_2 q_501) rfl rfl rfl h_F_isHoleOfKind ⟨Nat.le_of_ble_eq_true rfl, Nat.le_of_ble_eq_true rfl⟩) (k_preV (ci := 2) (q0 := 1) rfl kw_1 hP hK hN hD) rfl rfl hl.1 rfl (lv_room (Nat.le_of_ble_eq_true rfl)) d_Se_firstChoice_13 ⟨Nat.zero_le _, Nat.zero_le _⟩) hD hS hA (fun H locs hP hD hS => ?_)
  refine lv_if_eq (tgt := 23) hx hb d_Se_firstChoice_16 (by decide) (fun cn7 => ?_) (fun cn7 => ?_)
  · replace h := (if_pos cn7).symm.trans h
    refine lv_iconst (v := 1) hx hb d_Se_firstChoice_23 (by decide) ?_
    exact B_Se_firstChoice_24 C0 _ _ _ H locs ls hP hD hS (lv_sub hl [0, 1] rfl) h
  · replace h := (if_neg cn7).symm.trans h
    refine lv_iconst (v := 0) hx hb d_Se_firstChoice_19 (by decide) ?_
    refine lv_goto (tgt := 24) hx hb d_Se_firstChoice_20 (by decide) ?_
    exact B_Se_firstChoice_24 C0 _ _ _ H locs ls hP hD hS (lv_sub hl [0, 1] rfl) h
theorem K_Se_firstChoice (l : Launch) (D : va_G) (a : Nat → Nat) (c9 : Nat → ClassId) (sz : Nat) {σ : kS} {x1 : Int32} {r9 : Int32} {σo : kS} (h : M_Se_firstChoice σ x1 = some (r9, σo)) : Met l y_Se_firstChoice (Cond.code y_Se_firstChoice c_Se_firstChoice 3 (some .int) :: kG) rm_Se_firstChoice (k_Pc D a c9 sz σ [.ref (a 2), .int x1]) (k_Qi D a c9 r9 σo (k_A a c9 σ sz)) 0 0 (k_A a c9 σ sz) :=
  k_met (Qf := k_Qi D a c9 r9 σo) (by decide) (Nat.le_of_ble_eq_true rfl) (fun p e s m args below meth c A ls C0 hP hD hS hl => B_Se_firstChoice_0 C0 σ x1 s.heap [] ls hP hD hS hl h)
def rm_Se_laterChoice : Room := { frames := 2, cells := 0, slots := 0, locals := 50 }
def M_Se_laterChoice (σ : kS) (x1 : Int32) : Option (Int32 × kS) := k_call (M_Pl_parentOf σ x1) fun v1 σ2 => k_call (M_Pl_treeAt σ2 v1) fun v4 σ5 => k_call (M_F_isAnyOrder σ5 v4) fun v7 σ8 => k_call (M_Pl_treeAt σ8 x1) fun v10 σ11 => k_call (M_F_takesSeveral σ11 v10) fun v13 σ14 => if v13 = 0 then (if v7 = 0 then (some ((-1), σ14)) else (k_ld (σ14.2.1 16) 70 (v1) fun v18 => k_ld (σ14.2.1 14) 70 (x1) fun v19 => k_call (M_Pc_behind σ14 v18 v19) fun v20 σ21 => k_call (M_Pc_lowest σ21 v20 1) fun v23 σ24 => some (v23, σ24))) else (if v7 = 0 then (k_ld (σ14.2.1 16) 70 (v1) fun v27 => k_ld (σ14.2.1 14) 70 (x1) fun v28 => k_call (M_In_bitCount σ14 v28) fun v29 σ30 => k_call (M_Pc_lowest σ30 v27 ((v29 + 1))) fun v32 σ33 => some (v32, σ33)) else (k_ld (σ14.2.1 16) 70 (v1) fun v35 => k_ld (σ14.2.1 14) 70 (x1) fun v36 => k_call (M_Pc_nextChoice σ14 v35 v36) fun v37 σ38 => some (v37, σ38)))
set_option maxHeartbeats 4000000 in
set_option maxRecDepth 100000 in
theorem B_Se_laterChoice_0 {p : Program} {l : Launch} {e : Env} {s : State} {m : MethodId} {args : Array Value} {below : List Frame} {meth : Method} {c : Code} {D : va_G} {a : Nat → Nat} {c9 : Nat → ClassId} {A : Nat → Prop} {r9 : Int32} {σo : kS} (C0 : k_Cx D c9 p s m args meth c R_Se c_Se_laterChoice 4 (some .int) A) (σ : kS) (x1 : Int32) (H : Heap) (locs : List Loc) (ls : Array Slot) (hP : va_P D kcl (kw a c9 σ) H) (hD : va_D A (kw a c9 σ)) (hS : va_S A s.heap H locs) (hl : lv_has ls 4 [(0, .ref (a 2)), (1, .int x1)]) (h : M_Se_laterChoice σ x1 = some (r9, σo)) : W p l e rm_Se_laterChoice s m args below meth c H locs 0 0 (MQ below (k_Qi D a c9 r9 σo A) args s 0 0 A) (F0 m 0 ls []) := by
  obtain ⟨hx, hb, hml, hown, hts, hr, hlk, hK, hN, hA⟩ := id C0
  unfold M_Se_laterChoice at h
  refine lv_aload_n hx hb d_Se_laterChoice_0 rfl (lv_at hl 0 rfl) ?_
  refine va_get (ci := 6) (C := R_Se) (T := T_Se) (N := 13) hx hb hts in_Se hown hK hP 2 kw_2 rfl 1 (by decide) (hts _ q_135) (fun _ h9 => h9) rfl d_Se_laterChoice_1 ?_
  refine lv_iload_n hx hb d_Se_laterChoice_4 rfl (lv_at hl 1 rfl) ?_
  obtain ⟨v1, σ2, hc3, h⟩ := k_call_e h
  refine k_calli (va_runV (As := [.int x1]) (rest := []) ⟨hx, hb, hml, hown, hts⟩ (K_Pl_parentOf l D a c9 H.size hc3) (cwV 1 hts (k_gV q_473 q_474 q_475 q_4 q_476) rfl rfl rfl h_Pl_parentOf ⟨Nat.le_of_ble_eq_true rfl, Nat.le_of_ble_eq_true rfl⟩) (k_preV (ci := 5) (q0 := 3) rfl kw_3 hP hK hN hD) rfl rfl hl.1 rfl (lv_room (Nat.le_of_ble_eq_true rfl)) d_Se_laterChoice_5 ⟨Nat.zero_le _, Nat.zero_le _⟩) hD hS hA (fun H locs hP hD hS => ?_)
  refine lv_istore_n (lv' := [(2, .int v1), (0, .ref (a 2)), (1, .int x1)]) hx hb d_Se_laterChoice_8 rfl hl (by decide) rfl (fun ls hl => ?_)
  refine lv_aload_n hx hb d_Se_laterChoice_9 rfl (lv_at hl 1 rfl) ?_
  refine va_get (ci := 6) (C := R_Se) (T := T_Se) (N := 13) hx hb hts in_Se hown hK hP 2 kw_2 rfl 0 (by decide) (hts _ q_134) (fun _ h9 => h9) rfl d_Se_laterChoice_10 ?_
  refine lv_aload_n hx hb d_Se_laterChoice_13 rfl (lv_at hl 1 rfl) ?_
  refine va_get (ci := 6) (C := R_Se) (T := T_Se) (N := 13) hx hb hts in_Se hown hK hP 2 kw_2 rfl 1 (by decide) (hts _ q_135) (fun _ h9 => h9) rfl d_Se_laterChoice_14 ?_
  refine lv_iload_n hx hb d_Se_laterChoice_17 rfl (lv_at hl 0 rfl) ?_
  obtain ⟨v4, σ5, hc6, h⟩ := k_call_e h
  refine k_calli (va_runV (As := [.int v1]) (rest := [.ref (a 1)]) ⟨hx, hb, hml, hown, hts⟩ (K_Pl_treeAt l D a c9 H.size hc6) (cwV 1 hts (k_gV q_477 q_478 q_479 q_4 q_480) rfl rfl rfl h_Pl_treeAt ⟨Nat.le_of_ble_eq_true rfl, Nat.le_of_ble_eq_true rfl⟩) (k_preV (ci := 5) (q0 := 3) rfl kw_3 hP hK hN hD) rfl rfl hl.1 rfl (lv_room (Nat.le_of_ble_eq_true rfl)) d_Se_laterChoice_18 ⟨Nat.zero_le _, Nat.zero_le _⟩) hD hS hA (fun H locs hP hD hS => ?_)
  obtain ⟨v7, σ8, hc9, h⟩ := k_call_e h
  refine k_calli (va_runV (As := [.int v4]) (rest := []) ⟨hx, hb, hml, hown, hts⟩ (K_F_isAnyOrder l D a c9 H.size hc9) (cwV 1 hts (k_gV q_509 q_382 q_383 q_2 q_384) rfl rfl rfl h_F_isAnyOrder ⟨Nat.le_of_ble_eq_true rfl, Nat.le_of_ble_eq_true rfl⟩) (k_preV (ci := 2) (q0 := 1) rfl kw_1 hP hK hN hD) rfl rfl hl.1 rfl (lv_room (Nat.le_of_ble_eq_true rfl)) d_Se_laterChoice_21 ⟨Nat.zero_le _, Nat.zero_le _⟩) hD hS hA (fun H locs hP hD hS => ?_)
  refine lv_istore_n (lv' := [(3, .int v7), (2, .int v1), (0, .ref (a 2)), (1, .int x1)]) hx hb d_Se_laterChoice_24 rfl hl (by decide) rfl (fun ls hl => ?_)
  refine lv_aload_n hx hb d_Se_laterChoice_25 rfl (lv_at hl 2 rfl) ?_
  refine va_get (ci := 6) (C := R_Se) (T := T_Se) (N := 13) hx hb hts in_Se hown hK hP 2 kw_2 rfl 0 (by decide) (hts _ q_134) (fun _ h9 => h9) rfl d_Se_laterChoice_26 ?_
  refine lv_aload_n hx hb d_Se_laterChoice_29 rfl (lv_at hl 2 rfl) ?_
  refine va_get (ci := 6) (C := R_Se) (T := T_Se) (N := 13) hx hb hts in_Se hown hK hP 2 kw_2 rfl 1 (by decide) (hts _ q_135) (fun _ h9 => h9) rfl d_Se_laterChoice_30 ?_
  refine lv_iload_n hx hb d_Se_laterChoice_33 rfl (lv_at hl 3 rfl) ?_
  obtain ⟨v10, σ11, hc12, h⟩ := k_call_e h
  refine k_calli (va_runV (As := [.int x1]) (rest := [.ref (a 1)]) ⟨hx, hb, hml, hown, hts⟩ (K_Pl_treeAt l D a c9 H.size hc12) (cwV 1 hts (k_gV q_477 q_478 q_479 q_4 q_480) rfl rfl rfl h_Pl_treeAt ⟨Nat.le_of_ble_eq_true rfl, Nat.le_of_ble_eq_true rfl⟩) (k_preV (ci := 5) (q0 := 3) rfl kw_3 hP hK hN hD) rfl rfl hl.1 rfl (lv_room (Nat.le_of_ble_eq_true rfl)) d_Se_laterChoice_34 ⟨Nat.zero_le _, Nat.zero_le _⟩) hD hS hA (fun H locs hP hD hS => ?_)
  obtain ⟨v13, σ14, hc15, h⟩ := k_call_e h
  refine k_calli (va_runV (As := [.int v10]) (rest := []) ⟨hx, hb, hml, hown, hts⟩ (K_F_takesSeveral l D a c9 H.size hc15) (cwV 1 hts (k_gV q_510 q_511 q_512 q_2 q_513) rfl rfl rfl h_F_takesSeveral ⟨Nat.le_of_ble_eq_true rfl, Nat.le_of_ble_eq_true rfl⟩) (k_preV (ci := 2) (q0 := 1) rfl kw_1 hP hK hN hD) rfl rfl hl.1 rfl (lv_room (Nat.le_of_ble_eq_true rfl)) d_Se_laterChoice_37 ⟨Nat.zero_le _, Nat.zero_le _⟩) hD hS hA (fun H locs hP hD hS => ?_)
  refine lv_if_eq (tgt := 86) hx hb d_Se_laterChoice_40 (by decide) (fun cn16 => ?_) (fun cn16 => ?_)
  · replace h := (if_pos cn16).symm.trans h
    refine lv_iload_n hx hb d_Se_laterChoice_86 rfl (lv_at hl 0 rfl) ?_
    refine lv_if_eq (tgt := 112) hx hb d_Se_laterChoice_87 (by decide) (fun cn17 => ?_) (fun cn17 => ?_)
    · replace h := (if_pos cn17).symm.trans h
      refine lv_iconst (v := (-1)) hx hb d_Se_laterChoice_112 (by decide) ?_
      cases h
      exact k_iret hx hb hr hlk hP hS d_Se_laterChoice_113
    · replace h := (if_neg cn17).symm.trans h
      refine lv_aload_n hx hb d_Se_laterChoice_90 rfl (lv_at hl 2 rfl) ?_
      refine va_get (ci := 6) (C := R_Se) (T := T_Se) (N := 13) hx hb hts in_Se hown hK hP 2 kw_2 rfl 6 (by decide) (hts _ q_140) (fun _ h9 => h9) rfl d_Se_laterChoice_91 ?_
      refine lv_iload_n hx hb d_Se_laterChoice_94 rfl (lv_at hl 1 rfl) ?_
      obtain ⟨v18, ev18, hv18, h⟩ := k_ld_e h
      refine va_iald hx hb hK hP 23 0 kw_23 rfl hv18 d_Se_laterChoice_95 (k_top ev18 ?_)
      refine lv_aload_n hx hb d_Se_laterChoice_96 rfl (lv_at hl 2 rfl) ?_
      refine va_get (ci := 6) (C := R_Se) (T := T_Se) (N := 13) hx hb hts in_Se hown hK hP 2 kw_2 rfl 4 (by decide) (hts _ q_138) (fun _ h9 => h9) rfl d_Se_laterChoice_97 ?_
      refine lv_iload_n hx hb d_Se_laterChoice_100 rfl (lv_at hl 3 rfl) ?_
      obtain ⟨v19, ev19, hv19, h⟩ := k_ld_e h
      refine va_iald hx hb hK hP 21 0 kw_21 rfl hv19 d_Se_laterChoice_101 (k_top ev19 ?_)
      obtain ⟨v20, σ21, hc22, h⟩ := k_call_e h
      refine k_calli (va_runS (As := [.int v18, .int v19]) (rest := []) ⟨hx, hb, hml, hown, hts⟩ (K_Pc_behind l D a c9 H.size hc22) (va_cwS 2 hts (k_gS q_528 q_519 q_16 q_520) rfl rfl rfl h_Pc_behind.2 ⟨Nat.le_of_ble_eq_true rfl, Nat.le_of_ble_eq_true rfl⟩) (k_preS hP hK hN hD) rfl rfl hl.1 rfl (lv_room (Nat.le_of_ble_eq_true rfl)) d_Se_laterChoice_102 ⟨Nat.zero_le _, Nat.zero_le _⟩) hD hS hA (fun H locs hP hD hS => ?_)
      refine lv_iconst (v := 1) hx hb d_Se_laterChoice_105 (by decide) ?_
      obtain ⟨v23, σ24, hc25, h⟩ := k_call_e h
      refine k_calli (va_runS (As := [.int v20, .int 1]) (rest := []) ⟨hx, hb, hml, hown, hts⟩ (K_Pc_lowest l D a c9 H.size hc25) (va_cwS 2 hts (k_gS q_502 q_503 q_16 q_504) rfl rfl rfl h_Pc_lowest.2 ⟨Nat.le_of_ble_eq_true rfl, Nat.le_of_ble_eq_true rfl⟩) (k_preS hP hK hN hD) rfl rfl hl.1 rfl (lv_room (Nat.le_of_ble_eq_true rfl)) d_Se_laterChoice_106 ⟨Nat.zero_le _, Nat.zero_le _⟩) hD hS hA (fun H locs hP hD hS => ?_)
      refine lv_goto (tgt := 113) hx hb d_Se_laterChoice_109 (by decide) ?_
      cases h
      exact k_iret hx hb hr hlk hP hS d_Se_laterChoice_113
  · replace h := (if_neg cn16).symm.trans h
    refine lv_iload_n hx hb d_Se_laterChoice_43 rfl (lv_at hl 0 rfl) ?_
    refine lv_if_eq (tgt := 65) hx hb d_Se_laterChoice_44 (by decide) (fun cn26 => ?_) (fun cn26 => ?_)
    · replace h := (if_pos cn26).symm.trans h
      refine lv_aload_n hx hb d_Se_laterChoice_65 rfl (lv_at hl 2 rfl) ?_
      refine va_get (ci := 6) (C := R_Se) (T := T_Se) (N := 13) hx hb hts in_Se hown hK hP 2 kw_2 rfl 6 (by decide) (hts _ q_140) (fun _ h9 => h9) rfl d_Se_laterChoice_66 ?_
      refine lv_iload_n hx hb d_Se_laterChoice_69 rfl (lv_at hl 1 rfl) ?_
      obtain ⟨v27, ev27, hv27, h⟩ := k_ld_e h
      refine va_iald hx hb hK hP 23 0 kw_23 rfl hv27 d_Se_laterChoice_70 (k_top ev27 ?_)
      refine lv_aload_n hx hb d_Se_laterChoice_71 rfl (lv_at hl 2 rfl) ?_
      refine va_get (ci := 6) (C := R_Se) (T := T_Se) (N := 13) hx hb hts in_Se hown hK hP 2 kw_2 rfl 4 (by decide) (hts _ q_138) (fun _ h9 => h9) rfl d_Se_laterChoice_72 ?_
      refine lv_iload_n hx hb d_Se_laterChoice_75 rfl (lv_at hl 3 rfl) ?_
      obtain ⟨v28, ev28, hv28, h⟩ := k_ld_e h
      refine va_iald hx hb hK hP 21 0 kw_21 rfl hv28 d_Se_laterChoice_76 (k_top ev28 ?_)
      obtain ⟨v29, σ30, hc31, h⟩ := k_call_e h
      refine k_calli (va_runS (As := [.int v28]) (rest := [.int v27]) ⟨hx, hb, hml, hown, hts⟩ (K_In_bitCount l D a c9 H.size hc31) (va_cwS 1 hts (k_gS q_522 q_523 q_17 q_524) rfl rfl rfl h_In_bitCount.2 ⟨Nat.le_of_ble_eq_true rfl, Nat.le_of_ble_eq_true rfl⟩) (k_preS hP hK hN hD) rfl rfl hl.1 rfl (lv_room (Nat.le_of_ble_eq_true rfl)) d_Se_laterChoice_77 ⟨Nat.zero_le _, Nat.zero_le _⟩) hD hS hA (fun H locs hP hD hS => ?_)
      refine lv_iconst (v := 1) hx hb d_Se_laterChoice_80 (by decide) ?_
      refine lv_iadd hx hb d_Se_laterChoice_81 ?_
      obtain ⟨v32, σ33, hc34, h⟩ := k_call_e h
      refine k_calli (va_runS (As := [.int v27, .int ((v29 + 1))]) (rest := []) ⟨hx, hb, hml, hown, hts⟩ (K_Pc_lowest l D a c9 H.size hc34) (va_cwS 2 hts (k_gS q_502 q_503 q_16 q_504) rfl rfl rfl h_Pc_lowest.2 ⟨Nat.le_of_ble_eq_true rfl, Nat.le_of_ble_eq_true rfl⟩) (k_preS hP hK hN hD) rfl rfl hl.1 rfl (lv_room (Nat.le_of_ble_eq_true rfl)) d_Se_laterChoice_82 ⟨Nat.zero_le _, Nat.zero_le _⟩) hD hS hA (fun H locs hP hD hS => ?_)
      cases h
      exact k_iret hx hb hr hlk hP hS d_Se_laterChoice_85
    · replace h := (if_neg cn26).symm.trans h
      refine lv_aload_n hx hb d_Se_laterChoice_47 rfl (lv_at hl 2 rfl) ?_
      refine va_get (ci := 6) (C := R_Se) (T := T_Se) (N := 13) hx hb hts in_Se hown hK hP 2 kw_2 rfl 6 (by decide) (hts _ q_140) (fun _ h9 => h9) rfl d_Se_laterChoice_48 ?_
      refine lv_iload_n hx hb d_Se_laterChoice_51 rfl (lv_at hl 1 rfl) ?_
      obtain ⟨v35, ev35, hv35, h⟩ := k_ld_e h
      refine va_iald hx hb hK hP 23 0 kw_23 rfl hv35 d_Se_laterChoice_52 (k_top ev35 ?_)
      refine lv_aload_n hx hb d_Se_laterChoice_53 rfl (lv_at hl 2 rfl) ?_
      refine va_get (ci := 6) (C := R_Se) (T := T_Se) (N := 13) hx hb hts in_Se hown hK hP 2 kw_2 rfl 4 (by decide) (hts _ q_138) (fun _ h9 => h9) rfl d_Se_laterChoice_54 ?_
      refine lv_iload_n hx hb d_Se_laterChoice_57 rfl (lv_at hl 3 rfl) ?_
      obtain ⟨v36, ev36, hv36, h⟩ := k_ld_e h
      refine va_iald hx hb hK hP 21 0 kw_21 rfl hv36 d_Se_laterChoice_58 (k_top ev36 ?_)
      obtain ⟨v37, σ38, hc39, h⟩ := k_call_e h
      refine k_calli (va_runS (As := [.int v35, .int v36]) (rest := []) ⟨hx, hb, hml, hown, hts⟩ (K_Pc_nextChoice l D a c9 H.size hc39) (va_cwS 2 hts (k_gS q_515 q_516 q_16 q_517) rfl rfl rfl h_Pc_nextChoice.2 ⟨Nat.le_of_ble_eq_true rfl, Nat.le_of_ble_eq_true rfl⟩) (k_preS hP hK hN hD) rfl rfl hl.1 rfl (lv_room (Nat.le_of_ble_eq_true rfl)) d_Se_laterChoice_59 ⟨Nat.zero_le _, Nat.zero_le _⟩) hD hS hA (fun H locs hP hD hS => ?_)
      refine lv_goto (tgt := 85) hx hb d_Se_laterChoice_62 (by decide) ?_
      cases h
      exact k_iret hx hb hr hlk hP hS d_Se_laterChoice_85
theorem K_Se_laterChoice (l : Launch) (D : va_G) (a : Nat → Nat) (c9 : Nat → ClassId) (sz : Nat) {σ : kS} {x1 : Int32} {r9 : Int32} {σo : kS} (h : M_Se_laterChoice σ x1 = some (r9, σo)) : Met l y_Se_laterChoice (Cond.code y_Se_laterChoice c_Se_laterChoice 4 (some .int) :: kG) rm_Se_laterChoice (k_Pc D a c9 sz σ [.ref (a 2), .int x1]) (k_Qi D a c9 r9 σo (k_A a c9 σ sz)) 0 0 (k_A a c9 σ sz) :=
  k_met (Qf := k_Qi D a c9 r9 σo) (by decide) (Nat.le_of_ble_eq_true rfl) (fun p e s m args below meth c A ls C0 hP hD hS hl => B_Se_laterChoice_0 C0 σ x1 s.heap [] ls hP hD hS hl h)
def rm_Se_choose : Room := { frames := 3, cells := 0, slots := 0, locals := 73 }
def M_Se_choose_19 (σ : kS) (x1 y0 : Int32) : Option (Int32 × kS) := if y0 = 0 then (k_st σ 14 70 (0) ((-1)) fun σ2 => k_z (y0) (some (y0, σ2))) else (k_st σ 14 70 (0) (1) fun σ3 => k_z (y0) (some (y0, σ3)))
set_option maxHeartbeats 4000000 in
set_option maxRecDepth 100000 in
theorem B_Se_choose_19 {p : Program} {l : Launch} {e : Env} {s : State} {m : MethodId} {args : Array Value} {below : List Frame} {meth : Method} {c : Code} {D : va_G} {a : Nat → Nat} {c9 : Nat → ClassId} {A : Nat → Prop} {r9 : Int32} {σo : kS} (C0 : k_Cx D c9 p s m args meth c R_Se c_Se_choose 3 (some .boolean) A) (σ : kS) (x1 y0 : Int32) (H : Heap) (locs : List Loc) (ls : Array Slot) (hP : va_P D kcl (kw a c9 σ) H) (hD : va_D A (kw a c9 σ)) (hS : va_S A s.heap H locs) (hl : lv_has ls 3 [(0, .ref (a 2)), (1, .int x1)]) (h : M_Se_choose_19 σ x1 y0 = some (r9, σo)) : W p l e rm_Se_choose s m args below meth c H locs 0 0 (MQ below (k_Qi D a c9 r9 σo A) args s 0 0 A) (F0 m 19 ls [.int y0]) := by
  obtain ⟨hx, hb, hml, hown, hts, hr, hlk, hK, hN, hA⟩ := id C0
  unfold M_Se_choose_19 at h
  refine lv_istore_n (lv' := [(2, .int y0), (0, .ref (a 2)), (1, .int x1)]) hx hb d_Se_choose_19 rfl hl (by decide) rfl (fun ls hl => ?_)
  refine lv_aload_n hx hb d_Se_choose_20 rfl (lv_at hl 1 rfl) ?_
  refine va_get (ci := 6) (C := R_Se) (T := T_Se) (N := 13) hx hb hts in_Se hown hK hP 2 kw_2 rfl 4 (by decide) (hts _ q_138) (fun _ h9 => h9) rfl d_Se_choose_21 ?_
  refine lv_iconst (v := 0) hx hb d_Se_choose_24 (by decide) ?_
  refine lv_iload_n hx hb d_Se_choose_25 rfl (lv_at hl 0 rfl) ?_
  refine lv_if_eq (tgt := 33) hx hb d_Se_choose_26 (by decide) (fun cn1 => ?_) (fun cn1 => ?_)
  · replace h := (if_pos cn1).symm.trans h
    refine lv_iconst (v := (-1)) hx hb d_Se_choose_33 (by decide) ?_
    obtain ⟨σ2, eσ2, hiσ2, h⟩ := k_st_e h
    refine va_iast hx hb hK hP hD hS 21 0 kw_21 rfl hiσ2 d_Se_choose_34 (fun H locs hP hD hS => ?_)
    replace hP := k_mvP (kw_s21.trans (congrArg _ eσ2.symm)) hP
    replace hD := k_mvD (kw_s21.trans (congrArg _ eσ2.symm)) hD
    refine lv_iload_n hx hb d_Se_choose_35 rfl (lv_at hl 0 rfl) ?_
    obtain ⟨hz, h⟩ := k_z_e h
    cases h
    exact k_zret hz hx hb hr hlk hP hS d_Se_choose_36
  · replace h := (if_neg cn1).symm.trans h
    refine lv_iconst (v := 1) hx hb d_Se_choose_29 (by decide) ?_
    refine lv_goto (tgt := 34) hx hb d_Se_choose_30 (by decide) ?_
    obtain ⟨σ3, eσ3, hiσ3, h⟩ := k_st_e h
    refine va_iast hx hb hK hP hD hS 21 0 kw_21 rfl hiσ3 d_Se_choose_34 (fun H locs hP hD hS => ?_)
    replace hP := k_mvP (kw_s21.trans (congrArg _ eσ3.symm)) hP
    replace hD := k_mvD (kw_s21.trans (congrArg _ eσ3.symm)) hD
    refine lv_iload_n hx hb d_Se_choose_35 rfl (lv_at hl 0 rfl) ?_
    obtain ⟨hz, h⟩ := k_z_e h
    cases h
    exact k_zret hz hx hb hr hlk hP hS d_Se_choose_36
def M_Se_choose_60 (σ : kS) (x1 y0 : Int32) : Option (Int32 × kS) := k_st σ 14 70 (x1) (y0) fun σ1 => if y0 = (-1) then (some (0, σ1)) else (k_call (M_Pl_parentOf σ1 x1) fun v3 σ4 => k_ld (σ4.2.1 16) 70 (v3) fun v6 => k_st σ4 16 70 (v3) ((v6 &&& (y0 ^^^ (-1)))) fun σ7 => some (1, σ7))
set_option maxHeartbeats 4000000 in
set_option maxRecDepth 100000 in
theorem B_Se_choose_60 {p : Program} {l : Launch} {e : Env} {s : State} {m : MethodId} {args : Array Value} {below : List Frame} {meth : Method} {c : Code} {D : va_G} {a : Nat → Nat} {c9 : Nat → ClassId} {A : Nat → Prop} {r9 : Int32} {σo : kS} (C0 : k_Cx D c9 p s m args meth c R_Se c_Se_choose 3 (some .boolean) A) (σ : kS) (x1 y0 : Int32) (H : Heap) (locs : List Loc) (ls : Array Slot) (hP : va_P D kcl (kw a c9 σ) H) (hD : va_D A (kw a c9 σ)) (hS : va_S A s.heap H locs) (hl : lv_has ls 3 [(0, .ref (a 2)), (1, .int x1)]) (h : M_Se_choose_60 σ x1 y0 = some (r9, σo)) : W p l e rm_Se_choose s m args below meth c H locs 0 0 (MQ below (k_Qi D a c9 r9 σo A) args s 0 0 A) (F0 m 60 ls [.int y0]) := by
  obtain ⟨hx, hb, hml, hown, hts, hr, hlk, hK, hN, hA⟩ := id C0
  unfold M_Se_choose_60 at h
  refine lv_istore_n (lv' := [(2, .int y0), (0, .ref (a 2)), (1, .int x1)]) hx hb d_Se_choose_60 rfl hl (by decide) rfl (fun ls hl => ?_)
  refine lv_aload_n hx hb d_Se_choose_61 rfl (lv_at hl 1 rfl) ?_
  refine va_get (ci := 6) (C := R_Se) (T := T_Se) (N := 13) hx hb hts in_Se hown hK hP 2 kw_2 rfl 4 (by decide) (hts _ q_138) (fun _ h9 => h9) rfl d_Se_choose_62 ?_
  refine lv_iload_n hx hb d_Se_choose_65 rfl (lv_at hl 2 rfl) ?_
  refine lv_iload_n hx hb d_Se_choose_66 rfl (lv_at hl 0 rfl) ?_
  obtain ⟨σ1, eσ1, hiσ1, h⟩ := k_st_e h
  refine va_iast hx hb hK hP hD hS 21 0 kw_21 rfl hiσ1 d_Se_choose_67 (fun H locs hP hD hS => ?_)
  replace hP := k_mvP (kw_s21.trans (congrArg _ eσ1.symm)) hP
  replace hD := k_mvD (kw_s21.trans (congrArg _ eσ1.symm)) hD
  refine lv_iload_n hx hb d_Se_choose_68 rfl (lv_at hl 0 rfl) ?_
  refine lv_iconst (v := (-1)) hx hb d_Se_choose_69 (by decide) ?_
  refine lv_icmp_ne (tgt := 75) hx hb d_Se_choose_70 (by decide) (fun cn2 => ?_) (fun cn2 => ?_)
  · replace h := (if_neg cn2).symm.trans h
    refine lv_aload_n hx hb d_Se_choose_75 rfl (lv_at hl 1 rfl) ?_
    refine va_get (ci := 6) (C := R_Se) (T := T_Se) (N := 13) hx hb hts in_Se hown hK hP 2 kw_2 rfl 6 (by decide) (hts _ q_140) (fun _ h9 => h9) rfl d_Se_choose_76 ?_
    refine lv_aload_n hx hb d_Se_choose_79 rfl (lv_at hl 1 rfl) ?_
    refine va_get (ci := 6) (C := R_Se) (T := T_Se) (N := 13) hx hb hts in_Se hown hK hP 2 kw_2 rfl 1 (by decide) (hts _ q_135) (fun _ h9 => h9) rfl d_Se_choose_80 ?_
    refine lv_iload_n hx hb d_Se_choose_83 rfl (lv_at hl 2 rfl) ?_
    obtain ⟨v3, σ4, hc5, h⟩ := k_call_e h
    refine k_calli (va_runV (As := [.int x1]) (rest := [.ref (a 23)]) ⟨hx, hb, hml, hown, hts⟩ (K_Pl_parentOf l D a c9 H.size hc5) (cwV 1 hts (k_gV q_473 q_474 q_475 q_4 q_476) rfl rfl rfl h_Pl_parentOf ⟨Nat.le_of_ble_eq_true rfl, Nat.le_of_ble_eq_true rfl⟩) (k_preV (ci := 5) (q0 := 3) rfl kw_3 hP hK hN hD) rfl rfl hl.1 rfl (lv_room (Nat.le_of_ble_eq_true rfl)) d_Se_choose_84 ⟨Nat.zero_le _, Nat.zero_le _⟩) hD hS hA (fun H locs hP hD hS => ?_)
    refine lv_dup2_11 hx hb d_Se_choose_87 rfl rfl ?_
    obtain ⟨v6, ev6, hv6, h⟩ := k_ld_e h
    refine va_iald hx hb hK hP 23 0 kw_23 rfl hv6 d_Se_choose_88 (k_top ev6 ?_)
    refine lv_iload_n hx hb d_Se_choose_89 rfl (lv_at hl 0 rfl) ?_
    refine lv_iconst (v := (-1)) hx hb d_Se_choose_90 (by decide) ?_
    refine lv_ixor hx hb d_Se_choose_91 ?_
    refine lv_iand hx hb d_Se_choose_92 ?_
    obtain ⟨σ7, eσ7, hiσ7, h⟩ := k_st_e h
    refine va_iast hx hb hK hP hD hS 23 0 kw_23 rfl hiσ7 d_Se_choose_93 (fun H locs hP hD hS => ?_)
    replace hP := k_mvP (kw_s23.trans (congrArg _ eσ7.symm)) hP
    replace hD := k_mvD (kw_s23.trans (congrArg _ eσ7.symm)) hD
    refine lv_iconst (v := 1) hx hb d_Se_choose_94 (by decide) ?_
    cases h
    exact k_zret (Or.inr rfl) hx hb hr hlk hP hS d_Se_choose_95
  · replace h := (if_pos cn2).symm.trans h
    refine lv_iconst (v := 0) hx hb d_Se_choose_73 (by decide) ?_
    cases h
    exact k_zret (Or.inl rfl) hx hb hr hlk hP hS d_Se_choose_74
def M_Se_choose (σ : kS) (x1 : Int32) : Option (Int32 × kS) := if x1 = 0 then (k_ld (σ.2.1 14) 70 (0) fun v10 => if v10 = (-1) then (M_Se_choose_19 σ x1 1) else (M_Se_choose_19 σ x1 0)) else (k_ld (σ.2.1 14) 70 (x1) fun v2 => if v2 = (-1) then (k_call (M_Se_firstChoice σ x1) fun v7 σ8 => M_Se_choose_60 σ8 x1 v7) else (k_call (M_Se_laterChoice σ x1) fun v4 σ5 => M_Se_choose_60 σ5 x1 v4))
set_option maxHeartbeats 4000000 in
set_option maxRecDepth 100000 in
theorem B_Se_choose_0 {p : Program} {l : Launch} {e : Env} {s : State} {m : MethodId} {args : Array Value} {below : List Frame} {meth : Method} {c : Code} {D : va_G} {a : Nat → Nat} {c9 : Nat → ClassId} {A : Nat → Prop} {r9 : Int32} {σo : kS} (C0 : k_Cx D c9 p s m args meth c R_Se c_Se_choose 3 (some .boolean) A) (σ : kS) (x1 : Int32) (H : Heap) (locs : List Loc) (ls : Array Slot) (hP : va_P D kcl (kw a c9 σ) H) (hD : va_D A (kw a c9 σ)) (hS : va_S A s.heap H locs) (hl : lv_has ls 3 [(0, .ref (a 2)), (1, .int x1)]) (h : M_Se_choose σ x1 = some (r9, σo)) : W p l e rm_Se_choose s m args below meth c H locs 0 0 (MQ below (k_Qi D a c9 r9 σo A) args s 0 0 A) (F0 m 0 ls []) := by
  obtain ⟨hx, hb, hml, hown, hts, hr, hlk, hK, hN, hA⟩ := id C0
  unfold M_Se_choose at h
  refine lv_iload_n hx hb d_Se_choose_0 rfl (lv_at hl 1 rfl) ?_
  refine lv_if_ne (tgt := 37) hx hb d_Se_choose_1 (by decide) (fun cn1 => ?_) (fun cn1 => ?_)
  · replace h := (if_neg cn1).symm.trans h
    refine lv_aload_n hx hb d_Se_choose_37 rfl (lv_at hl 0 rfl) ?_
    refine va_get (ci := 6) (C := R_Se) (T := T_Se) (N := 13) hx hb hts in_Se hown hK hP 2 kw_2 rfl 4 (by decide) (hts _ q_138) (fun _ h9 => h9) rfl d_Se_choose_38 ?_
    refine lv_iload_n hx hb d_Se_choose_41 rfl (lv_at hl 1 rfl) ?_
    obtain ⟨v2, ev2, hv2, h⟩ := k_ld_e h
    refine va_iald hx hb hK hP 21 0 kw_21 rfl hv2 d_Se_choose_42 (k_top ev2 ?_)
    refine lv_iconst (v := (-1)) hx hb d_Se_choose_43 (by decide) ?_
    refine lv_icmp_ne (tgt := 55) hx hb d_Se_choose_44 (by decide) (fun cn3 => ?_) (fun cn3 => ?_)
    · replace h := (if_neg cn3).symm.trans h
      refine lv_aload_n hx hb d_Se_choose_55 rfl (lv_at hl 0 rfl) ?_
      refine lv_iload_n hx hb d_Se_choose_56 rfl (lv_at hl 1 rfl) ?_
      obtain ⟨v4, σ5, hc6, h⟩ := k_call_e h
      refine k_calli (va_runV (As := [.int x1]) (rest := []) ⟨hx, hb, hml, hown, hts⟩ (K_Se_laterChoice l D a c9 H.size hc6) (cwV 1 hts (k_gV q_505 q_507 s_8 q_3 q_508) rfl rfl rfl h_Se_laterChoice ⟨Nat.le_of_ble_eq_true rfl, Nat.le_of_ble_eq_true rfl⟩) (k_preV (ci := 6) (q0 := 2) rfl kw_2 hP hK hN hD) rfl rfl hl.1 rfl (lv_room (Nat.le_of_ble_eq_true rfl)) d_Se_choose_57 ⟨Nat.zero_le _, Nat.zero_le _⟩) hD hS hA (fun H locs hP hD hS => ?_)
      exact B_Se_choose_60 C0 _ _ _ H locs ls hP hD hS (lv_sub hl [0, 1] rfl) h
    · replace h := (if_pos cn3).symm.trans h
      refine lv_aload_n hx hb d_Se_choose_47 rfl (lv_at hl 0 rfl) ?_
      refine lv_iload_n hx hb d_Se_choose_48 rfl (lv_at hl 1 rfl) ?_
      obtain ⟨v7, σ8, hc9, h⟩ := k_call_e h
      refine k_calli (va_runV (As := [.int x1]) (rest := []) ⟨hx, hb, hml, hown, hts⟩ (K_Se_firstChoice l D a c9 H.size hc9) (cwV 1 hts (k_gV q_494 q_496 s_7 q_3 q_497) rfl rfl rfl h_Se_firstChoice ⟨Nat.le_of_ble_eq_true rfl, Nat.le_of_ble_eq_true rfl⟩) (k_preV (ci := 6) (q0 := 2) rfl kw_2 hP hK hN hD) rfl rfl hl.1 rfl (lv_room (Nat.le_of_ble_eq_true rfl)) d_Se_choose_49 ⟨Nat.zero_le _, Nat.zero_le _⟩) hD hS hA (fun H locs hP hD hS => ?_)
      refine lv_goto (tgt := 60) hx hb d_Se_choose_52 (by decide) ?_
      exact B_Se_choose_60 C0 _ _ _ H locs ls hP hD hS (lv_sub hl [0, 1] rfl) h
  · replace h := (if_pos cn1).symm.trans h
    refine lv_aload_n hx hb d_Se_choose_4 rfl (lv_at hl 0 rfl) ?_
    refine va_get (ci := 6) (C := R_Se) (T := T_Se) (N := 13) hx hb hts in_Se hown hK hP 2 kw_2 rfl 4 (by decide) (hts _ q_138) (fun _ h9 => h9) rfl d_Se_choose_5 ?_
    refine lv_iconst (v := 0) hx hb d_Se_choose_8 (by decide) ?_
    obtain ⟨v10, ev10, hv10, h⟩ := k_ld_e h
    refine va_iald hx hb hK hP 21 0 kw_21 rfl hv10 d_Se_choose_9 (k_top ev10 ?_)
    refine lv_iconst (v := (-1)) hx hb d_Se_choose_10 (by decide) ?_
    refine lv_icmp_ne (tgt := 18) hx hb d_Se_choose_11 (by decide) (fun cn11 => ?_) (fun cn11 => ?_)
    · replace h := (if_neg cn11).symm.trans h
      refine lv_iconst (v := 0) hx hb d_Se_choose_18 (by decide) ?_
      exact B_Se_choose_19 C0 _ _ _ H locs ls hP hD hS (lv_sub hl [0, 1] rfl) h
    · replace h := (if_pos cn11).symm.trans h
      refine lv_iconst (v := 1) hx hb d_Se_choose_14 (by decide) ?_
      refine lv_goto (tgt := 19) hx hb d_Se_choose_15 (by decide) ?_
      exact B_Se_choose_19 C0 _ _ _ H locs ls hP hD hS (lv_sub hl [0, 1] rfl) h
theorem K_Se_choose (l : Launch) (D : va_G) (a : Nat → Nat) (c9 : Nat → ClassId) (sz : Nat) {σ : kS} {x1 : Int32} {r9 : Int32} {σo : kS} (h : M_Se_choose σ x1 = some (r9, σo)) : Met l y_Se_choose (Cond.code y_Se_choose c_Se_choose 3 (some .boolean) :: kG) rm_Se_choose (k_Pc D a c9 sz σ [.ref (a 2), .int x1]) (k_Qi D a c9 r9 σo (k_A a c9 σ sz)) 0 0 (k_A a c9 σ sz) :=
  k_met (Qf := k_Qi D a c9 r9 σo) (by decide) (Nat.le_of_ble_eq_true rfl) (fun p e s m args below meth c A ls C0 hP hD hS hl => B_Se_choose_0 C0 σ x1 s.heap [] ls hP hD hS hl h)
def rm_Se_gatherRow : Room := { frames := 1, cells := 0, slots := 0, locals := 22 }
def M_Se_gatherRow_41_b (self9 : kS → Int32 → Int32 → Int32 → Option (Int32 × kS)) (σ : kS) (x1 x2 x3 : Int32) : Option (Int32 × kS) := k_call (M_F_partCount σ x2) fun v1 σ2 => if v1 ≤ x3 then (some (0, σ2)) else (k_ld (σ2.2.1 14) 70 (x1) fun v5 => if (v5 &&& (1 <<< (x3 &&& 31))) = 0 then (k_let (x3 + 1) fun v7 => self9 σ2 x1 x2 v7) else (k_call (M_F_partAt σ2 x2 x3) fun v8 σ9 => k_st σ9 17 12 (σ2.1 3) (v8) fun σ11 => k_set σ11 3 ((σ11.1 3 + 1)) fun σ12 => k_let (x3 + 1) fun v13 => self9 σ12 x1 x2 v13))
def M_Se_gatherRow_41 : Nat → kS → Int32 → Int32 → Int32 → Option (Int32 × kS)
  | 0 => fun _ _ _ _ => none
  | n + 1 => M_Se_gatherRow_41_b (M_Se_gatherRow_41 n)
set_option maxHeartbeats 4000000 in
set_option maxRecDepth 100000 in
theorem B_Se_gatherRow_41 {p : Program} {l : Launch} {e : Env} {s : State} {m : MethodId} {args : Array Value} {below : List Frame} {meth : Method} {c : Code} {D : va_G} {a : Nat → Nat} {c9 : Nat → ClassId} {A : Nat → Prop} {r9 : Int32} {σo : kS} (C0 : k_Cx D c9 p s m args meth c R_Se c_Se_gatherRow 4 none A) : ∀ (n : Nat) (σ : kS) (x1 x2 x3 : Int32) (H : Heap) (locs : List Loc) (ls : Array Slot), va_P D kcl (kw a c9 σ) H → va_D A (kw a c9 σ) → va_S A s.heap H locs → lv_has ls 4 [(0, .ref (a 2)), (1, .int x1), (2, .int x2), (3, .int x3)] → M_Se_gatherRow_41 n σ x1 x2 x3 = some (r9, σo) → W p l e rm_Se_gatherRow s m args below meth c H locs 0 0 (MQ below (k_Qv D a c9 σo A) args s 0 0 A) (F0 m 41 ls []) := by
  obtain ⟨hx, hb, hml, hown, hts, hr, hlk, hK, hN, hA⟩ := id C0
  intro n
  induction n with
  | zero =>
    intro σ x1 x2 x3 H locs ls hP hD hS hl h
    replace h : (none : Option (Int32 × kS)) = some (r9, σo) := h
    cases h
  | succ n ih =>
    intro σ x1 x2 x3 H locs ls hP hD hS hl h
    replace h : M_Se_gatherRow_41_b (M_Se_gatherRow_41 n) σ x1 x2 x3 = some (r9, σo) := h
    unfold M_Se_gatherRow_41_b at h
    refine lv_iload_n hx hb d_Se_gatherRow_41 rfl (lv_at hl 3 rfl) ?_
    refine lv_aload_n hx hb d_Se_gatherRow_42 rfl (lv_at hl 0 rfl) ?_
    refine va_get (ci := 6) (C := R_Se) (T := T_Se) (N := 13) hx hb hts in_Se hown hK hP 2 kw_2 rfl 0 (by decide) (hts _ q_134) (fun _ h9 => h9) rfl d_Se_gatherRow_43 ?_
    refine lv_iload_n hx hb d_Se_gatherRow_46 rfl (lv_at hl 2 rfl) ?_
    obtain ⟨v1, σ2, hc3, h⟩ := k_call_e h
    refine k_calli (va_runV (As := [.int x2]) (rest := [.int x3]) ⟨hx, hb, hml, hown, hts⟩ (K_F_partCount l D a c9 H.size hc3) (cwV 1 hts (k_gV q_537 q_465 q_466 q_2 q_467) rfl rfl rfl h_F_partCount ⟨Nat.le_of_ble_eq_true rfl, Nat.le_of_ble_eq_true rfl⟩) (k_preV (ci := 2) (q0 := 1) rfl kw_1 hP hK hN hD) rfl rfl hl.1 rfl (lv_room (Nat.le_of_ble_eq_true rfl)) d_Se_gatherRow_47 ⟨Nat.zero_le _, Nat.zero_le _⟩) hD hS hA (fun H locs hP hD hS => ?_)
    refine lv_icmp_ge (tgt := 100) hx hb d_Se_gatherRow_50 (by decide) (fun cn4 => ?_) (fun cn4 => ?_)
    · replace h := (if_pos cn4).symm.trans h
      cases h
      exact k_vret hx hb hr hlk hP hS d_Se_gatherRow_100
    · replace h := (if_neg cn4).symm.trans h
      refine lv_aload_n hx hb d_Se_gatherRow_53 rfl (lv_at hl 0 rfl) ?_
      refine va_get (ci := 6) (C := R_Se) (T := T_Se) (N := 13) hx hb hts in_Se hown hK hP 2 kw_2 rfl 4 (by decide) (hts _ q_138) (fun _ h9 => h9) rfl d_Se_gatherRow_54 ?_
      refine lv_iload_n hx hb d_Se_gatherRow_57 rfl (lv_at hl 1 rfl) ?_
      obtain ⟨v5, ev5, hv5, h⟩ := k_ld_e h
      refine va_iald hx hb hK hP 21 0 kw_21 rfl hv5 d_Se_gatherRow_58 (k_top ev5 ?_)
      refine lv_iconst (v := 1) hx hb d_Se_gatherRow_59 (by decide) ?_
      refine lv_iload_n hx hb d_Se_gatherRow_60 rfl (lv_at hl 3 rfl) ?_
      refine lv_ishl hx hb d_Se_gatherRow_61 ?_
      refine lv_iand hx hb d_Se_gatherRow_62 ?_
      refine lv_if_eq (tgt := 94) hx hb d_Se_gatherRow_63 (by decide) (fun cn6 => ?_) (fun cn6 => ?_)
      · replace h := (if_pos cn6).symm.trans h
        obtain ⟨v7, ev7, h⟩ := k_let_e h
        refine lv_iinc (v := v7) (lv' := [(3, .int v7), (0, .ref (a 2)), (1, .int x1), (2, .int x2)]) hx hb d_Se_gatherRow_94 hl (k := 3) rfl (by rw [ev7]; rfl) (by decide) rfl (fun ls hl => ?_)
        refine lv_goto (tgt := 41) hx hb d_Se_gatherRow_97 (by decide) ?_
        exact ih _ _ _ _ H locs ls hP hD hS (lv_sub hl [1, 2, 3, 0] rfl) h
      · replace h := (if_neg cn6).symm.trans h
        refine lv_aload_n hx hb d_Se_gatherRow_66 rfl (lv_at hl 0 rfl) ?_
        refine va_get (ci := 6) (C := R_Se) (T := T_Se) (N := 13) hx hb hts in_Se hown hK hP 2 kw_2 rfl 7 (by decide) (hts _ q_141) (fun _ h9 => h9) rfl d_Se_gatherRow_67 ?_
        refine lv_aload_n hx hb d_Se_gatherRow_70 rfl (lv_at hl 0 rfl) ?_
        refine va_get (ci := 6) (C := R_Se) (T := T_Se) (N := 13) hx hb hts in_Se hown hK hP 2 kw_2 rfl 8 (by decide) (hts _ q_142) (fun _ h9 => h9) rfl d_Se_gatherRow_71 ?_
        refine lv_aload_n hx hb d_Se_gatherRow_74 rfl (lv_at hl 0 rfl) ?_
        refine va_get (ci := 6) (C := R_Se) (T := T_Se) (N := 13) hx hb hts in_Se hown hK hP 2 kw_2 rfl 0 (by decide) (hts _ q_134) (fun _ h9 => h9) rfl d_Se_gatherRow_75 ?_
        refine lv_iload_n hx hb d_Se_gatherRow_78 rfl (lv_at hl 2 rfl) ?_
        refine lv_iload_n hx hb d_Se_gatherRow_79 rfl (lv_at hl 3 rfl) ?_
        obtain ⟨v8, σ9, hc10, h⟩ := k_call_e h
        refine k_calli (va_runV (As := [.int x2, .int x3]) (rest := [.int (σ2.1 3), .ref (a 24)]) ⟨hx, hb, hml, hown, hts⟩ (K_F_partAt l D a c9 H.size hc10) (cwV 2 hts (k_gV q_538 q_386 q_387 q_2 q_388) rfl rfl rfl h_F_partAt ⟨Nat.le_of_ble_eq_true rfl, Nat.le_of_ble_eq_true rfl⟩) (k_preV (ci := 2) (q0 := 1) rfl kw_1 hP hK hN hD) rfl rfl hl.1 rfl (lv_room (Nat.le_of_ble_eq_true rfl)) d_Se_gatherRow_80 ⟨Nat.zero_le _, Nat.zero_le _⟩) hD hS hA (fun H locs hP hD hS => ?_)
        obtain ⟨σ11, eσ11, hiσ11, h⟩ := k_st_e h
        refine va_iast hx hb hK hP hD hS 24 0 kw_24 rfl hiσ11 d_Se_gatherRow_83 (fun H locs hP hD hS => ?_)
        replace hP := k_mvP (kw_s24.trans (congrArg _ eσ11.symm)) hP
        replace hD := k_mvD (kw_s24.trans (congrArg _ eσ11.symm)) hD
        refine lv_aload_n hx hb d_Se_gatherRow_84 rfl (lv_at hl 0 rfl) ?_
        refine lv_dup hx hb d_Se_gatherRow_85 rfl ?_
        refine va_get (ci := 6) (C := R_Se) (T := T_Se) (N := 13) hx hb hts in_Se hown hK hP 2 kw_2 rfl 8 (by decide) (hts _ q_142) (fun _ h9 => h9) rfl d_Se_gatherRow_86 ?_
        refine lv_iconst (v := 1) hx hb d_Se_gatherRow_89 (by decide) ?_
        refine lv_iadd hx hb d_Se_gatherRow_90 ?_
        obtain ⟨σ12, eσ12, h⟩ := k_set_e h
        refine va_put (ci := 6) (v := .int ((σ11.1 3 + 1))) (ty := .int) (C := R_Se) (T := T_Se) (N := 13) hx hb hts in_Se t_Se t_Se_ok n_Se hown hK hP hD hS 2 kw_2 rfl 8 (by decide) (hts _ q_142) (fun _ h9 => h9) rfl (by decide +kernel) rfl rfl (Nat.le_of_ble_eq_true rfl) d_Se_gatherRow_91 (fun H locs hP hD hS => ?_)
        replace hP := k_mvP (kw_f2_8.trans (congrArg _ eσ12.symm)) hP
        replace hD := k_mvD (kw_f2_8.trans (congrArg _ eσ12.symm)) hD
        obtain ⟨v13, ev13, h⟩ := k_let_e h
        refine lv_iinc (v := v13) (lv' := [(3, .int v13), (0, .ref (a 2)), (1, .int x1), (2, .int x2)]) hx hb d_Se_gatherRow_94 hl (k := 3) rfl (by rw [ev13]; rfl) (by decide) rfl (fun ls hl => ?_)
        refine lv_goto (tgt := 41) hx hb d_Se_gatherRow_97 (by decide) ?_
        exact ih _ _ _ _ H locs ls hP hD hS (lv_sub hl [1, 2, 3, 0] rfl) h
def M_Se_gatherRow (σ : kS) (x1 : Int32) : Option (Int32 × kS) := if x1 = 0 then (k_st σ 17 12 (0) (σ.1 4) fun σ7 => k_set σ7 3 (1) fun σ8 => some (0, σ8)) else (k_call (M_Pl_parentOf σ x1) fun v2 σ3 => k_ld (σ3.2.1 15) 70 (v2) fun v5 => k_set σ3 3 (0) fun σ6 => M_Se_gatherRow_41 k_fu σ6 x1 v5 0)
set_option maxHeartbeats 4000000 in
set_option maxRecDepth 100000 in
theorem B_Se_gatherRow_0 {p : Program} {l : Launch} {e : Env} {s : State} {m : MethodId} {args : Array Value} {below : List Frame} {meth : Method} {c : Code} {D : va_G} {a : Nat → Nat} {c9 : Nat → ClassId} {A : Nat → Prop} {r9 : Int32} {σo : kS} (C0 : k_Cx D c9 p s m args meth c R_Se c_Se_gatherRow 4 none A) (σ : kS) (x1 : Int32) (H : Heap) (locs : List Loc) (ls : Array Slot) (hP : va_P D kcl (kw a c9 σ) H) (hD : va_D A (kw a c9 σ)) (hS : va_S A s.heap H locs) (hl : lv_has ls 4 [(0, .ref (a 2)), (1, .int x1)]) (h : M_Se_gatherRow σ x1 = some (r9, σo)) : W p l e rm_Se_gatherRow s m args below meth c H locs 0 0 (MQ below (k_Qv D a c9 σo A) args s 0 0 A) (F0 m 0 ls []) := by
  obtain ⟨hx, hb, hml, hown, hts, hr, hlk, hK, hN, hA⟩ := id C0
  unfold M_Se_gatherRow at h
  refine lv_iload_n hx hb d_Se_gatherRow_0 rfl (lv_at hl 1 rfl) ?_
  refine lv_if_ne (tgt := 20) hx hb d_Se_gatherRow_1 (by decide) (fun cn1 => ?_) (fun cn1 => ?_)
  · replace h := (if_neg cn1).symm.trans h
    refine lv_aload_n hx hb d_Se_gatherRow_20 rfl (lv_at hl 0 rfl) ?_
    refine va_get (ci := 6) (C := R_Se) (T := T_Se) (N := 13) hx hb hts in_Se hown hK hP 2 kw_2 rfl 5 (by decide) (hts _ q_139) (fun _ h9 => h9) rfl d_Se_gatherRow_21 ?_
    refine lv_aload_n hx hb d_Se_gatherRow_24 rfl (lv_at hl 0 rfl) ?_
    refine va_get (ci := 6) (C := R_Se) (T := T_Se) (N := 13) hx hb hts in_Se hown hK hP 2 kw_2 rfl 1 (by decide) (hts _ q_135) (fun _ h9 => h9) rfl d_Se_gatherRow_25 ?_
    refine lv_iload_n hx hb d_Se_gatherRow_28 rfl (lv_at hl 1 rfl) ?_
    obtain ⟨v2, σ3, hc4, h⟩ := k_call_e h
    refine k_calli (va_runV (As := [.int x1]) (rest := [.ref (a 22)]) ⟨hx, hb, hml, hown, hts⟩ (K_Pl_parentOf l D a c9 H.size hc4) (cwV 1 hts (k_gV q_473 q_474 q_475 q_4 q_476) rfl rfl rfl h_Pl_parentOf ⟨Nat.le_of_ble_eq_true rfl, Nat.le_of_ble_eq_true rfl⟩) (k_preV (ci := 5) (q0 := 3) rfl kw_3 hP hK hN hD) rfl rfl hl.1 rfl (lv_room (Nat.le_of_ble_eq_true rfl)) d_Se_gatherRow_29 ⟨Nat.zero_le _, Nat.zero_le _⟩) hD hS hA (fun H locs hP hD hS => ?_)
    obtain ⟨v5, ev5, hv5, h⟩ := k_ld_e h
    refine va_iald hx hb hK hP 22 0 kw_22 rfl hv5 d_Se_gatherRow_32 (k_top ev5 ?_)
    refine lv_istore_n (lv' := [(2, .int v5), (0, .ref (a 2)), (1, .int x1)]) hx hb d_Se_gatherRow_33 rfl hl (by decide) rfl (fun ls hl => ?_)
    refine lv_aload_n hx hb d_Se_gatherRow_34 rfl (lv_at hl 1 rfl) ?_
    refine lv_iconst (v := 0) hx hb d_Se_gatherRow_35 (by decide) ?_
    obtain ⟨σ6, eσ6, h⟩ := k_set_e h
    refine va_put (ci := 6) (v := .int 0) (ty := .int) (C := R_Se) (T := T_Se) (N := 13) hx hb hts in_Se t_Se t_Se_ok n_Se hown hK hP hD hS 2 kw_2 rfl 8 (by decide) (hts _ q_142) (fun _ h9 => h9) rfl (by decide +kernel) rfl rfl (Nat.le_of_ble_eq_true rfl) d_Se_gatherRow_36 (fun H locs hP hD hS => ?_)
    replace hP := k_mvP (kw_f2_8.trans (congrArg _ eσ6.symm)) hP
    replace hD := k_mvD (kw_f2_8.trans (congrArg _ eσ6.symm)) hD
    refine lv_iconst (v := 0) hx hb d_Se_gatherRow_39 (by decide) ?_
    refine lv_istore_n (lv' := [(3, .int 0), (2, .int v5), (0, .ref (a 2)), (1, .int x1)]) hx hb d_Se_gatherRow_40 rfl hl (by decide) rfl (fun ls hl => ?_)
    exact B_Se_gatherRow_41 C0 k_fu _ _ _ _ H locs ls hP hD hS (lv_sub hl [2, 3, 1, 0] rfl) h
  · replace h := (if_pos cn1).symm.trans h
    refine lv_aload_n hx hb d_Se_gatherRow_4 rfl (lv_at hl 0 rfl) ?_
    refine va_get (ci := 6) (C := R_Se) (T := T_Se) (N := 13) hx hb hts in_Se hown hK hP 2 kw_2 rfl 7 (by decide) (hts _ q_141) (fun _ h9 => h9) rfl d_Se_gatherRow_5 ?_
    refine lv_iconst (v := 0) hx hb d_Se_gatherRow_8 (by decide) ?_
    refine lv_aload_n hx hb d_Se_gatherRow_9 rfl (lv_at hl 0 rfl) ?_
    refine va_get (ci := 6) (C := R_Se) (T := T_Se) (N := 13) hx hb hts in_Se hown hK hP 2 kw_2 rfl 9 (by decide) (hts _ q_143) (fun _ h9 => h9) rfl d_Se_gatherRow_10 ?_
    obtain ⟨σ7, eσ7, hiσ7, h⟩ := k_st_e h
    refine va_iast hx hb hK hP hD hS 24 0 kw_24 rfl hiσ7 d_Se_gatherRow_13 (fun H locs hP hD hS => ?_)
    replace hP := k_mvP (kw_s24.trans (congrArg _ eσ7.symm)) hP
    replace hD := k_mvD (kw_s24.trans (congrArg _ eσ7.symm)) hD
    refine lv_aload_n hx hb d_Se_gatherRow_14 rfl (lv_at hl 0 rfl) ?_
    refine lv_iconst (v := 1) hx hb d_Se_gatherRow_15 (by decide) ?_
    obtain ⟨σ8, eσ8, h⟩ := k_set_e h
    refine va_put (ci := 6) (v := .int 1) (ty := .int) (C := R_Se) (T := T_Se) (N := 13) hx hb hts in_Se t_Se t_Se_ok n_Se hown hK hP hD hS 2 kw_2 rfl 8 (by decide) (hts _ q_142) (fun _ h9 => h9) rfl (by decide +kernel) rfl rfl (Nat.le_of_ble_eq_true rfl) d_Se_gatherRow_16 (fun H locs hP hD hS => ?_)
    replace hP := k_mvP (kw_f2_8.trans (congrArg _ eσ8.symm)) hP
    replace hD := k_mvD (kw_f2_8.trans (congrArg _ eσ8.symm)) hD
    cases h
    exact k_vret hx hb hr hlk hP hS d_Se_gatherRow_19
theorem K_Se_gatherRow (l : Launch) (D : va_G) (a : Nat → Nat) (c9 : Nat → ClassId) (sz : Nat) {σ : kS} {x1 : Int32} {r9 : Int32} {σo : kS} (h : M_Se_gatherRow σ x1 = some (r9, σo)) : Met l y_Se_gatherRow (Cond.code y_Se_gatherRow c_Se_gatherRow 4 none :: kG) rm_Se_gatherRow (k_Pc D a c9 sz σ [.ref (a 2), .int x1]) (k_Qv D a c9 σo (k_A a c9 σ sz)) 0 0 (k_A a c9 σ sz) :=
  k_met (Qf := k_Qv D a c9 σo) (by decide) (Nat.le_of_ble_eq_true rfl) (fun p e s m args below meth c A ls C0 hP hD hS hl => B_Se_gatherRow_0 C0 σ x1 s.heap [] ls hP hD hS hl h)
def rm_Se_fitsLeafOrNode : Room := { frames := 1, cells := 0, slots := 0, locals := 22 }
def M_Se_fitsLeafOrNode (σ : kS) (x1 x2 : Int32) : Option (Int32 × kS) := k_ld (σ.2.1 17) 12 (0) fun v1 => k_call (M_F_looksLike σ x2 v1) fun v2 σ3 => if v2 = 0 then (some (0, σ3)) else (k_ld (σ3.2.1 17) 12 (0) fun v6 => k_st σ3 15 70 (x1) (v6) fun σ7 => k_ld (σ7.2.1 17) 12 (0) fun v8 => k_call (M_F_partCount σ7 v8) fun v9 σ10 => k_call (M_Pc_all σ10 v9) fun v12 σ13 => k_st σ13 16 70 (x1) (v12) fun σ15 => some (1, σ15))
set_option maxHeartbeats 4000000 in
set_option maxRecDepth 100000 in
theorem B_Se_fitsLeafOrNode_0 {p : Program} {l : Launch} {e : Env} {s : State} {m : MethodId} {args : Array Value} {below : List Frame} {meth : Method} {c : Code} {D : va_G} {a : Nat → Nat} {c9 : Nat → ClassId} {A : Nat → Prop} {r9 : Int32} {σo : kS} (C0 : k_Cx D c9 p s m args meth c R_Se c_Se_fitsLeafOrNode 3 (some .boolean) A) (σ : kS) (x1 x2 : Int32) (H : Heap) (locs : List Loc) (ls : Array Slot) (hP : va_P D kcl (kw a c9 σ) H) (hD : va_D A (kw a c9 σ)) (hS : va_S A s.heap H locs) (hl : lv_has ls 3 [(0, .ref (a 2)), (1, .int x1), (2, .int x2)]) (h : M_Se_fitsLeafOrNode σ x1 x2 = some (r9, σo)) : W p l e rm_Se_fitsLeafOrNode s m args below meth c H locs 0 0 (MQ below (k_Qi D a c9 r9 σo A) args s 0 0 A) (F0 m 0 ls []) := by
  obtain ⟨hx, hb, hml, hown, hts, hr, hlk, hK, hN, hA⟩ := id C0
  unfold M_Se_fitsLeafOrNode at h
  refine lv_aload_n hx hb d_Se_fitsLeafOrNode_0 rfl (lv_at hl 0 rfl) ?_
  refine va_get (ci := 6) (C := R_Se) (T := T_Se) (N := 13) hx hb hts in_Se hown hK hP 2 kw_2 rfl 0 (by decide) (hts _ q_134) (fun _ h9 => h9) rfl d_Se_fitsLeafOrNode_1 ?_
  refine lv_iload_n hx hb d_Se_fitsLeafOrNode_4 rfl (lv_at hl 2 rfl) ?_
  refine lv_aload_n hx hb d_Se_fitsLeafOrNode_5 rfl (lv_at hl 0 rfl) ?_
  refine va_get (ci := 6) (C := R_Se) (T := T_Se) (N := 13) hx hb hts in_Se hown hK hP 2 kw_2 rfl 7 (by decide) (hts _ q_141) (fun _ h9 => h9) rfl d_Se_fitsLeafOrNode_6 ?_
  refine lv_iconst (v := 0) hx hb d_Se_fitsLeafOrNode_9 (by decide) ?_
  obtain ⟨v1, ev1, hv1, h⟩ := k_ld_e h
  refine va_iald hx hb hK hP 24 0 kw_24 rfl hv1 d_Se_fitsLeafOrNode_10 (k_top ev1 ?_)
  obtain ⟨v2, σ3, hc4, h⟩ := k_call_e h
  refine k_calli (va_runV (As := [.int x2, .int v1]) (rest := []) ⟨hx, hb, hml, hown, hts⟩ (K_F_looksLike l D a c9 H.size hc4) (cwV 2 hts (k_gV q_580 q_581 q_582 q_2 q_583) rfl rfl rfl h_F_looksLike ⟨Nat.le_of_ble_eq_true rfl, Nat.le_of_ble_eq_true rfl⟩) (k_preV (ci := 2) (q0 := 1) rfl kw_1 hP hK hN hD) rfl rfl hl.1 rfl (lv_room (Nat.le_of_ble_eq_true rfl)) d_Se_fitsLeafOrNode_11 ⟨Nat.zero_le _, Nat.zero_le _⟩) hD hS hA (fun H locs hP hD hS => ?_)
  refine lv_if_ne (tgt := 19) hx hb d_Se_fitsLeafOrNode_14 (by decide) (fun cn5 => ?_) (fun cn5 => ?_)
  · replace h := (if_neg cn5).symm.trans h
    refine lv_aload_n hx hb d_Se_fitsLeafOrNode_19 rfl (lv_at hl 0 rfl) ?_
    refine va_get (ci := 6) (C := R_Se) (T := T_Se) (N := 13) hx hb hts in_Se hown hK hP 2 kw_2 rfl 5 (by decide) (hts _ q_139) (fun _ h9 => h9) rfl d_Se_fitsLeafOrNode_20 ?_
    refine lv_iload_n hx hb d_Se_fitsLeafOrNode_23 rfl (lv_at hl 1 rfl) ?_
    refine lv_aload_n hx hb d_Se_fitsLeafOrNode_24 rfl (lv_at hl 0 rfl) ?_
    refine va_get (ci := 6) (C := R_Se) (T := T_Se) (N := 13) hx hb hts in_Se hown hK hP 2 kw_2 rfl 7 (by decide) (hts _ q_141) (fun _ h9 => h9) rfl d_Se_fitsLeafOrNode_25 ?_
    refine lv_iconst (v := 0) hx hb d_Se_fitsLeafOrNode_28 (by decide) ?_
    obtain ⟨v6, ev6, hv6, h⟩ := k_ld_e h
    refine va_iald hx hb hK hP 24 0 kw_24 rfl hv6 d_Se_fitsLeafOrNode_29 (k_top ev6 ?_)
    obtain ⟨σ7, eσ7, hiσ7, h⟩ := k_st_e h
    refine va_iast hx hb hK hP hD hS 22 0 kw_22 rfl hiσ7 d_Se_fitsLeafOrNode_30 (fun H locs hP hD hS => ?_)
    replace hP := k_mvP (kw_s22.trans (congrArg _ eσ7.symm)) hP
    replace hD := k_mvD (kw_s22.trans (congrArg _ eσ7.symm)) hD
    refine lv_aload_n hx hb d_Se_fitsLeafOrNode_31 rfl (lv_at hl 0 rfl) ?_
    refine va_get (ci := 6) (C := R_Se) (T := T_Se) (N := 13) hx hb hts in_Se hown hK hP 2 kw_2 rfl 6 (by decide) (hts _ q_140) (fun _ h9 => h9) rfl d_Se_fitsLeafOrNode_32 ?_
    refine lv_iload_n hx hb d_Se_fitsLeafOrNode_35 rfl (lv_at hl 1 rfl) ?_
    refine lv_aload_n hx hb d_Se_fitsLeafOrNode_36 rfl (lv_at hl 0 rfl) ?_
    refine va_get (ci := 6) (C := R_Se) (T := T_Se) (N := 13) hx hb hts in_Se hown hK hP 2 kw_2 rfl 0 (by decide) (hts _ q_134) (fun _ h9 => h9) rfl d_Se_fitsLeafOrNode_37 ?_
    refine lv_aload_n hx hb d_Se_fitsLeafOrNode_40 rfl (lv_at hl 0 rfl) ?_
    refine va_get (ci := 6) (C := R_Se) (T := T_Se) (N := 13) hx hb hts in_Se hown hK hP 2 kw_2 rfl 7 (by decide) (hts _ q_141) (fun _ h9 => h9) rfl d_Se_fitsLeafOrNode_41 ?_
    refine lv_iconst (v := 0) hx hb d_Se_fitsLeafOrNode_44 (by decide) ?_
    obtain ⟨v8, ev8, hv8, h⟩ := k_ld_e h
    refine va_iald hx hb hK hP 24 0 kw_24 rfl hv8 d_Se_fitsLeafOrNode_45 (k_top ev8 ?_)
    obtain ⟨v9, σ10, hc11, h⟩ := k_call_e h
    refine k_calli (va_runV (As := [.int v8]) (rest := [.int x1, .ref (a 23)]) ⟨hx, hb, hml, hown, hts⟩ (K_F_partCount l D a c9 H.size hc11) (cwV 1 hts (k_gV q_537 q_465 q_466 q_2 q_467) rfl rfl rfl h_F_partCount ⟨Nat.le_of_ble_eq_true rfl, Nat.le_of_ble_eq_true rfl⟩) (k_preV (ci := 2) (q0 := 1) rfl kw_1 hP hK hN hD) rfl rfl hl.1 rfl (lv_room (Nat.le_of_ble_eq_true rfl)) d_Se_fitsLeafOrNode_46 ⟨Nat.zero_le _, Nat.zero_le _⟩) hD hS hA (fun H locs hP hD hS => ?_)
    obtain ⟨v12, σ13, hc14, h⟩ := k_call_e h
    refine k_calli (va_runS (As := [.int v9]) (rest := [.int x1, .ref (a 23)]) ⟨hx, hb, hml, hown, hts⟩ (K_Pc_all l D a c9 H.size hc14) (va_cwS 1 hts (k_gS q_584 q_585 q_16 q_586) rfl rfl rfl h_Pc_all.2 ⟨Nat.le_of_ble_eq_true rfl, Nat.le_of_ble_eq_true rfl⟩) (k_preS hP hK hN hD) rfl rfl hl.1 rfl (lv_room (Nat.le_of_ble_eq_true rfl)) d_Se_fitsLeafOrNode_49 ⟨Nat.zero_le _, Nat.zero_le _⟩) hD hS hA (fun H locs hP hD hS => ?_)
    obtain ⟨σ15, eσ15, hiσ15, h⟩ := k_st_e h
    refine va_iast hx hb hK hP hD hS 23 0 kw_23 rfl hiσ15 d_Se_fitsLeafOrNode_52 (fun H locs hP hD hS => ?_)
    replace hP := k_mvP (kw_s23.trans (congrArg _ eσ15.symm)) hP
    replace hD := k_mvD (kw_s23.trans (congrArg _ eσ15.symm)) hD
    refine lv_iconst (v := 1) hx hb d_Se_fitsLeafOrNode_53 (by decide) ?_
    cases h
    exact k_zret (Or.inr rfl) hx hb hr hlk hP hS d_Se_fitsLeafOrNode_54
  · replace h := (if_pos cn5).symm.trans h
    refine lv_iconst (v := 0) hx hb d_Se_fitsLeafOrNode_17 (by decide) ?_
    cases h
    exact k_zret (Or.inl rfl) hx hb hr hlk hP hS d_Se_fitsLeafOrNode_18
theorem K_Se_fitsLeafOrNode (l : Launch) (D : va_G) (a : Nat → Nat) (c9 : Nat → ClassId) (sz : Nat) {σ : kS} {x1 x2 : Int32} {r9 : Int32} {σo : kS} (h : M_Se_fitsLeafOrNode σ x1 x2 = some (r9, σo)) : Met l y_Se_fitsLeafOrNode (Cond.code y_Se_fitsLeafOrNode c_Se_fitsLeafOrNode 3 (some .boolean) :: kG) rm_Se_fitsLeafOrNode (k_Pc D a c9 sz σ [.ref (a 2), .int x1, .int x2]) (k_Qi D a c9 r9 σo (k_A a c9 σ sz)) 0 0 (k_A a c9 σ sz) :=
  k_met (Qf := k_Qi D a c9 r9 σo) (by decide) (Nat.le_of_ble_eq_true rfl) (fun p e s m args below meth c A ls C0 hP hD hS hl => B_Se_fitsLeafOrNode_0 C0 σ x1 x2 s.heap [] ls hP hD hS hl h)
def rm_Se_fitsHole : Room := { frames := 25, cells := 0, slots := 0, locals := 691 }
def M_Se_fitsHole_30 (σ : kS) (x1 x2 : Int32) : Option (Int32 × kS) := k_call (M_F_passesTests σ x2 (σ.1 3)) fun v1 σ2 => if v1 = 0 then (some (0, σ2)) else (k_call (M_F_nameOf σ2 x2) fun v5 σ6 => k_call (M_Nm_hasNothing σ6 v5) fun v8 σ9 => if v8 = 0 then (k_call (M_Nm_hasSame σ9 v5 (σ9.1 3)) fun v12 σ13 => k_z (v12) (some (v12, σ13))) else (k_call (M_Nm_give σ9 v5 (σ9.1 3) x1) fun _ σ16 => some (1, σ16)))
set_option maxHeartbeats 4000000 in
set_option maxRecDepth 100000 in
theorem B_Se_fitsHole_30 {p : Program} {l : Launch} {e : Env} {s : State} {m : MethodId} {args : Array Value} {below : List Frame} {meth : Method} {c : Code} {D : va_G} {a : Nat → Nat} {c9 : Nat → ClassId} {A : Nat → Prop} {r9 : Int32} {σo : kS} (C0 : k_Cx D c9 p s m args meth c R_Se c_Se_fitsHole 4 (some .boolean) A) (σ : kS) (x1 x2 : Int32) (H : Heap) (locs : List Loc) (ls : Array Slot) (hP : va_P D kcl (kw a c9 σ) H) (hD : va_D A (kw a c9 σ)) (hS : va_S A s.heap H locs) (hl : lv_has ls 4 [(0, .ref (a 2)), (1, .int x1), (2, .int x2)]) (h : M_Se_fitsHole_30 σ x1 x2 = some (r9, σo)) : W p l e rm_Se_fitsHole s m args below meth c H locs 0 0 (MQ below (k_Qi D a c9 r9 σo A) args s 0 0 A) (F0 m 30 ls []) := by
  obtain ⟨hx, hb, hml, hown, hts, hr, hlk, hK, hN, hA⟩ := id C0
  unfold M_Se_fitsHole_30 at h
  refine lv_aload_n hx hb d_Se_fitsHole_30 rfl (lv_at hl 0 rfl) ?_
  refine va_get (ci := 6) (C := R_Se) (T := T_Se) (N := 13) hx hb hts in_Se hown hK hP 2 kw_2 rfl 0 (by decide) (hts _ q_134) (fun _ h9 => h9) rfl d_Se_fitsHole_31 ?_
  refine lv_iload_n hx hb d_Se_fitsHole_34 rfl (lv_at hl 2 rfl) ?_
  refine lv_aload_n hx hb d_Se_fitsHole_35 rfl (lv_at hl 0 rfl) ?_
  refine va_get (ci := 6) (C := R_Se) (T := T_Se) (N := 13) hx hb hts in_Se hown hK hP 2 kw_2 rfl 7 (by decide) (hts _ q_141) (fun _ h9 => h9) rfl d_Se_fitsHole_36 ?_
  refine lv_aload_n hx hb d_Se_fitsHole_39 rfl (lv_at hl 0 rfl) ?_
  refine va_get (ci := 6) (C := R_Se) (T := T_Se) (N := 13) hx hb hts in_Se hown hK hP 2 kw_2 rfl 8 (by decide) (hts _ q_142) (fun _ h9 => h9) rfl d_Se_fitsHole_40 ?_
  obtain ⟨v1, σ2, hc3, h⟩ := k_call_e h
  refine k_calli (va_runV (As := [.int x2, .ref (a 24), .int (σ.1 3)]) (rest := []) ⟨hx, hb, hml, hown, hts⟩ (K_F_passesTests l D a c9 H.size hc3) (cwV 3 hts (k_gV q_547 q_548 q_549 q_2 q_550) rfl rfl rfl h_F_passesTests ⟨Nat.le_of_ble_eq_true rfl, Nat.le_of_ble_eq_true rfl⟩) (k_preV (ci := 2) (q0 := 1) rfl kw_1 hP hK hN hD) rfl rfl hl.1 rfl (lv_room (Nat.le_of_ble_eq_true rfl)) d_Se_fitsHole_43 ⟨Nat.zero_le _, Nat.zero_le _⟩) hD hS hA (fun H locs hP hD hS => ?_)
  refine lv_if_ne (tgt := 51) hx hb d_Se_fitsHole_46 (by decide) (fun cn4 => ?_) (fun cn4 => ?_)
  · replace h := (if_neg cn4).symm.trans h
    refine lv_aload_n hx hb d_Se_fitsHole_51 rfl (lv_at hl 0 rfl) ?_
    refine va_get (ci := 6) (C := R_Se) (T := T_Se) (N := 13) hx hb hts in_Se hown hK hP 2 kw_2 rfl 0 (by decide) (hts _ q_134) (fun _ h9 => h9) rfl d_Se_fitsHole_52 ?_
    refine lv_iload_n hx hb d_Se_fitsHole_55 rfl (lv_at hl 2 rfl) ?_
    obtain ⟨v5, σ6, hc7, h⟩ := k_call_e h
    refine k_calli (va_runV (As := [.int x2]) (rest := []) ⟨hx, hb, hml, hown, hts⟩ (K_F_nameOf l D a c9 H.size hc7) (cwV 1 hts (k_gV q_482 q_483 q_484 q_2 q_485) rfl rfl rfl h_F_nameOf ⟨Nat.le_of_ble_eq_true rfl, Nat.le_of_ble_eq_true rfl⟩) (k_preV (ci := 2) (q0 := 1) rfl kw_1 hP hK hN hD) rfl rfl hl.1 rfl (lv_room (Nat.le_of_ble_eq_true rfl)) d_Se_fitsHole_56 ⟨Nat.zero_le _, Nat.zero_le _⟩) hD hS hA (fun H locs hP hD hS => ?_)
    refine lv_istore_n (lv' := [(3, .int v5), (0, .ref (a 2)), (1, .int x1), (2, .int x2)]) hx hb d_Se_fitsHole_59 rfl hl (by decide) rfl (fun ls hl => ?_)
    refine lv_aload_n hx hb d_Se_fitsHole_60 rfl (lv_at hl 1 rfl) ?_
    refine va_get (ci := 6) (C := R_Se) (T := T_Se) (N := 13) hx hb hts in_Se hown hK hP 2 kw_2 rfl 2 (by decide) (hts _ q_136) (fun _ h9 => h9) rfl d_Se_fitsHole_61 ?_
    refine lv_iload_n hx hb d_Se_fitsHole_64 rfl (lv_at hl 0 rfl) ?_
    obtain ⟨v8, σ9, hc10, h⟩ := k_call_e h
    refine k_calli (va_runV (As := [.int v5]) (rest := []) ⟨hx, hb, hml, hown, hts⟩ (K_Nm_hasNothing l D a c9 H.size hc10) (cwV 1 hts (k_gV q_560 q_561 q_562 q_5 q_563) rfl rfl rfl h_Nm_hasNothing ⟨Nat.le_of_ble_eq_true rfl, Nat.le_of_ble_eq_true rfl⟩) (k_preV (ci := 4) (q0 := 4) rfl kw_4 hP hK hN hD) rfl rfl hl.1 rfl (lv_room (Nat.le_of_ble_eq_true rfl)) d_Se_fitsHole_65 ⟨Nat.zero_le _, Nat.zero_le _⟩) hD hS hA (fun H locs hP hD hS => ?_)
    refine lv_if_eq (tgt := 90) hx hb d_Se_fitsHole_68 (by decide) (fun cn11 => ?_) (fun cn11 => ?_)
    · replace h := (if_pos cn11).symm.trans h
      refine lv_aload_n hx hb d_Se_fitsHole_90 rfl (lv_at hl 1 rfl) ?_
      refine va_get (ci := 6) (C := R_Se) (T := T_Se) (N := 13) hx hb hts in_Se hown hK hP 2 kw_2 rfl 2 (by decide) (hts _ q_136) (fun _ h9 => h9) rfl d_Se_fitsHole_91 ?_
      refine lv_aload_n hx hb d_Se_fitsHole_94 rfl (lv_at hl 1 rfl) ?_
      refine va_get (ci := 6) (C := R_Se) (T := T_Se) (N := 13) hx hb hts in_Se hown hK hP 2 kw_2 rfl 0 (by decide) (hts _ q_134) (fun _ h9 => h9) rfl d_Se_fitsHole_95 ?_
      refine lv_iload_n hx hb d_Se_fitsHole_98 rfl (lv_at hl 0 rfl) ?_
      refine lv_aload_n hx hb d_Se_fitsHole_99 rfl (lv_at hl 1 rfl) ?_
      refine va_get (ci := 6) (C := R_Se) (T := T_Se) (N := 13) hx hb hts in_Se hown hK hP 2 kw_2 rfl 7 (by decide) (hts _ q_141) (fun _ h9 => h9) rfl d_Se_fitsHole_100 ?_
      refine lv_aload_n hx hb d_Se_fitsHole_103 rfl (lv_at hl 1 rfl) ?_
      refine va_get (ci := 6) (C := R_Se) (T := T_Se) (N := 13) hx hb hts in_Se hown hK hP 2 kw_2 rfl 8 (by decide) (hts _ q_142) (fun _ h9 => h9) rfl d_Se_fitsHole_104 ?_
      obtain ⟨v12, σ13, hc14, h⟩ := k_call_e h
      refine k_calli (va_runV (As := [.ref (a 1), .int v5, .ref (a 24), .int (σ9.1 3)]) (rest := []) ⟨hx, hb, hml, hown, hts⟩ (K_Nm_hasSame l D a c9 H.size hc14) (cwV 4 hts (k_gV q_571 q_572 q_573 q_5 q_574) rfl rfl rfl h_Nm_hasSame ⟨Nat.le_of_ble_eq_true rfl, Nat.le_of_ble_eq_true rfl⟩) (k_preV (ci := 4) (q0 := 4) rfl kw_4 hP hK hN hD) rfl rfl hl.1 rfl (lv_room (Nat.le_of_ble_eq_true rfl)) d_Se_fitsHole_107 ⟨Nat.zero_le _, Nat.zero_le _⟩) hD hS hA (fun H locs hP hD hS => ?_)
      obtain ⟨hz, h⟩ := k_z_e h
      cases h
      exact k_zret hz hx hb hr hlk hP hS d_Se_fitsHole_110
    · replace h := (if_neg cn11).symm.trans h
      refine lv_aload_n hx hb d_Se_fitsHole_71 rfl (lv_at hl 1 rfl) ?_
      refine va_get (ci := 6) (C := R_Se) (T := T_Se) (N := 13) hx hb hts in_Se hown hK hP 2 kw_2 rfl 2 (by decide) (hts _ q_136) (fun _ h9 => h9) rfl d_Se_fitsHole_72 ?_
      refine lv_iload_n hx hb d_Se_fitsHole_75 rfl (lv_at hl 0 rfl) ?_
      refine lv_aload_n hx hb d_Se_fitsHole_76 rfl (lv_at hl 1 rfl) ?_
      refine va_get (ci := 6) (C := R_Se) (T := T_Se) (N := 13) hx hb hts in_Se hown hK hP 2 kw_2 rfl 7 (by decide) (hts _ q_141) (fun _ h9 => h9) rfl d_Se_fitsHole_77 ?_
      refine lv_aload_n hx hb d_Se_fitsHole_80 rfl (lv_at hl 1 rfl) ?_
      refine va_get (ci := 6) (C := R_Se) (T := T_Se) (N := 13) hx hb hts in_Se hown hK hP 2 kw_2 rfl 8 (by decide) (hts _ q_142) (fun _ h9 => h9) rfl d_Se_fitsHole_81 ?_
      refine lv_iload_n hx hb d_Se_fitsHole_84 rfl (lv_at hl 2 rfl) ?_
      obtain ⟨v15, σ16, hc17, h⟩ := k_call_e h
      refine k_callv (va_runV (As := [.int v5, .ref (a 24), .int (σ9.1 3), .int x1]) (rest := []) ⟨hx, hb, hml, hown, hts⟩ (K_Nm_give l D a c9 H.size hc17) (cwV 4 hts (k_gV q_564 q_565 q_566 q_5 q_567) rfl rfl rfl h_Nm_give ⟨Nat.le_of_ble_eq_true rfl, Nat.le_of_ble_eq_true rfl⟩) (k_preV (ci := 4) (q0 := 4) rfl kw_4 hP hK hN hD) rfl rfl hl.1 rfl (lv_room (Nat.le_of_ble_eq_true rfl)) d_Se_fitsHole_85 ⟨Nat.zero_le _, Nat.zero_le _⟩) hD hS hA (fun H locs hP hD hS => ?_)
      refine lv_iconst (v := 1) hx hb d_Se_fitsHole_88 (by decide) ?_
      cases h
      exact k_zret (Or.inr rfl) hx hb hr hlk hP hS d_Se_fitsHole_89
  · replace h := (if_pos cn4).symm.trans h
    refine lv_iconst (v := 0) hx hb d_Se_fitsHole_49 (by decide) ?_
    cases h
    exact k_zret (Or.inl rfl) hx hb hr hlk hP hS d_Se_fitsHole_50
def M_Se_fitsHole (σ : kS) (x1 x2 : Int32) : Option (Int32 × kS) := k_call (M_F_isHoleOfKind σ x2 1) fun v1 σ2 => if v1 = 0 then (M_Se_fitsHole_30 σ2 x1 x2) else (k_ld (σ2.2.1 17) 12 (0) fun v5 => k_call (M_F_isLeaf σ2 v5) fun v6 σ7 => if v6 = 0 then (some (0, σ7)) else (M_Se_fitsHole_30 σ7 x1 x2))
set_option maxHeartbeats 4000000 in
set_option maxRecDepth 100000 in
theorem B_Se_fitsHole_0 {p : Program} {l : Launch} {e : Env} {s : State} {m : MethodId} {args : Array Value} {below : List Frame} {meth : Method} {c : Code} {D : va_G} {a : Nat → Nat} {c9 : Nat → ClassId} {A : Nat → Prop} {r9 : Int32} {σo : kS} (C0 : k_Cx D c9 p s m args meth c R_Se c_Se_fitsHole 4 (some .boolean) A) (σ : kS) (x1 x2 : Int32) (H : Heap) (locs : List Loc) (ls : Array Slot) (hP : va_P D kcl (kw a c9 σ) H) (hD : va_D A (kw a c9 σ)) (hS : va_S A s.heap H locs) (hl : lv_has ls 4 [(0, .ref (a 2)), (1, .int x1), (2, .int x2)]) (h : M_Se_fitsHole σ x1 x2 = some (r9, σo)) : W p l e rm_Se_fitsHole s m args below meth c H locs 0 0 (MQ below (k_Qi D a c9 r9 σo A) args s 0 0 A) (F0 m 0 ls []) := by
  obtain ⟨hx, hb, hml, hown, hts, hr, hlk, hK, hN, hA⟩ := id C0
  unfold M_Se_fitsHole at h
  refine lv_aload_n hx hb d_Se_fitsHole_0 rfl (lv_at hl 0 rfl) ?_
  refine va_get (ci := 6) (C := R_Se) (T := T_Se) (N := 13) hx hb hts in_Se hown hK hP 2 kw_2 rfl 0 (by decide) (hts _ q_134) (fun _ h9 => h9) rfl d_Se_fitsHole_1 ?_
  refine lv_iload_n hx hb d_Se_fitsHole_4 rfl (lv_at hl 2 rfl) ?_
  refine lv_iconst (v := 1) hx hb d_Se_fitsHole_5 (by decide) ?_
  obtain ⟨v1, σ2, hc3, h⟩ := k_call_e h
  refine k_calli (va_runV (As := [.int x2, .int 1]) (rest := []) ⟨hx, hb, hml, hown, hts⟩ (K_F_isHoleOfKind l D a c9 H.size hc3) (cwV 2 hts (k_gV q_498 q_499 q_500 q_2 q_501) rfl rfl rfl h_F_isHoleOfKind ⟨Nat.le_of_ble_eq_true rfl, Nat.le_of_ble_eq_true rfl⟩) (k_preV (ci := 2) (q0 := 1) rfl kw_1 hP hK hN hD) rfl rfl hl.1 rfl (lv_room (Nat.le_of_ble_eq_true rfl)) d_Se_fitsHole_6 ⟨Nat.zero_le _, Nat.zero_le _⟩) hD hS hA (fun H locs hP hD hS => ?_)
  refine lv_if_eq (tgt := 30) hx hb d_Se_fitsHole_9 (by decide) (fun cn4 => ?_) (fun cn4 => ?_)
  · replace h := (if_pos cn4).symm.trans h
    exact B_Se_fitsHole_30 C0 _ _ _ H locs ls hP hD hS (lv_sub hl [0, 1, 2] rfl) h
  · replace h := (if_neg cn4).symm.trans h
    refine lv_aload_n hx hb d_Se_fitsHole_12 rfl (lv_at hl 0 rfl) ?_
    refine va_get (ci := 6) (C := R_Se) (T := T_Se) (N := 13) hx hb hts in_Se hown hK hP 2 kw_2 rfl 0 (by decide) (hts _ q_134) (fun _ h9 => h9) rfl d_Se_fitsHole_13 ?_
    refine lv_aload_n hx hb d_Se_fitsHole_16 rfl (lv_at hl 0 rfl) ?_
    refine va_get (ci := 6) (C := R_Se) (T := T_Se) (N := 13) hx hb hts in_Se hown hK hP 2 kw_2 rfl 7 (by decide) (hts _ q_141) (fun _ h9 => h9) rfl d_Se_fitsHole_17 ?_
    refine lv_iconst (v := 0) hx hb d_Se_fitsHole_20 (by decide) ?_
    obtain ⟨v5, ev5, hv5, h⟩ := k_ld_e h
    refine va_iald hx hb hK hP 24 0 kw_24 rfl hv5 d_Se_fitsHole_21 (k_top ev5 ?_)
    obtain ⟨v6, σ7, hc8, h⟩ := k_call_e h
    refine k_calli (va_runV (As := [.int v5]) (rest := []) ⟨hx, hb, hml, hown, hts⟩ (K_F_isLeaf l D a c9 H.size hc8) (cwV 1 hts (k_gV q_543 q_544 q_545 q_2 q_546) rfl rfl rfl h_F_isLeaf ⟨Nat.le_of_ble_eq_true rfl, Nat.le_of_ble_eq_true rfl⟩) (k_preV (ci := 2) (q0 := 1) rfl kw_1 hP hK hN hD) rfl rfl hl.1 rfl (lv_room (Nat.le_of_ble_eq_true rfl)) d_Se_fitsHole_22 ⟨Nat.zero_le _, Nat.zero_le _⟩) hD hS hA (fun H locs hP hD hS => ?_)
    refine lv_if_ne (tgt := 30) hx hb d_Se_fitsHole_25 (by decide) (fun cn9 => ?_) (fun cn9 => ?_)
    · replace h := (if_neg cn9).symm.trans h
      exact B_Se_fitsHole_30 C0 _ _ _ H locs ls hP hD hS (lv_sub hl [0, 1, 2] rfl) h
    · replace h := (if_pos cn9).symm.trans h
      refine lv_iconst (v := 0) hx hb d_Se_fitsHole_28 (by decide) ?_
      cases h
      exact k_zret (Or.inl rfl) hx hb hr hlk hP hS d_Se_fitsHole_29
theorem K_Se_fitsHole (l : Launch) (D : va_G) (a : Nat → Nat) (c9 : Nat → ClassId) (sz : Nat) {σ : kS} {x1 x2 : Int32} {r9 : Int32} {σo : kS} (h : M_Se_fitsHole σ x1 x2 = some (r9, σo)) : Met l y_Se_fitsHole (Cond.code y_Se_fitsHole c_Se_fitsHole 4 (some .boolean) :: kG) rm_Se_fitsHole (k_Pc D a c9 sz σ [.ref (a 2), .int x1, .int x2]) (k_Qi D a c9 r9 σo (k_A a c9 σ sz)) 0 0 (k_A a c9 σ sz) :=
  k_met (Qf := k_Qi D a c9 r9 σo) (by decide) (Nat.le_of_ble_eq_true rfl) (fun p e s m args below meth c A ls C0 hP hD hS hl => B_Se_fitsHole_0 C0 σ x1 x2 s.heap [] ls hP hD hS hl h)
def rm_Se_rowsEndHere : Room := { frames := 1, cells := 0, slots := 0, locals := 21 }
def M_Se_rowsEndHere_49_b (self9 : kS → Int32 → Int32 → Int32 → Int32 → Option (Int32 × kS)) (σ : kS) (x1 x2 x3 x4 : Int32) : Option (Int32 × kS) := if 20 < x4 then (some (1, σ)) else (if x3 ≤ 0 then (some (1, σ)) else (k_call (M_Pl_isLastInRow σ x3) fun v3 σ4 => if v3 = 0 then (some (1, σ4)) else (k_call (M_Pl_parentOf σ4 x3) fun v7 σ8 => k_ld (σ8.2.1 16) 70 (v7) fun v10 => if v10 = 0 then (k_let (x4 + 1) fun v12 => self9 σ8 x1 x2 v7 v12) else (some (0, σ8)))))
def M_Se_rowsEndHere_49 : Nat → kS → Int32 → Int32 → Int32 → Int32 → Option (Int32 × kS)
  | 0 => fun _ _ _ _ _ => none
  | n + 1 => M_Se_rowsEndHere_49_b (M_Se_rowsEndHere_49 n)
set_option maxHeartbeats 4000000 in
set_option maxRecDepth 100000 in
theorem B_Se_rowsEndHere_49 {p : Program} {l : Launch} {e : Env} {s : State} {m : MethodId} {args : Array Value} {below : List Frame} {meth : Method} {c : Code} {D : va_G} {a : Nat → Nat} {c9 : Nat → ClassId} {A : Nat → Prop} {r9 : Int32} {σo : kS} (C0 : k_Cx D c9 p s m args meth c R_Se c_Se_rowsEndHere 5 (some .boolean) A) : ∀ (n : Nat) (σ : kS) (x1 x2 x3 x4 : Int32) (H : Heap) (locs : List Loc) (ls : Array Slot), va_P D kcl (kw a c9 σ) H → va_D A (kw a c9 σ) → va_S A s.heap H locs → lv_has ls 5 [(0, .ref (a 2)), (1, .int x1), (2, .int x2), (3, .int x3), (4, .int x4)] → M_Se_rowsEndHere_49 n σ x1 x2 x3 x4 = some (r9, σo) → W p l e rm_Se_rowsEndHere s m args below meth c H locs 0 0 (MQ below (k_Qi D a c9 r9 σo A) args s 0 0 A) (F0 m 49 ls []) := by
  obtain ⟨hx, hb, hml, hown, hts, hr, hlk, hK, hN, hA⟩ := id C0
  intro n
  induction n with
  | zero =>
    intro σ x1 x2 x3 x4 H locs ls hP hD hS hl h
    replace h : (none : Option (Int32 × kS)) = some (r9, σo) := h
    cases h
  | succ n ih =>
    intro σ x1 x2 x3 x4 H locs ls hP hD hS hl h
    replace h : M_Se_rowsEndHere_49_b (M_Se_rowsEndHere_49 n) σ x1 x2 x3 x4 = some (r9, σo) := h
    unfold M_Se_rowsEndHere_49_b at h
    refine lv_iload hx hb d_Se_rowsEndHere_49 (lv_at hl 4 rfl) ?_
    refine lv_bipush (v := 20) hx hb d_Se_rowsEndHere_51 (by decide) ?_
    refine lv_icmp_gt (tgt := 97) hx hb d_Se_rowsEndHere_53 (by decide) (fun cn1 => ?_) (fun cn1 => ?_)
    · replace h := (if_pos cn1).symm.trans h
      refine lv_iconst (v := 1) hx hb d_Se_rowsEndHere_97 (by decide) ?_
      cases h
      exact k_zret (Or.inr rfl) hx hb hr hlk hP hS d_Se_rowsEndHere_98
    · replace h := (if_neg cn1).symm.trans h
      refine lv_iload_n hx hb d_Se_rowsEndHere_56 rfl (lv_at hl 3 rfl) ?_
      refine lv_if_le (tgt := 97) hx hb d_Se_rowsEndHere_57 (by decide) (fun cn2 => ?_) (fun cn2 => ?_)
      · replace h := (if_pos cn2).symm.trans h
        refine lv_iconst (v := 1) hx hb d_Se_rowsEndHere_97 (by decide) ?_
        cases h
        exact k_zret (Or.inr rfl) hx hb hr hlk hP hS d_Se_rowsEndHere_98
      · replace h := (if_neg cn2).symm.trans h
        refine lv_aload_n hx hb d_Se_rowsEndHere_60 rfl (lv_at hl 0 rfl) ?_
        refine va_get (ci := 6) (C := R_Se) (T := T_Se) (N := 13) hx hb hts in_Se hown hK hP 2 kw_2 rfl 1 (by decide) (hts _ q_135) (fun _ h9 => h9) rfl d_Se_rowsEndHere_61 ?_
        refine lv_iload_n hx hb d_Se_rowsEndHere_64 rfl (lv_at hl 3 rfl) ?_
        obtain ⟨v3, σ4, hc5, h⟩ := k_call_e h
        refine k_calli (va_runV (As := [.int x3]) (rest := []) ⟨hx, hb, hml, hown, hts⟩ (K_Pl_isLastInRow l D a c9 H.size hc5) (cwV 1 hts (k_gV q_592 q_593 q_594 q_4 q_595) rfl rfl rfl h_Pl_isLastInRow ⟨Nat.le_of_ble_eq_true rfl, Nat.le_of_ble_eq_true rfl⟩) (k_preV (ci := 5) (q0 := 3) rfl kw_3 hP hK hN hD) rfl rfl hl.1 rfl (lv_room (Nat.le_of_ble_eq_true rfl)) d_Se_rowsEndHere_65 ⟨Nat.zero_le _, Nat.zero_le _⟩) hD hS hA (fun H locs hP hD hS => ?_)
        refine lv_if_eq (tgt := 97) hx hb d_Se_rowsEndHere_68 (by decide) (fun cn6 => ?_) (fun cn6 => ?_)
        · replace h := (if_pos cn6).symm.trans h
          refine lv_iconst (v := 1) hx hb d_Se_rowsEndHere_97 (by decide) ?_
          cases h
          exact k_zret (Or.inr rfl) hx hb hr hlk hP hS d_Se_rowsEndHere_98
        · replace h := (if_neg cn6).symm.trans h
          refine lv_aload_n hx hb d_Se_rowsEndHere_71 rfl (lv_at hl 0 rfl) ?_
          refine va_get (ci := 6) (C := R_Se) (T := T_Se) (N := 13) hx hb hts in_Se hown hK hP 2 kw_2 rfl 1 (by decide) (hts _ q_135) (fun _ h9 => h9) rfl d_Se_rowsEndHere_72 ?_
          refine lv_iload_n hx hb d_Se_rowsEndHere_75 rfl (lv_at hl 3 rfl) ?_
          obtain ⟨v7, σ8, hc9, h⟩ := k_call_e h
          refine k_calli (va_runV (As := [.int x3]) (rest := []) ⟨hx, hb, hml, hown, hts⟩ (K_Pl_parentOf l D a c9 H.size hc9) (cwV 1 hts (k_gV q_473 q_474 q_475 q_4 q_476) rfl rfl rfl h_Pl_parentOf ⟨Nat.le_of_ble_eq_true rfl, Nat.le_of_ble_eq_true rfl⟩) (k_preV (ci := 5) (q0 := 3) rfl kw_3 hP hK hN hD) rfl rfl hl.1 rfl (lv_room (Nat.le_of_ble_eq_true rfl)) d_Se_rowsEndHere_76 ⟨Nat.zero_le _, Nat.zero_le _⟩) hD hS hA (fun H locs hP hD hS => ?_)
          refine lv_istore_n (lv' := [(3, .int v7), (0, .ref (a 2)), (1, .int x1), (2, .int x2), (4, .int x4)]) hx hb d_Se_rowsEndHere_79 rfl hl (by decide) rfl (fun ls hl => ?_)
          refine lv_aload_n hx hb d_Se_rowsEndHere_80 rfl (lv_at hl 1 rfl) ?_
          refine va_get (ci := 6) (C := R_Se) (T := T_Se) (N := 13) hx hb hts in_Se hown hK hP 2 kw_2 rfl 6 (by decide) (hts _ q_140) (fun _ h9 => h9) rfl d_Se_rowsEndHere_81 ?_
          refine lv_iload_n hx hb d_Se_rowsEndHere_84 rfl (lv_at hl 0 rfl) ?_
          obtain ⟨v10, ev10, hv10, h⟩ := k_ld_e h
          refine va_iald hx hb hK hP 23 0 kw_23 rfl hv10 d_Se_rowsEndHere_85 (k_top ev10 ?_)
          refine lv_if_eq (tgt := 91) hx hb d_Se_rowsEndHere_86 (by decide) (fun cn11 => ?_) (fun cn11 => ?_)
          · replace h := (if_pos cn11).symm.trans h
            obtain ⟨v12, ev12, h⟩ := k_let_e h
            refine lv_iinc (v := v12) (lv' := [(4, .int v12), (3, .int v7), (0, .ref (a 2)), (1, .int x1), (2, .int x2)]) hx hb d_Se_rowsEndHere_91 hl (k := 4) rfl (by rw [ev12]; rfl) (by decide) rfl (fun ls hl => ?_)
            refine lv_goto (tgt := 49) hx hb d_Se_rowsEndHere_94 (by decide) ?_
            exact ih _ _ _ _ _ H locs ls hP hD hS (lv_sub hl [2, 3, 4, 1, 0] rfl) h
          · replace h := (if_neg cn11).symm.trans h
            refine lv_iconst (v := 0) hx hb d_Se_rowsEndHere_89 (by decide) ?_
            cases h
            exact k_zret (Or.inl rfl) hx hb hr hlk hP hS d_Se_rowsEndHere_90
def M_Se_rowsEndHere (σ : kS) (x1 : Int32) : Option (Int32 × kS) := k_call (M_Pl_treeAt σ x1) fun v1 σ2 => k_call (M_F_isNode σ2 v1) fun v4 σ5 => if v4 = 0 then (M_Se_rowsEndHere_49 k_fu σ5 x1 v1 x1 0) else (k_call (M_F_partCount σ5 v1) fun v8 σ9 => if v8 ≤ 0 then (k_ld (σ9.2.1 16) 70 (x1) fun v12 => if v12 = 0 then (M_Se_rowsEndHere_49 k_fu σ9 x1 v1 x1 0) else (some (0, σ9))) else (some (1, σ9)))
set_option maxHeartbeats 4000000 in
set_option maxRecDepth 100000 in
theorem B_Se_rowsEndHere_0 {p : Program} {l : Launch} {e : Env} {s : State} {m : MethodId} {args : Array Value} {below : List Frame} {meth : Method} {c : Code} {D : va_G} {a : Nat → Nat} {c9 : Nat → ClassId} {A : Nat → Prop} {r9 : Int32} {σo : kS} (C0 : k_Cx D c9 p s m args meth c R_Se c_Se_rowsEndHere 5 (some .boolean) A) (σ : kS) (x1 : Int32) (H : Heap) (locs : List Loc) (ls : Array Slot) (hP : va_P D kcl (kw a c9 σ) H) (hD : va_D A (kw a c9 σ)) (hS : va_S A s.heap H locs) (hl : lv_has ls 5 [(0, .ref (a 2)), (1, .int x1)]) (h : M_Se_rowsEndHere σ x1 = some (r9, σo)) : W p l e rm_Se_rowsEndHere s m args below meth c H locs 0 0 (MQ below (k_Qi D a c9 r9 σo A) args s 0 0 A) (F0 m 0 ls []) := by
  obtain ⟨hx, hb, hml, hown, hts, hr, hlk, hK, hN, hA⟩ := id C0
  unfold M_Se_rowsEndHere at h
  refine lv_aload_n hx hb d_Se_rowsEndHere_0 rfl (lv_at hl 0 rfl) ?_
  refine va_get (ci := 6) (C := R_Se) (T := T_Se) (N := 13) hx hb hts in_Se hown hK hP 2 kw_2 rfl 1 (by decide) (hts _ q_135) (fun _ h9 => h9) rfl d_Se_rowsEndHere_1 ?_
  refine lv_iload_n hx hb d_Se_rowsEndHere_4 rfl (lv_at hl 1 rfl) ?_
  obtain ⟨v1, σ2, hc3, h⟩ := k_call_e h
  refine k_calli (va_runV (As := [.int x1]) (rest := []) ⟨hx, hb, hml, hown, hts⟩ (K_Pl_treeAt l D a c9 H.size hc3) (cwV 1 hts (k_gV q_477 q_478 q_479 q_4 q_480) rfl rfl rfl h_Pl_treeAt ⟨Nat.le_of_ble_eq_true rfl, Nat.le_of_ble_eq_true rfl⟩) (k_preV (ci := 5) (q0 := 3) rfl kw_3 hP hK hN hD) rfl rfl hl.1 rfl (lv_room (Nat.le_of_ble_eq_true rfl)) d_Se_rowsEndHere_5 ⟨Nat.zero_le _, Nat.zero_le _⟩) hD hS hA (fun H locs hP hD hS => ?_)
  refine lv_istore_n (lv' := [(2, .int v1), (0, .ref (a 2)), (1, .int x1)]) hx hb d_Se_rowsEndHere_8 rfl hl (by decide) rfl (fun ls hl => ?_)
  refine lv_aload_n hx hb d_Se_rowsEndHere_9 rfl (lv_at hl 1 rfl) ?_
  refine va_get (ci := 6) (C := R_Se) (T := T_Se) (N := 13) hx hb hts in_Se hown hK hP 2 kw_2 rfl 0 (by decide) (hts _ q_134) (fun _ h9 => h9) rfl d_Se_rowsEndHere_10 ?_
  refine lv_iload_n hx hb d_Se_rowsEndHere_13 rfl (lv_at hl 0 rfl) ?_
  obtain ⟨v4, σ5, hc6, h⟩ := k_call_e h
  refine k_calli (va_runV (As := [.int v1]) (rest := []) ⟨hx, hb, hml, hown, hts⟩ (K_F_isNode l D a c9 H.size hc6) (cwV 1 hts (k_gV q_591 q_557 q_558 q_2 q_559) rfl rfl rfl h_F_isNode ⟨Nat.le_of_ble_eq_true rfl, Nat.le_of_ble_eq_true rfl⟩) (k_preV (ci := 2) (q0 := 1) rfl kw_1 hP hK hN hD) rfl rfl hl.1 rfl (lv_room (Nat.le_of_ble_eq_true rfl)) d_Se_rowsEndHere_14 ⟨Nat.zero_le _, Nat.zero_le _⟩) hD hS hA (fun H locs hP hD hS => ?_)
  refine lv_if_eq (tgt := 44) hx hb d_Se_rowsEndHere_17 (by decide) (fun cn7 => ?_) (fun cn7 => ?_)
  · replace h := (if_pos cn7).symm.trans h
    refine lv_iload_n hx hb d_Se_rowsEndHere_44 rfl (lv_at hl 2 rfl) ?_
    refine lv_istore_n (lv' := [(3, .int x1), (2, .int v1), (0, .ref (a 2)), (1, .int x1)]) hx hb d_Se_rowsEndHere_45 rfl hl (by decide) rfl (fun ls hl => ?_)
    refine lv_iconst (v := 0) hx hb d_Se_rowsEndHere_46 (by decide) ?_
    refine lv_istore (lv' := [(4, .int 0), (3, .int x1), (2, .int v1), (0, .ref (a 2)), (1, .int x1)]) hx hb d_Se_rowsEndHere_47 hl (by decide) rfl (fun ls hl => ?_)
    exact B_Se_rowsEndHere_49 C0 k_fu _ _ _ _ _ H locs ls hP hD hS (lv_sub hl [3, 4, 2, 1, 0] rfl) h
  · replace h := (if_neg cn7).symm.trans h
    refine lv_aload_n hx hb d_Se_rowsEndHere_20 rfl (lv_at hl 1 rfl) ?_
    refine va_get (ci := 6) (C := R_Se) (T := T_Se) (N := 13) hx hb hts in_Se hown hK hP 2 kw_2 rfl 0 (by decide) (hts _ q_134) (fun _ h9 => h9) rfl d_Se_rowsEndHere_21 ?_
    refine lv_iload_n hx hb d_Se_rowsEndHere_24 rfl (lv_at hl 0 rfl) ?_
    obtain ⟨v8, σ9, hc10, h⟩ := k_call_e h
    refine k_calli (va_runV (As := [.int v1]) (rest := []) ⟨hx, hb, hml, hown, hts⟩ (K_F_partCount l D a c9 H.size hc10) (cwV 1 hts (k_gV q_537 q_465 q_466 q_2 q_467) rfl rfl rfl h_F_partCount ⟨Nat.le_of_ble_eq_true rfl, Nat.le_of_ble_eq_true rfl⟩) (k_preV (ci := 2) (q0 := 1) rfl kw_1 hP hK hN hD) rfl rfl hl.1 rfl (lv_room (Nat.le_of_ble_eq_true rfl)) d_Se_rowsEndHere_25 ⟨Nat.zero_le _, Nat.zero_le _⟩) hD hS hA (fun H locs hP hD hS => ?_)
    refine lv_if_le (tgt := 33) hx hb d_Se_rowsEndHere_28 (by decide) (fun cn11 => ?_) (fun cn11 => ?_)
    · replace h := (if_pos cn11).symm.trans h
      refine lv_aload_n hx hb d_Se_rowsEndHere_33 rfl (lv_at hl 1 rfl) ?_
      refine va_get (ci := 6) (C := R_Se) (T := T_Se) (N := 13) hx hb hts in_Se hown hK hP 2 kw_2 rfl 6 (by decide) (hts _ q_140) (fun _ h9 => h9) rfl d_Se_rowsEndHere_34 ?_
      refine lv_iload_n hx hb d_Se_rowsEndHere_37 rfl (lv_at hl 2 rfl) ?_
      obtain ⟨v12, ev12, hv12, h⟩ := k_ld_e h
      refine va_iald hx hb hK hP 23 0 kw_23 rfl hv12 d_Se_rowsEndHere_38 (k_top ev12 ?_)
      refine lv_if_eq (tgt := 44) hx hb d_Se_rowsEndHere_39 (by decide) (fun cn13 => ?_) (fun cn13 => ?_)
      · replace h := (if_pos cn13).symm.trans h
        refine lv_iload_n hx hb d_Se_rowsEndHere_44 rfl (lv_at hl 2 rfl) ?_
        refine lv_istore_n (lv' := [(3, .int x1), (2, .int v1), (0, .ref (a 2)), (1, .int x1)]) hx hb d_Se_rowsEndHere_45 rfl hl (by decide) rfl (fun ls hl => ?_)
        refine lv_iconst (v := 0) hx hb d_Se_rowsEndHere_46 (by decide) ?_
        refine lv_istore (lv' := [(4, .int 0), (3, .int x1), (2, .int v1), (0, .ref (a 2)), (1, .int x1)]) hx hb d_Se_rowsEndHere_47 hl (by decide) rfl (fun ls hl => ?_)
        exact B_Se_rowsEndHere_49 C0 k_fu _ _ _ _ _ H locs ls hP hD hS (lv_sub hl [3, 4, 2, 1, 0] rfl) h
      · replace h := (if_neg cn13).symm.trans h
        refine lv_iconst (v := 0) hx hb d_Se_rowsEndHere_42 (by decide) ?_
        cases h
        exact k_zret (Or.inl rfl) hx hb hr hlk hP hS d_Se_rowsEndHere_43
    · replace h := (if_neg cn11).symm.trans h
      refine lv_iconst (v := 1) hx hb d_Se_rowsEndHere_31 (by decide) ?_
      cases h
      exact k_zret (Or.inr rfl) hx hb hr hlk hP hS d_Se_rowsEndHere_32
theorem K_Se_rowsEndHere (l : Launch) (D : va_G) (a : Nat → Nat) (c9 : Nat → ClassId) (sz : Nat) {σ : kS} {x1 : Int32} {r9 : Int32} {σo : kS} (h : M_Se_rowsEndHere σ x1 = some (r9, σo)) : Met l y_Se_rowsEndHere (Cond.code y_Se_rowsEndHere c_Se_rowsEndHere 5 (some .boolean) :: kG) rm_Se_rowsEndHere (k_Pc D a c9 sz σ [.ref (a 2), .int x1]) (k_Qi D a c9 r9 σo (k_A a c9 σ sz)) 0 0 (k_A a c9 σ sz) :=
  k_met (Qf := k_Qi D a c9 r9 σo) (by decide) (Nat.le_of_ble_eq_true rfl) (fun p e s m args below meth c A ls C0 hP hD hS hl => B_Se_rowsEndHere_0 C0 σ x1 s.heap [] ls hP hD hS hl h)
def rm_Se_makeTry : Room := { frames := 26, cells := 0, slots := 0, locals := 714 }
def M_Se_makeTry_50 (σ : kS) (x1 x2 y0 : Int32) : Option (Int32 × kS) := if y0 = 0 then (some (x1, σ)) else (k_call (M_Se_rowsEndHere σ x1) fun v2 σ3 => if v2 = 0 then (some (x1, σ3)) else (k_call (M_Pl_slotCount σ3) fun v6 σ7 => if (x1 + 1) < v6 then (k_st σ7 14 70 ((x1 + 1)) ((-1)) fun σ10 => some ((x1 + 1), σ10)) else (k_set σ7 6 ((σ7.1 6 + 1)) fun σ11 => k_call (M_Mt_keep σ11) fun _ σ13 => some (x1, σ13))))
set_option maxHeartbeats 4000000 in
set_option maxRecDepth 100000 in
theorem B_Se_makeTry_50 {p : Program} {l : Launch} {e : Env} {s : State} {m : MethodId} {args : Array Value} {below : List Frame} {meth : Method} {c : Code} {D : va_G} {a : Nat → Nat} {c9 : Nat → ClassId} {A : Nat → Prop} {r9 : Int32} {σo : kS} (C0 : k_Cx D c9 p s m args meth c R_Se c_Se_makeTry 4 (some .int) A) (σ : kS) (x1 x2 y0 : Int32) (H : Heap) (locs : List Loc) (ls : Array Slot) (hP : va_P D kcl (kw a c9 σ) H) (hD : va_D A (kw a c9 σ)) (hS : va_S A s.heap H locs) (hl : lv_has ls 4 [(0, .ref (a 2)), (1, .int x1), (2, .int x2)]) (h : M_Se_makeTry_50 σ x1 x2 y0 = some (r9, σo)) : W p l e rm_Se_makeTry s m args below meth c H locs 0 0 (MQ below (k_Qi D a c9 r9 σo A) args s 0 0 A) (F0 m 50 ls [.int y0]) := by
  obtain ⟨hx, hb, hml, hown, hts, hr, hlk, hK, hN, hA⟩ := id C0
  unfold M_Se_makeTry_50 at h
  refine lv_istore_n (lv' := [(3, .int y0), (0, .ref (a 2)), (1, .int x1), (2, .int x2)]) hx hb d_Se_makeTry_50 rfl hl (by decide) rfl (fun ls hl => ?_)
  refine lv_iload_n hx hb d_Se_makeTry_51 rfl (lv_at hl 0 rfl) ?_
  refine lv_if_eq (tgt := 63) hx hb d_Se_makeTry_52 (by decide) (fun cn1 => ?_) (fun cn1 => ?_)
  · replace h := (if_pos cn1).symm.trans h
    refine lv_iload_n hx hb d_Se_makeTry_63 rfl (lv_at hl 2 rfl) ?_
    cases h
    exact k_iret hx hb hr hlk hP hS d_Se_makeTry_64
  · replace h := (if_neg cn1).symm.trans h
    refine lv_aload_n hx hb d_Se_makeTry_55 rfl (lv_at hl 1 rfl) ?_
    refine lv_iload_n hx hb d_Se_makeTry_56 rfl (lv_at hl 2 rfl) ?_
    obtain ⟨v2, σ3, hc4, h⟩ := k_call_e h
    refine k_calli (va_runV (As := [.int x1]) (rest := []) ⟨hx, hb, hml, hown, hts⟩ (K_Se_rowsEndHere l D a c9 H.size hc4) (cwV 1 hts (k_gV q_587 q_589 s_14 q_3 q_590) rfl rfl rfl h_Se_rowsEndHere ⟨Nat.le_of_ble_eq_true rfl, Nat.le_of_ble_eq_true rfl⟩) (k_preV (ci := 6) (q0 := 2) rfl kw_2 hP hK hN hD) rfl rfl hl.1 rfl (lv_room (Nat.le_of_ble_eq_true rfl)) d_Se_makeTry_57 ⟨Nat.zero_le _, Nat.zero_le _⟩) hD hS hA (fun H locs hP hD hS => ?_)
    refine lv_if_ne (tgt := 65) hx hb d_Se_makeTry_60 (by decide) (fun cn5 => ?_) (fun cn5 => ?_)
    · replace h := (if_neg cn5).symm.trans h
      refine lv_iload_n hx hb d_Se_makeTry_65 rfl (lv_at hl 2 rfl) ?_
      refine lv_iconst (v := 1) hx hb d_Se_makeTry_66 (by decide) ?_
      refine lv_iadd hx hb d_Se_makeTry_67 ?_
      refine lv_aload_n hx hb d_Se_makeTry_68 rfl (lv_at hl 1 rfl) ?_
      refine va_get (ci := 6) (C := R_Se) (T := T_Se) (N := 13) hx hb hts in_Se hown hK hP 2 kw_2 rfl 1 (by decide) (hts _ q_135) (fun _ h9 => h9) rfl d_Se_makeTry_69 ?_
      obtain ⟨v6, σ7, hc8, h⟩ := k_call_e h
      refine k_calli (va_runV (As := []) (rest := [.int ((x1 + 1))]) ⟨hx, hb, hml, hown, hts⟩ (K_Pl_slotCount l D a c9 H.size hc8) (cwV 0 hts (k_gV q_596 q_597 q_598 q_4 q_599) rfl rfl rfl h_Pl_slotCount ⟨Nat.le_of_ble_eq_true rfl, Nat.le_of_ble_eq_true rfl⟩) (k_preV (ci := 5) (q0 := 3) rfl kw_3 hP hK hN hD) rfl rfl hl.1 rfl (lv_room (Nat.le_of_ble_eq_true rfl)) d_Se_makeTry_72 ⟨Nat.zero_le _, Nat.zero_le _⟩) hD hS hA (fun H locs hP hD hS => ?_)
      refine lv_icmp_lt (tgt := 101) hx hb d_Se_makeTry_75 (by decide) (fun cn9 => ?_) (fun cn9 => ?_)
      · replace h := (if_pos cn9).symm.trans h
        refine lv_aload_n hx hb d_Se_makeTry_101 rfl (lv_at hl 1 rfl) ?_
        refine va_get (ci := 6) (C := R_Se) (T := T_Se) (N := 13) hx hb hts in_Se hown hK hP 2 kw_2 rfl 4 (by decide) (hts _ q_138) (fun _ h9 => h9) rfl d_Se_makeTry_102 ?_
        refine lv_iload_n hx hb d_Se_makeTry_105 rfl (lv_at hl 2 rfl) ?_
        refine lv_iconst (v := 1) hx hb d_Se_makeTry_106 (by decide) ?_
        refine lv_iadd hx hb d_Se_makeTry_107 ?_
        refine lv_iconst (v := (-1)) hx hb d_Se_makeTry_108 (by decide) ?_
        obtain ⟨σ10, eσ10, hiσ10, h⟩ := k_st_e h
        refine va_iast hx hb hK hP hD hS 21 0 kw_21 rfl hiσ10 d_Se_makeTry_109 (fun H locs hP hD hS => ?_)
        replace hP := k_mvP (kw_s21.trans (congrArg _ eσ10.symm)) hP
        replace hD := k_mvD (kw_s21.trans (congrArg _ eσ10.symm)) hD
        refine lv_iload_n hx hb d_Se_makeTry_110 rfl (lv_at hl 2 rfl) ?_
        refine lv_iconst (v := 1) hx hb d_Se_makeTry_111 (by decide) ?_
        refine lv_iadd hx hb d_Se_makeTry_112 ?_
        cases h
        exact k_iret hx hb hr hlk hP hS d_Se_makeTry_113
      · replace h := (if_neg cn9).symm.trans h
        refine lv_aload_n hx hb d_Se_makeTry_78 rfl (lv_at hl 1 rfl) ?_
        refine lv_dup hx hb d_Se_makeTry_79 rfl ?_
        refine va_get (ci := 6) (C := R_Se) (T := T_Se) (N := 13) hx hb hts in_Se hown hK hP 2 kw_2 rfl 11 (by decide) (hts _ q_145) (fun _ h9 => h9) rfl d_Se_makeTry_80 ?_
        refine lv_iconst (v := 1) hx hb d_Se_makeTry_83 (by decide) ?_
        refine lv_iadd hx hb d_Se_makeTry_84 ?_
        obtain ⟨σ11, eσ11, h⟩ := k_set_e h
        refine va_put (ci := 6) (v := .int ((σ7.1 6 + 1))) (ty := .int) (C := R_Se) (T := T_Se) (N := 13) hx hb hts in_Se t_Se t_Se_ok n_Se hown hK hP hD hS 2 kw_2 rfl 11 (by decide) (hts _ q_145) (fun _ h9 => h9) rfl (by decide +kernel) rfl rfl (Nat.le_of_ble_eq_true rfl) d_Se_makeTry_85 (fun H locs hP hD hS => ?_)
        replace hP := k_mvP (kw_f2_11.trans (congrArg _ eσ11.symm)) hP
        replace hD := k_mvD (kw_f2_11.trans (congrArg _ eσ11.symm)) hD
        refine lv_aload_n hx hb d_Se_makeTry_88 rfl (lv_at hl 1 rfl) ?_
        refine va_get (ci := 6) (C := R_Se) (T := T_Se) (N := 13) hx hb hts in_Se hown hK hP 2 kw_2 rfl 3 (by decide) (hts _ q_137) (fun _ h9 => h9) rfl d_Se_makeTry_89 ?_
        refine lv_aload_n hx hb d_Se_makeTry_92 rfl (lv_at hl 1 rfl) ?_
        refine va_get (ci := 6) (C := R_Se) (T := T_Se) (N := 13) hx hb hts in_Se hown hK hP 2 kw_2 rfl 2 (by decide) (hts _ q_136) (fun _ h9 => h9) rfl d_Se_makeTry_93 ?_
        obtain ⟨v12, σ13, hc14, h⟩ := k_call_e h
        refine k_callv (va_runV (As := [.ref (a 4)]) (rest := []) ⟨hx, hb, hml, hown, hts⟩ (K_Mt_keep l D a c9 H.size hc14) (cwV 1 hts (k_gV q_600 q_601 q_602 q_6 q_603) rfl rfl rfl h_Mt_keep ⟨Nat.le_of_ble_eq_true rfl, Nat.le_of_ble_eq_true rfl⟩) (k_preV (ci := 3) (q0 := 5) rfl kw_5 hP hK hN hD) rfl rfl hl.1 rfl (lv_room (Nat.le_of_ble_eq_true rfl)) d_Se_makeTry_96 ⟨Nat.zero_le _, Nat.zero_le _⟩) hD hS hA (fun H locs hP hD hS => ?_)
        refine lv_iload_n hx hb d_Se_makeTry_99 rfl (lv_at hl 2 rfl) ?_
        cases h
        exact k_iret hx hb hr hlk hP hS d_Se_makeTry_100
    · replace h := (if_pos cn5).symm.trans h
      refine lv_iload_n hx hb d_Se_makeTry_63 rfl (lv_at hl 2 rfl) ?_
      cases h
      exact k_iret hx hb hr hlk hP hS d_Se_makeTry_64
def M_Se_makeTry (σ : kS) (x1 : Int32) : Option (Int32 × kS) := k_set σ 5 ((σ.1 5 + 1)) fun σ1 => k_call (M_Se_gatherRow σ1 x1) fun _ σ3 => k_call (M_Pl_treeAt σ3 x1) fun v5 σ6 => k_call (M_F_isHole σ6 v5) fun v8 σ9 => if v8 = 0 then (k_call (M_Se_fitsLeafOrNode σ9 x1 v5) fun v12 σ13 => M_Se_makeTry_50 σ13 x1 v5 v12) else (k_call (M_Se_fitsHole σ9 x1 v5) fun v15 σ16 => M_Se_makeTry_50 σ16 x1 v5 v15)
set_option maxHeartbeats 4000000 in
set_option maxRecDepth 100000 in
theorem B_Se_makeTry_0 {p : Program} {l : Launch} {e : Env} {s : State} {m : MethodId} {args : Array Value} {below : List Frame} {meth : Method} {c : Code} {D : va_G} {a : Nat → Nat} {c9 : Nat → ClassId} {A : Nat → Prop} {r9 : Int32} {σo : kS} (C0 : k_Cx D c9 p s m args meth c R_Se c_Se_makeTry 4 (some .int) A) (σ : kS) (x1 : Int32) (H : Heap) (locs : List Loc) (ls : Array Slot) (hP : va_P D kcl (kw a c9 σ) H) (hD : va_D A (kw a c9 σ)) (hS : va_S A s.heap H locs) (hl : lv_has ls 4 [(0, .ref (a 2)), (1, .int x1)]) (h : M_Se_makeTry σ x1 = some (r9, σo)) : W p l e rm_Se_makeTry s m args below meth c H locs 0 0 (MQ below (k_Qi D a c9 r9 σo A) args s 0 0 A) (F0 m 0 ls []) := by
  obtain ⟨hx, hb, hml, hown, hts, hr, hlk, hK, hN, hA⟩ := id C0
  unfold M_Se_makeTry at h
  refine lv_aload_n hx hb d_Se_makeTry_0 rfl (lv_at hl 0 rfl) ?_
  refine lv_dup hx hb d_Se_makeTry_1 rfl ?_
  refine va_get (ci := 6) (C := R_Se) (T := T_Se) (N := 13) hx hb hts in_Se hown hK hP 2 kw_2 rfl 10 (by decide) (hts _ q_144) (fun _ h9 => h9) rfl d_Se_makeTry_2 ?_
  refine lv_iconst (v := 1) hx hb d_Se_makeTry_5 (by decide) ?_
  refine lv_iadd hx hb d_Se_makeTry_6 ?_
  obtain ⟨σ1, eσ1, h⟩ := k_set_e h
  refine va_put (ci := 6) (v := .int ((σ.1 5 + 1))) (ty := .int) (C := R_Se) (T := T_Se) (N := 13) hx hb hts in_Se t_Se t_Se_ok n_Se hown hK hP hD hS 2 kw_2 rfl 10 (by decide) (hts _ q_144) (fun _ h9 => h9) rfl (by decide +kernel) rfl rfl (Nat.le_of_ble_eq_true rfl) d_Se_makeTry_7 (fun H locs hP hD hS => ?_)
  replace hP := k_mvP (kw_f2_10.trans (congrArg _ eσ1.symm)) hP
  replace hD := k_mvD (kw_f2_10.trans (congrArg _ eσ1.symm)) hD
  refine lv_aload_n hx hb d_Se_makeTry_10 rfl (lv_at hl 0 rfl) ?_
  refine lv_iload_n hx hb d_Se_makeTry_11 rfl (lv_at hl 1 rfl) ?_
  obtain ⟨v2, σ3, hc4, h⟩ := k_call_e h
  refine k_callv (va_runV (As := [.int x1]) (rest := []) ⟨hx, hb, hml, hown, hts⟩ (K_Se_gatherRow l D a c9 H.size hc4) (cwV 1 hts (k_gV q_533 q_535 s_10 q_3 q_536) rfl rfl rfl h_Se_gatherRow ⟨Nat.le_of_ble_eq_true rfl, Nat.le_of_ble_eq_true rfl⟩) (k_preV (ci := 6) (q0 := 2) rfl kw_2 hP hK hN hD) rfl rfl hl.1 rfl (lv_room (Nat.le_of_ble_eq_true rfl)) d_Se_makeTry_12 ⟨Nat.zero_le _, Nat.zero_le _⟩) hD hS hA (fun H locs hP hD hS => ?_)
  refine lv_aload_n hx hb d_Se_makeTry_15 rfl (lv_at hl 0 rfl) ?_
  refine va_get (ci := 6) (C := R_Se) (T := T_Se) (N := 13) hx hb hts in_Se hown hK hP 2 kw_2 rfl 1 (by decide) (hts _ q_135) (fun _ h9 => h9) rfl d_Se_makeTry_16 ?_
  refine lv_iload_n hx hb d_Se_makeTry_19 rfl (lv_at hl 1 rfl) ?_
  obtain ⟨v5, σ6, hc7, h⟩ := k_call_e h
  refine k_calli (va_runV (As := [.int x1]) (rest := []) ⟨hx, hb, hml, hown, hts⟩ (K_Pl_treeAt l D a c9 H.size hc7) (cwV 1 hts (k_gV q_477 q_478 q_479 q_4 q_480) rfl rfl rfl h_Pl_treeAt ⟨Nat.le_of_ble_eq_true rfl, Nat.le_of_ble_eq_true rfl⟩) (k_preV (ci := 5) (q0 := 3) rfl kw_3 hP hK hN hD) rfl rfl hl.1 rfl (lv_room (Nat.le_of_ble_eq_true rfl)) d_Se_makeTry_20 ⟨Nat.zero_le _, Nat.zero_le _⟩) hD hS hA (fun H locs hP hD hS => ?_)
  refine lv_istore_n (lv' := [(2, .int v5), (0, .ref (a 2)), (1, .int x1)]) hx hb d_Se_makeTry_23 rfl hl (by decide) rfl (fun ls hl => ?_)
  refine lv_aload_n hx hb d_Se_makeTry_24 rfl (lv_at hl 1 rfl) ?_
  refine va_get (ci := 6) (C := R_Se) (T := T_Se) (N := 13) hx hb hts in_Se hown hK hP 2 kw_2 rfl 0 (by decide) (hts _ q_134) (fun _ h9 => h9) rfl d_Se_makeTry_25 ?_
  refine lv_iload_n hx hb d_Se_makeTry_28 rfl (lv_at hl 0 rfl) ?_
  obtain ⟨v8, σ9, hc10, h⟩ := k_call_e h
  refine k_calli (va_runV (As := [.int v5]) (rest := []) ⟨hx, hb, hml, hown, hts⟩ (K_F_isHole l D a c9 H.size hc10) (cwV 1 hts (k_gV q_481 q_414 q_415 q_2 q_416) rfl rfl rfl h_F_isHole ⟨Nat.le_of_ble_eq_true rfl, Nat.le_of_ble_eq_true rfl⟩) (k_preV (ci := 2) (q0 := 1) rfl kw_1 hP hK hN hD) rfl rfl hl.1 rfl (lv_room (Nat.le_of_ble_eq_true rfl)) d_Se_makeTry_29 ⟨Nat.zero_le _, Nat.zero_le _⟩) hD hS hA (fun H locs hP hD hS => ?_)
  refine lv_if_eq (tgt := 44) hx hb d_Se_makeTry_32 (by decide) (fun cn11 => ?_) (fun cn11 => ?_)
  · replace h := (if_pos cn11).symm.trans h
    refine lv_aload_n hx hb d_Se_makeTry_44 rfl (lv_at hl 1 rfl) ?_
    refine lv_iload_n hx hb d_Se_makeTry_45 rfl (lv_at hl 2 rfl) ?_
    refine lv_iload_n hx hb d_Se_makeTry_46 rfl (lv_at hl 0 rfl) ?_
    obtain ⟨v12, σ13, hc14, h⟩ := k_call_e h
    refine k_calli (va_runV (As := [.int x1, .int v5]) (rest := []) ⟨hx, hb, hml, hown, hts⟩ (K_Se_fitsLeafOrNode l D a c9 H.size hc14) (cwV 2 hts (k_gV q_576 q_578 s_13 q_3 q_579) rfl rfl rfl h_Se_fitsLeafOrNode ⟨Nat.le_of_ble_eq_true rfl, Nat.le_of_ble_eq_true rfl⟩) (k_preV (ci := 6) (q0 := 2) rfl kw_2 hP hK hN hD) rfl rfl hl.1 rfl (lv_room (Nat.le_of_ble_eq_true rfl)) d_Se_makeTry_47 ⟨Nat.zero_le _, Nat.zero_le _⟩) hD hS hA (fun H locs hP hD hS => ?_)
    exact B_Se_makeTry_50 C0 _ _ _ _ H locs ls hP hD hS (lv_sub hl [1, 2, 0] rfl) h
  · replace h := (if_neg cn11).symm.trans h
    refine lv_aload_n hx hb d_Se_makeTry_35 rfl (lv_at hl 1 rfl) ?_
    refine lv_iload_n hx hb d_Se_makeTry_36 rfl (lv_at hl 2 rfl) ?_
    refine lv_iload_n hx hb d_Se_makeTry_37 rfl (lv_at hl 0 rfl) ?_
    obtain ⟨v15, σ16, hc17, h⟩ := k_call_e h
    refine k_calli (va_runV (As := [.int x1, .int v5]) (rest := []) ⟨hx, hb, hml, hown, hts⟩ (K_Se_fitsHole l D a c9 H.size hc17) (cwV 2 hts (k_gV q_539 q_541 s_11 q_3 q_542) rfl rfl rfl h_Se_fitsHole ⟨Nat.le_of_ble_eq_true rfl, Nat.le_of_ble_eq_true rfl⟩) (k_preV (ci := 6) (q0 := 2) rfl kw_2 hP hK hN hD) rfl rfl hl.1 rfl (lv_room (Nat.le_of_ble_eq_true rfl)) d_Se_makeTry_38 ⟨Nat.zero_le _, Nat.zero_le _⟩) hD hS hA (fun H locs hP hD hS => ?_)
    refine lv_goto (tgt := 50) hx hb d_Se_makeTry_41 (by decide) ?_
    exact B_Se_makeTry_50 C0 _ _ _ _ H locs ls hP hD hS (lv_sub hl [1, 2, 0] rfl) h
theorem K_Se_makeTry (l : Launch) (D : va_G) (a : Nat → Nat) (c9 : Nat → ClassId) (sz : Nat) {σ : kS} {x1 : Int32} {r9 : Int32} {σo : kS} (h : M_Se_makeTry σ x1 = some (r9, σo)) : Met l y_Se_makeTry (Cond.code y_Se_makeTry c_Se_makeTry 4 (some .int) :: kG) rm_Se_makeTry (k_Pc D a c9 sz σ [.ref (a 2), .int x1]) (k_Qi D a c9 r9 σo (k_A a c9 σ sz)) 0 0 (k_A a c9 σ sz) :=
  k_met (Qf := k_Qi D a c9 r9 σo) (by decide) (Nat.le_of_ble_eq_true rfl) (fun p e s m args below meth c A ls C0 hP hD hS hl => B_Se_makeTry_0 C0 σ x1 s.heap [] ls hP hD hS hl h)
def rm_Se_run : Room := { frames := 27, cells := 0, slots := 0, locals := 737 }
def M_Se_run_34_b (self9 : kS → Int32 → Int32 → Int32 → Int32 → Int32 → Option (Int32 × kS)) (σ : kS) (x1 x2 x3 x4 x5 : Int32) : Option (Int32 × kS) := if 802 ≤ x5 then (some (0, σ)) else (if x4 < 0 then (some (0, σ)) else (k_call (M_Se_release σ x4) fun _ σ4 => k_call (M_Se_choose σ4 x4) fun v6 σ7 => if v6 = 0 then (k_let (x4 + (-1)) fun v16 => k_let (x5 + 1) fun v17 => self9 σ7 x1 x2 x3 v16 v17) else (if σ7.1 5 < x3 then (k_call (M_Se_makeTry σ7 x4) fun v11 σ12 => k_let (x5 + 1) fun v14 => self9 σ12 x1 x2 x3 v11 v14) else (k_set σ7 7 (1) fun σ15 => some (0, σ15)))))
def M_Se_run_34 : Nat → kS → Int32 → Int32 → Int32 → Int32 → Int32 → Option (Int32 × kS)
  | 0 => fun _ _ _ _ _ _ => none
  | n + 1 => M_Se_run_34_b (M_Se_run_34 n)
set_option maxHeartbeats 4000000 in
set_option maxRecDepth 100000 in
theorem B_Se_run_34 {p : Program} {l : Launch} {e : Env} {s : State} {m : MethodId} {args : Array Value} {below : List Frame} {meth : Method} {c : Code} {D : va_G} {a : Nat → Nat} {c9 : Nat → ClassId} {A : Nat → Prop} {r9 : Int32} {σo : kS} (C0 : k_Cx D c9 p s m args meth c R_Se c_Se_run 6 none A) : ∀ (n : Nat) (σ : kS) (x1 x2 x3 x4 x5 : Int32) (H : Heap) (locs : List Loc) (ls : Array Slot), va_P D kcl (kw a c9 σ) H → va_D A (kw a c9 σ) → va_S A s.heap H locs → lv_has ls 6 [(0, .ref (a 2)), (1, .int x1), (2, .int x2), (3, .int x3), (4, .int x4), (5, .int x5)] → M_Se_run_34 n σ x1 x2 x3 x4 x5 = some (r9, σo) → W p l e rm_Se_run s m args below meth c H locs 0 0 (MQ below (k_Qv D a c9 σo A) args s 0 0 A) (F0 m 34 ls []) := by
  obtain ⟨hx, hb, hml, hown, hts, hr, hlk, hK, hN, hA⟩ := id C0
  intro n
  induction n with
  | zero =>
    intro σ x1 x2 x3 x4 x5 H locs ls hP hD hS hl h
    replace h : (none : Option (Int32 × kS)) = some (r9, σo) := h
    cases h
  | succ n ih =>
    intro σ x1 x2 x3 x4 x5 H locs ls hP hD hS hl h
    replace h : M_Se_run_34_b (M_Se_run_34 n) σ x1 x2 x3 x4 x5 = some (r9, σo) := h
    unfold M_Se_run_34_b at h
    refine lv_iload hx hb d_Se_run_34 (lv_at hl 5 rfl) ?_
    refine lv_sipush (v := 802) hx hb d_Se_run_36 (by decide) ?_
    refine lv_icmp_ge (tgt := 96) hx hb d_Se_run_39 (by decide) (fun cn1 => ?_) (fun cn1 => ?_)
    · replace h := (if_pos cn1).symm.trans h
      cases h
      exact k_vret hx hb hr hlk hP hS d_Se_run_96
    · replace h := (if_neg cn1).symm.trans h
      refine lv_iload hx hb d_Se_run_42 (lv_at hl 4 rfl) ?_
      refine lv_if_lt (tgt := 96) hx hb d_Se_run_44 (by decide) (fun cn2 => ?_) (fun cn2 => ?_)
      · replace h := (if_pos cn2).symm.trans h
        cases h
        exact k_vret hx hb hr hlk hP hS d_Se_run_96
      · replace h := (if_neg cn2).symm.trans h
        refine lv_aload_n hx hb d_Se_run_47 rfl (lv_at hl 0 rfl) ?_
        refine lv_iload hx hb d_Se_run_48 (lv_at hl 4 rfl) ?_
        obtain ⟨v3, σ4, hc5, h⟩ := k_call_e h
        refine k_callv (va_runV (As := [.int x4]) (rest := []) ⟨hx, hb, hml, hown, hts⟩ (K_Se_release l D a c9 H.size hc5) (cwV 1 hts (k_gV q_469 q_471 s_5 q_3 q_472) rfl rfl rfl h_Se_release ⟨Nat.le_of_ble_eq_true rfl, Nat.le_of_ble_eq_true rfl⟩) (k_preV (ci := 6) (q0 := 2) rfl kw_2 hP hK hN hD) rfl rfl hl.1 rfl (lv_room (Nat.le_of_ble_eq_true rfl)) d_Se_run_50 ⟨Nat.zero_le _, Nat.zero_le _⟩) hD hS hA (fun H locs hP hD hS => ?_)
        refine lv_aload_n hx hb d_Se_run_53 rfl (lv_at hl 0 rfl) ?_
        refine lv_iload hx hb d_Se_run_54 (lv_at hl 4 rfl) ?_
        obtain ⟨v6, σ7, hc8, h⟩ := k_call_e h
        refine k_calli (va_runV (As := [.int x4]) (rest := []) ⟨hx, hb, hml, hown, hts⟩ (K_Se_choose l D a c9 H.size hc8) (cwV 1 hts (k_gV q_490 q_492 s_6 q_3 q_493) rfl rfl rfl h_Se_choose ⟨Nat.le_of_ble_eq_true rfl, Nat.le_of_ble_eq_true rfl⟩) (k_preV (ci := 6) (q0 := 2) rfl kw_2 hP hK hN hD) rfl rfl hl.1 rfl (lv_room (Nat.le_of_ble_eq_true rfl)) d_Se_run_56 ⟨Nat.zero_le _, Nat.zero_le _⟩) hD hS hA (fun H locs hP hD hS => ?_)
        refine lv_if_ne (tgt := 68) hx hb d_Se_run_59 (by decide) (fun cn9 => ?_) (fun cn9 => ?_)
        · replace h := (if_neg cn9).symm.trans h
          refine lv_aload_n hx hb d_Se_run_68 rfl (lv_at hl 0 rfl) ?_
          refine va_get (ci := 6) (C := R_Se) (T := T_Se) (N := 13) hx hb hts in_Se hown hK hP 2 kw_2 rfl 10 (by decide) (hts _ q_144) (fun _ h9 => h9) rfl d_Se_run_69 ?_
          refine lv_iload_n hx hb d_Se_run_72 rfl (lv_at hl 3 rfl) ?_
          refine lv_icmp_lt (tgt := 82) hx hb d_Se_run_73 (by decide) (fun cn10 => ?_) (fun cn10 => ?_)
          · replace h := (if_pos cn10).symm.trans h
            refine lv_aload_n hx hb d_Se_run_82 rfl (lv_at hl 0 rfl) ?_
            refine lv_iload hx hb d_Se_run_83 (lv_at hl 4 rfl) ?_
            obtain ⟨v11, σ12, hc13, h⟩ := k_call_e h
            refine k_calli (va_runV (As := [.int x4]) (rest := []) ⟨hx, hb, hml, hown, hts⟩ (K_Se_makeTry l D a c9 H.size hc13) (cwV 1 hts (k_gV q_529 q_531 s_9 q_3 q_532) rfl rfl rfl h_Se_makeTry ⟨Nat.le_of_ble_eq_true rfl, Nat.le_of_ble_eq_true rfl⟩) (k_preV (ci := 6) (q0 := 2) rfl kw_2 hP hK hN hD) rfl rfl hl.1 rfl (lv_room (Nat.le_of_ble_eq_true rfl)) d_Se_run_85 ⟨Nat.zero_le _, Nat.zero_le _⟩) hD hS hA (fun H locs hP hD hS => ?_)
            refine lv_istore (lv' := [(4, .int v11), (0, .ref (a 2)), (1, .int x1), (2, .int x2), (3, .int x3), (5, .int x5)]) hx hb d_Se_run_88 hl (by decide) rfl (fun ls hl => ?_)
            obtain ⟨v14, ev14, h⟩ := k_let_e h
            refine lv_iinc (v := v14) (lv' := [(5, .int v14), (4, .int v11), (0, .ref (a 2)), (1, .int x1), (2, .int x2), (3, .int x3)]) hx hb d_Se_run_90 hl (k := 5) rfl (by rw [ev14]; rfl) (by decide) rfl (fun ls hl => ?_)
            refine lv_goto (tgt := 34) hx hb d_Se_run_93 (by decide) ?_
            exact ih _ _ _ _ _ _ H locs ls hP hD hS (lv_sub hl [2, 3, 4, 5, 1, 0] rfl) h
          · replace h := (if_neg cn10).symm.trans h
            refine lv_aload_n hx hb d_Se_run_76 rfl (lv_at hl 0 rfl) ?_
            refine lv_iconst (v := 1) hx hb d_Se_run_77 (by decide) ?_
            obtain ⟨σ15, eσ15, h⟩ := k_set_e h
            refine va_put (ci := 6) (v := .int 1) (ty := .boolean) (C := R_Se) (T := T_Se) (N := 13) hx hb hts in_Se t_Se t_Se_ok n_Se hown hK hP hD hS 2 kw_2 rfl 12 (by decide) (hts _ q_146) (fun _ h9 => h9) rfl (by decide +kernel) rfl rfl (Nat.le_of_ble_eq_true rfl) d_Se_run_78 (fun H locs hP hD hS => ?_)
            replace hP := k_mvP (kw_f2_12.trans (congrArg _ eσ15.symm)) hP
            replace hD := k_mvD (kw_f2_12.trans (congrArg _ eσ15.symm)) hD
            cases h
            exact k_vret hx hb hr hlk hP hS d_Se_run_81
        · replace h := (if_pos cn9).symm.trans h
          obtain ⟨v16, ev16, h⟩ := k_let_e h
          refine lv_iinc (v := v16) (lv' := [(4, .int v16), (0, .ref (a 2)), (1, .int x1), (2, .int x2), (3, .int x3), (5, .int x5)]) hx hb d_Se_run_62 hl (k := 4) rfl (by rw [ev16]; rfl) (by decide) rfl (fun ls hl => ?_)
          refine lv_goto (tgt := 90) hx hb d_Se_run_65 (by decide) ?_
          obtain ⟨v17, ev17, h⟩ := k_let_e h
          refine lv_iinc (v := v17) (lv' := [(5, .int v17), (4, .int v16), (0, .ref (a 2)), (1, .int x1), (2, .int x2), (3, .int x3)]) hx hb d_Se_run_90 hl (k := 5) rfl (by rw [ev17]; rfl) (by decide) rfl (fun ls hl => ?_)
          refine lv_goto (tgt := 34) hx hb d_Se_run_93 (by decide) ?_
          exact ih _ _ _ _ _ _ H locs ls hP hD hS (lv_sub hl [2, 3, 4, 5, 1, 0] rfl) h
def M_Se_run (σ : kS) (x1 x2 x3 : Int32) : Option (Int32 × kS) := k_call (M_Se_clear σ) fun _ σ2 => k_call (M_Pl_lay σ2 x1) fun _ σ5 => k_set σ5 4 (x2) fun σ7 => k_st σ7 14 70 (0) ((-1)) fun σ8 => M_Se_run_34 k_fu σ8 x1 x2 x3 0 0
set_option maxHeartbeats 4000000 in
set_option maxRecDepth 100000 in
theorem B_Se_run_0 {p : Program} {l : Launch} {e : Env} {s : State} {m : MethodId} {args : Array Value} {below : List Frame} {meth : Method} {c : Code} {D : va_G} {a : Nat → Nat} {c9 : Nat → ClassId} {A : Nat → Prop} {r9 : Int32} {σo : kS} (C0 : k_Cx D c9 p s m args meth c R_Se c_Se_run 6 none A) (σ : kS) (x1 x2 x3 : Int32) (H : Heap) (locs : List Loc) (ls : Array Slot) (hP : va_P D kcl (kw a c9 σ) H) (hD : va_D A (kw a c9 σ)) (hS : va_S A s.heap H locs) (hl : lv_has ls 6 [(0, .ref (a 2)), (1, .int x1), (2, .int x2), (3, .int x3)]) (h : M_Se_run σ x1 x2 x3 = some (r9, σo)) : W p l e rm_Se_run s m args below meth c H locs 0 0 (MQ below (k_Qv D a c9 σo A) args s 0 0 A) (F0 m 0 ls []) := by
  obtain ⟨hx, hb, hml, hown, hts, hr, hlk, hK, hN, hA⟩ := id C0
  unfold M_Se_run at h
  refine lv_aload_n hx hb d_Se_run_0 rfl (lv_at hl 0 rfl) ?_
  obtain ⟨v1, σ2, hc3, h⟩ := k_call_e h
  refine k_callv (va_runV (As := []) (rest := []) ⟨hx, hb, hml, hown, hts⟩ (K_Se_clear l D a c9 H.size hc3) (cwV 0 hts (k_gV q_442 q_443 q_444 q_3 q_445) rfl rfl rfl h_Se_clear ⟨Nat.le_of_ble_eq_true rfl, Nat.le_of_ble_eq_true rfl⟩) (k_preV (ci := 6) (q0 := 2) rfl kw_2 hP hK hN hD) rfl rfl hl.1 rfl (lv_room (Nat.le_of_ble_eq_true rfl)) d_Se_run_1 ⟨Nat.zero_le _, Nat.zero_le _⟩) hD hS hA (fun H locs hP hD hS => ?_)
  refine lv_aload_n hx hb d_Se_run_4 rfl (lv_at hl 0 rfl) ?_
  refine va_get (ci := 6) (C := R_Se) (T := T_Se) (N := 13) hx hb hts in_Se hown hK hP 2 kw_2 rfl 1 (by decide) (hts _ q_135) (fun _ h9 => h9) rfl d_Se_run_5 ?_
  refine lv_aload_n hx hb d_Se_run_8 rfl (lv_at hl 0 rfl) ?_
  refine va_get (ci := 6) (C := R_Se) (T := T_Se) (N := 13) hx hb hts in_Se hown hK hP 2 kw_2 rfl 0 (by decide) (hts _ q_134) (fun _ h9 => h9) rfl d_Se_run_9 ?_
  refine lv_iload_n hx hb d_Se_run_12 rfl (lv_at hl 1 rfl) ?_
  obtain ⟨v4, σ5, hc6, h⟩ := k_call_e h
  refine k_callv (va_runV (As := [.ref (a 1), .int x1]) (rest := []) ⟨hx, hb, hml, hown, hts⟩ (K_Pl_lay l D a c9 H.size hc6) (cwV 2 hts (k_gV q_457 q_458 q_459 q_4 q_460) rfl rfl rfl h_Pl_lay ⟨Nat.le_of_ble_eq_true rfl, Nat.le_of_ble_eq_true rfl⟩) (k_preV (ci := 5) (q0 := 3) rfl kw_3 hP hK hN hD) rfl rfl hl.1 rfl (lv_room (Nat.le_of_ble_eq_true rfl)) d_Se_run_13 ⟨Nat.zero_le _, Nat.zero_le _⟩) hD hS hA (fun H locs hP hD hS => ?_)
  refine lv_aload_n hx hb d_Se_run_16 rfl (lv_at hl 0 rfl) ?_
  refine lv_iload_n hx hb d_Se_run_17 rfl (lv_at hl 2 rfl) ?_
  obtain ⟨σ7, eσ7, h⟩ := k_set_e h
  refine va_put (ci := 6) (v := .int x2) (ty := .int) (C := R_Se) (T := T_Se) (N := 13) hx hb hts in_Se t_Se t_Se_ok n_Se hown hK hP hD hS 2 kw_2 rfl 9 (by decide) (hts _ q_143) (fun _ h9 => h9) rfl (by decide +kernel) rfl rfl (Nat.le_of_ble_eq_true rfl) d_Se_run_18 (fun H locs hP hD hS => ?_)
  replace hP := k_mvP (kw_f2_9.trans (congrArg _ eσ7.symm)) hP
  replace hD := k_mvD (kw_f2_9.trans (congrArg _ eσ7.symm)) hD
  refine lv_iconst (v := 0) hx hb d_Se_run_21 (by decide) ?_
  refine lv_istore (lv' := [(4, .int 0), (0, .ref (a 2)), (1, .int x1), (2, .int x2), (3, .int x3)]) hx hb d_Se_run_22 hl (by decide) rfl (fun ls hl => ?_)
  refine lv_aload_n hx hb d_Se_run_24 rfl (lv_at hl 1 rfl) ?_
  refine va_get (ci := 6) (C := R_Se) (T := T_Se) (N := 13) hx hb hts in_Se hown hK hP 2 kw_2 rfl 4 (by decide) (hts _ q_138) (fun _ h9 => h9) rfl d_Se_run_25 ?_
  refine lv_iconst (v := 0) hx hb d_Se_run_28 (by decide) ?_
  refine lv_iconst (v := (-1)) hx hb d_Se_run_29 (by decide) ?_
  obtain ⟨σ8, eσ8, hiσ8, h⟩ := k_st_e h
  refine va_iast hx hb hK hP hD hS 21 0 kw_21 rfl hiσ8 d_Se_run_30 (fun H locs hP hD hS => ?_)
  replace hP := k_mvP (kw_s21.trans (congrArg _ eσ8.symm)) hP
  replace hD := k_mvD (kw_s21.trans (congrArg _ eσ8.symm)) hD
  refine lv_iconst (v := 0) hx hb d_Se_run_31 (by decide) ?_
  refine lv_istore (lv' := [(5, .int 0), (4, .int 0), (0, .ref (a 2)), (1, .int x1), (2, .int x2), (3, .int x3)]) hx hb d_Se_run_32 hl (by decide) rfl (fun ls hl => ?_)
  exact B_Se_run_34 C0 k_fu _ _ _ _ _ _ H locs ls hP hD hS (lv_sub hl [2, 3, 4, 5, 1, 0] rfl) h
theorem K_Se_run (l : Launch) (D : va_G) (a : Nat → Nat) (c9 : Nat → ClassId) (sz : Nat) {σ : kS} {x1 x2 x3 : Int32} {r9 : Int32} {σo : kS} (h : M_Se_run σ x1 x2 x3 = some (r9, σo)) : Met l y_Se_run (Cond.code y_Se_run c_Se_run 6 none :: kG) rm_Se_run (k_Pc D a c9 sz σ [.ref (a 2), .int x1, .int x2, .int x3]) (k_Qv D a c9 σo (k_A a c9 σ sz)) 0 0 (k_A a c9 σ sz) :=
  k_met (Qf := k_Qv D a c9 σo) (by decide) (Nat.le_of_ble_eq_true rfl) (fun p e s m args below meth c A ls C0 hP hD hS hl => B_Se_run_0 C0 σ x1 x2 x3 s.heap [] ls hP hD hS hl h)

