/-! mirrors and contracts, by program (wip/whole/run.py) -/
def rm_Md_keepMatch : Room := { frames := 0, cells := 0, slots := 0, locals := 0 }
def M_Md_keepMatch_50_b (rec22 : kS → Int32 → Option (Int32 × kS)) (self9 : kS → Int32 → Int32 → Option (Int32 × kS)) (σ : kS) (x1 x2 : Int32) : Option (Int32 × kS) := k_ld (σ.2.1 42) 8 (x1) fun v1 => if v1 ≤ x2 then (k_let (x1 + 1) fun v3 => rec22 σ v3) else (k_ld (σ.2.1 43) 96 (((12 * x1) + x2)) fun v4 => k_st σ 41 1920 ((((96 * σ.1 14) + (12 * x1)) + x2)) (v4) fun σ5 => k_let (x2 + 1) fun v6 => self9 σ5 x1 v6)
def M_Md_keepMatch_50 (rec22 : kS → Int32 → Option (Int32 × kS)) : Nat → kS → Int32 → Int32 → Option (Int32 × kS)
  | 0 => fun _ _ _ => none
  | n + 1 => M_Md_keepMatch_50_b rec22 (M_Md_keepMatch_50 rec22 n)
set_option maxHeartbeats 4000000 in
set_option maxRecDepth 100000 in
theorem B_Md_keepMatch_50 {p : Program} {l : Launch} {e : Env} {s : State} {m : MethodId} {args : Array Value} {below : List Frame} {meth : Method} {c : Code} {D : va_G} {a : Nat → Nat} {c9 : Nat → ClassId} {A : Nat → Prop} {r9 : Int32} {σo : kS} (C0 : k_Cx D c9 p s m args meth c R_Md c_Md_keepMatch 3 none A) {rec22 : kS → Int32 → Option (Int32 × kS)} (hrec22 : ∀ (σ : kS) (x1 : Int32) (H : Heap) (locs : List Loc) (ls : Array Slot), va_P D kcl (kw a c9 σ) H → va_D A (kw a c9 σ) → va_S A s.heap H locs → lv_has ls 3 [(0, .ref (a 6)), (1, .int x1)] → rec22 σ x1 = some (r9, σo) → W p l e rm_Md_keepMatch s m args below meth c H locs 0 0 (MQ below (k_Qv D a c9 σo A) args s 0 0 A) (F0 m 22 ls [])) : ∀ (n : Nat) (σ : kS) (x1 x2 : Int32) (H : Heap) (locs : List Loc) (ls : Array Slot), va_P D kcl (kw a c9 σ) H → va_D A (kw a c9 σ) → va_S A s.heap H locs → lv_has ls 3 [(0, .ref (a 6)), (1, .int x1), (2, .int x2)] → M_Md_keepMatch_50 rec22 n σ x1 x2 = some (r9, σo) → W p l e rm_Md_keepMatch s m args below meth c H locs 0 0 (MQ below (k_Qv D a c9 σo A) args s 0 0 A) (F0 m 50 ls []) := by
  obtain ⟨hx, hb, hml, hown, hts, hr, hlk, hK, hN, hA⟩ := id C0
  intro n
  induction n with
  | zero =>
    intro σ x1 x2 H locs ls hP hD hS hl h
    replace h : (none : Option (Int32 × kS)) = some (r9, σo) := h
    cases h
  | succ n ih =>
    intro σ x1 x2 H locs ls hP hD hS hl h
    replace h : M_Md_keepMatch_50_b rec22 (M_Md_keepMatch_50 rec22 n) σ x1 x2 = some (r9, σo) := h
    unfold M_Md_keepMatch_50_b at h
    refine lv_iload_n hx hb d_Md_keepMatch_50 rfl (lv_at hl 2 rfl) ?_
    refine lv_aload_n hx hb d_Md_keepMatch_51 rfl (lv_at hl 0 rfl) ?_
    refine va_get (ci := 1) (C := R_Md) (T := T_Md) (N := 44) hx hb hts in_Md hown hK hP 6 kw_6 rfl 21 (by decide) (hts _ q_734) (fun _ h9 => h9) rfl d_Md_keepMatch_52 ?_
    refine lv_iload_n hx hb d_Md_keepMatch_55 rfl (lv_at hl 1 rfl) ?_
    obtain ⟨v1, ev1, hv1, h⟩ := k_ld_e h
    refine va_iald hx hb hK hP 49 0 kw_49 rfl hv1 d_Md_keepMatch_56 (k_top ev1 ?_)
    refine lv_icmp_ge (tgt := 96) hx hb d_Md_keepMatch_57 (by decide) (fun cn2 => ?_) (fun cn2 => ?_)
    · replace h := (if_pos cn2).symm.trans h
      obtain ⟨v3, ev3, h⟩ := k_let_e h
      refine lv_iinc (v := v3) (lv' := [(1, .int v3), (0, .ref (a 6)), (2, .int x2)]) hx hb d_Md_keepMatch_96 hl (k := 1) rfl (by rw [ev3]; rfl) (by decide) rfl (fun ls hl => ?_)
      refine lv_goto (tgt := 22) hx hb d_Md_keepMatch_99 (by decide) ?_
      exact hrec22 _ _ H locs ls hP hD hS (lv_sub hl [1, 0] rfl) h
    · replace h := (if_neg cn2).symm.trans h
      refine lv_aload_n hx hb d_Md_keepMatch_60 rfl (lv_at hl 0 rfl) ?_
      refine va_get (ci := 1) (C := R_Md) (T := T_Md) (N := 44) hx hb hts in_Md hown hK hP 6 kw_6 rfl 20 (by decide) (hts _ q_733) (fun _ h9 => h9) rfl d_Md_keepMatch_61 ?_
      refine lv_bipush (v := 96) hx hb d_Md_keepMatch_64 (by decide) ?_
      refine lv_aload_n hx hb d_Md_keepMatch_66 rfl (lv_at hl 0 rfl) ?_
      refine va_get (ci := 1) (C := R_Md) (T := T_Md) (N := 44) hx hb hts in_Md hown hK hP 6 kw_6 rfl 18 (by decide) (hts _ q_731) (fun _ h9 => h9) rfl d_Md_keepMatch_67 ?_
      refine lv_imul hx hb d_Md_keepMatch_70 ?_
      refine lv_bipush (v := 12) hx hb d_Md_keepMatch_71 (by decide) ?_
      refine lv_iload_n hx hb d_Md_keepMatch_73 rfl (lv_at hl 1 rfl) ?_
      refine lv_imul hx hb d_Md_keepMatch_74 ?_
      refine lv_iadd hx hb d_Md_keepMatch_75 ?_
      refine lv_iload_n hx hb d_Md_keepMatch_76 rfl (lv_at hl 2 rfl) ?_
      refine lv_iadd hx hb d_Md_keepMatch_77 ?_
      refine lv_aload_n hx hb d_Md_keepMatch_78 rfl (lv_at hl 0 rfl) ?_
      refine va_get (ci := 1) (C := R_Md) (T := T_Md) (N := 44) hx hb hts in_Md hown hK hP 6 kw_6 rfl 22 (by decide) (hts _ q_735) (fun _ h9 => h9) rfl d_Md_keepMatch_79 ?_
      refine lv_bipush (v := 12) hx hb d_Md_keepMatch_82 (by decide) ?_
      refine lv_iload_n hx hb d_Md_keepMatch_84 rfl (lv_at hl 1 rfl) ?_
      refine lv_imul hx hb d_Md_keepMatch_85 ?_
      refine lv_iload_n hx hb d_Md_keepMatch_86 rfl (lv_at hl 2 rfl) ?_
      refine lv_iadd hx hb d_Md_keepMatch_87 ?_
      obtain ⟨v4, ev4, hv4, h⟩ := k_ld_e h
      refine va_iald hx hb hK hP 50 0 kw_50 rfl hv4 d_Md_keepMatch_88 (k_top ev4 ?_)
      obtain ⟨σ5, eσ5, hiσ5, h⟩ := k_st_e h
      refine va_iast hx hb hK hP hD hS 48 0 kw_48 rfl hiσ5 d_Md_keepMatch_89 (fun H locs hP hD hS => ?_)
      replace hP := k_mvP (kw_s48.trans (congrArg _ eσ5.symm)) hP
      replace hD := k_mvD (kw_s48.trans (congrArg _ eσ5.symm)) hD
      obtain ⟨v6, ev6, h⟩ := k_let_e h
      refine lv_iinc (v := v6) (lv' := [(2, .int v6), (0, .ref (a 6)), (1, .int x1)]) hx hb d_Md_keepMatch_90 hl (k := 2) rfl (by rw [ev6]; rfl) (by decide) rfl (fun ls hl => ?_)
      refine lv_goto (tgt := 50) hx hb d_Md_keepMatch_93 (by decide) ?_
      exact ih _ _ _ H locs ls hP hD hS (lv_sub hl [1, 2, 0] rfl) h
def M_Md_keepMatch_22_b (self9 : kS → Int32 → Option (Int32 × kS)) (σ : kS) (x1 : Int32) : Option (Int32 × kS) := if 8 ≤ x1 then (k_set σ 14 ((σ.1 14 + 1)) fun σ2 => some (0, σ2)) else (k_ld (σ.2.1 42) 8 (x1) fun v3 => k_st σ 40 160 (((8 * σ.1 14) + x1)) (v3) fun σ4 => M_Md_keepMatch_50 self9 k_fu σ4 x1 0)
def M_Md_keepMatch_22 : Nat → kS → Int32 → Option (Int32 × kS)
  | 0 => fun _ _ => none
  | n + 1 => M_Md_keepMatch_22_b (M_Md_keepMatch_22 n)
set_option maxHeartbeats 4000000 in
set_option maxRecDepth 100000 in
theorem B_Md_keepMatch_22 {p : Program} {l : Launch} {e : Env} {s : State} {m : MethodId} {args : Array Value} {below : List Frame} {meth : Method} {c : Code} {D : va_G} {a : Nat → Nat} {c9 : Nat → ClassId} {A : Nat → Prop} {r9 : Int32} {σo : kS} (C0 : k_Cx D c9 p s m args meth c R_Md c_Md_keepMatch 3 none A) : ∀ (n : Nat) (σ : kS) (x1 : Int32) (H : Heap) (locs : List Loc) (ls : Array Slot), va_P D kcl (kw a c9 σ) H → va_D A (kw a c9 σ) → va_S A s.heap H locs → lv_has ls 3 [(0, .ref (a 6)), (1, .int x1)] → M_Md_keepMatch_22 n σ x1 = some (r9, σo) → W p l e rm_Md_keepMatch s m args below meth c H locs 0 0 (MQ below (k_Qv D a c9 σo A) args s 0 0 A) (F0 m 22 ls []) := by
  obtain ⟨hx, hb, hml, hown, hts, hr, hlk, hK, hN, hA⟩ := id C0
  intro n
  induction n with
  | zero =>
    intro σ x1 H locs ls hP hD hS hl h
    replace h : (none : Option (Int32 × kS)) = some (r9, σo) := h
    cases h
  | succ n ih =>
    intro σ x1 H locs ls hP hD hS hl h
    replace h : M_Md_keepMatch_22_b (M_Md_keepMatch_22 n) σ x1 = some (r9, σo) := h
    unfold M_Md_keepMatch_22_b at h
    refine lv_iload_n hx hb d_Md_keepMatch_22 rfl (lv_at hl 1 rfl) ?_
    refine lv_bipush (v := 8) hx hb d_Md_keepMatch_23 (by decide) ?_
    refine lv_icmp_ge (tgt := 102) hx hb d_Md_keepMatch_25 (by decide) (fun cn1 => ?_) (fun cn1 => ?_)
    · replace h := (if_pos cn1).symm.trans h
      refine lv_aload_n hx hb d_Md_keepMatch_102 rfl (lv_at hl 0 rfl) ?_
      refine lv_dup hx hb d_Md_keepMatch_103 rfl ?_
      refine va_get (ci := 1) (C := R_Md) (T := T_Md) (N := 44) hx hb hts in_Md hown hK hP 6 kw_6 rfl 18 (by decide) (hts _ q_731) (fun _ h9 => h9) rfl d_Md_keepMatch_104 ?_
      refine lv_iconst (v := 1) hx hb d_Md_keepMatch_107 (by decide) ?_
      refine lv_iadd hx hb d_Md_keepMatch_108 ?_
      obtain ⟨σ2, eσ2, h⟩ := k_set_e h
      refine va_put (ci := 1) (v := .int ((σ.1 14 + 1))) (ty := .int) (C := R_Md) (T := T_Md) (N := 44) hx hb hts in_Md t_Md t_Md_ok n_Md hown hK hP hD hS 6 kw_6 rfl 18 (by decide) (hts _ q_731) (fun _ h9 => h9) rfl (by decide +kernel) rfl rfl (Nat.le_of_ble_eq_true rfl) d_Md_keepMatch_109 (fun H locs hP hD hS => ?_)
      replace hP := k_mvP (kw_f6_18.trans (congrArg _ eσ2.symm)) hP
      replace hD := k_mvD (kw_f6_18.trans (congrArg _ eσ2.symm)) hD
      cases h
      exact k_vret hx hb hr hlk hP hS d_Md_keepMatch_112
    · replace h := (if_neg cn1).symm.trans h
      refine lv_aload_n hx hb d_Md_keepMatch_28 rfl (lv_at hl 0 rfl) ?_
      refine va_get (ci := 1) (C := R_Md) (T := T_Md) (N := 44) hx hb hts in_Md hown hK hP 6 kw_6 rfl 19 (by decide) (hts _ q_732) (fun _ h9 => h9) rfl d_Md_keepMatch_29 ?_
      refine lv_bipush (v := 8) hx hb d_Md_keepMatch_32 (by decide) ?_
      refine lv_aload_n hx hb d_Md_keepMatch_34 rfl (lv_at hl 0 rfl) ?_
      refine va_get (ci := 1) (C := R_Md) (T := T_Md) (N := 44) hx hb hts in_Md hown hK hP 6 kw_6 rfl 18 (by decide) (hts _ q_731) (fun _ h9 => h9) rfl d_Md_keepMatch_35 ?_
      refine lv_imul hx hb d_Md_keepMatch_38 ?_
      refine lv_iload_n hx hb d_Md_keepMatch_39 rfl (lv_at hl 1 rfl) ?_
      refine lv_iadd hx hb d_Md_keepMatch_40 ?_
      refine lv_aload_n hx hb d_Md_keepMatch_41 rfl (lv_at hl 0 rfl) ?_
      refine va_get (ci := 1) (C := R_Md) (T := T_Md) (N := 44) hx hb hts in_Md hown hK hP 6 kw_6 rfl 21 (by decide) (hts _ q_734) (fun _ h9 => h9) rfl d_Md_keepMatch_42 ?_
      refine lv_iload_n hx hb d_Md_keepMatch_45 rfl (lv_at hl 1 rfl) ?_
      obtain ⟨v3, ev3, hv3, h⟩ := k_ld_e h
      refine va_iald hx hb hK hP 49 0 kw_49 rfl hv3 d_Md_keepMatch_46 (k_top ev3 ?_)
      obtain ⟨σ4, eσ4, hiσ4, h⟩ := k_st_e h
      refine va_iast hx hb hK hP hD hS 47 0 kw_47 rfl hiσ4 d_Md_keepMatch_47 (fun H locs hP hD hS => ?_)
      replace hP := k_mvP (kw_s47.trans (congrArg _ eσ4.symm)) hP
      replace hD := k_mvD (kw_s47.trans (congrArg _ eσ4.symm)) hD
      refine lv_iconst (v := 0) hx hb d_Md_keepMatch_48 (by decide) ?_
      refine lv_istore_n (lv' := [(2, .int 0), (0, .ref (a 6)), (1, .int x1)]) hx hb d_Md_keepMatch_49 rfl hl (by decide) rfl (fun ls hl => ?_)
      exact B_Md_keepMatch_50 C0 ih k_fu _ _ _ H locs ls hP hD hS (lv_sub hl [1, 2, 0] rfl) h
def M_Md_keepMatch (σ : kS) : Option (Int32 × kS) := k_set σ 18 ((σ.1 18 + 1)) fun σ1 => if σ1.1 14 = 20 then (some (0, σ1)) else (M_Md_keepMatch_22 k_fu σ1 0)
set_option maxHeartbeats 4000000 in
set_option maxRecDepth 100000 in
theorem B_Md_keepMatch_0 {p : Program} {l : Launch} {e : Env} {s : State} {m : MethodId} {args : Array Value} {below : List Frame} {meth : Method} {c : Code} {D : va_G} {a : Nat → Nat} {c9 : Nat → ClassId} {A : Nat → Prop} {r9 : Int32} {σo : kS} (C0 : k_Cx D c9 p s m args meth c R_Md c_Md_keepMatch 3 none A) (σ : kS) (H : Heap) (locs : List Loc) (ls : Array Slot) (hP : va_P D kcl (kw a c9 σ) H) (hD : va_D A (kw a c9 σ)) (hS : va_S A s.heap H locs) (hl : lv_has ls 3 [(0, .ref (a 6))]) (h : M_Md_keepMatch σ  = some (r9, σo)) : W p l e rm_Md_keepMatch s m args below meth c H locs 0 0 (MQ below (k_Qv D a c9 σo A) args s 0 0 A) (F0 m 0 ls []) := by
  obtain ⟨hx, hb, hml, hown, hts, hr, hlk, hK, hN, hA⟩ := id C0
  unfold M_Md_keepMatch at h
  refine lv_aload_n hx hb d_Md_keepMatch_0 rfl (lv_at hl 0 rfl) ?_
  refine lv_dup hx hb d_Md_keepMatch_1 rfl ?_
  refine va_get (ci := 1) (C := R_Md) (T := T_Md) (N := 44) hx hb hts in_Md hown hK hP 6 kw_6 rfl 27 (by decide) (hts _ q_740) (fun _ h9 => h9) rfl d_Md_keepMatch_2 ?_
  refine lv_iconst (v := 1) hx hb d_Md_keepMatch_5 (by decide) ?_
  refine lv_iadd hx hb d_Md_keepMatch_6 ?_
  obtain ⟨σ1, eσ1, h⟩ := k_set_e h
  refine va_put (ci := 1) (v := .int ((σ.1 18 + 1))) (ty := .int) (C := R_Md) (T := T_Md) (N := 44) hx hb hts in_Md t_Md t_Md_ok n_Md hown hK hP hD hS 6 kw_6 rfl 27 (by decide) (hts _ q_740) (fun _ h9 => h9) rfl (by decide +kernel) rfl rfl (Nat.le_of_ble_eq_true rfl) d_Md_keepMatch_7 (fun H locs hP hD hS => ?_)
  replace hP := k_mvP (kw_f6_27.trans (congrArg _ eσ1.symm)) hP
  replace hD := k_mvD (kw_f6_27.trans (congrArg _ eσ1.symm)) hD
  refine lv_aload_n hx hb d_Md_keepMatch_10 rfl (lv_at hl 0 rfl) ?_
  refine va_get (ci := 1) (C := R_Md) (T := T_Md) (N := 44) hx hb hts in_Md hown hK hP 6 kw_6 rfl 18 (by decide) (hts _ q_731) (fun _ h9 => h9) rfl d_Md_keepMatch_11 ?_
  refine lv_bipush (v := 20) hx hb d_Md_keepMatch_14 (by decide) ?_
  refine lv_icmp_ne (tgt := 20) hx hb d_Md_keepMatch_16 (by decide) (fun cn2 => ?_) (fun cn2 => ?_)
  · replace h := (if_neg cn2).symm.trans h
    refine lv_iconst (v := 0) hx hb d_Md_keepMatch_20 (by decide) ?_
    refine lv_istore_n (lv' := [(1, .int 0), (0, .ref (a 6))]) hx hb d_Md_keepMatch_21 rfl hl (by decide) rfl (fun ls hl => ?_)
    exact B_Md_keepMatch_22 C0 k_fu _ _ H locs ls hP hD hS (lv_sub hl [1, 0] rfl) h
  · replace h := (if_pos cn2).symm.trans h
    cases h
    exact k_vret hx hb hr hlk hP hS d_Md_keepMatch_19
theorem K_Md_keepMatch (l : Launch) (D : va_G) (a : Nat → Nat) (c9 : Nat → ClassId) (sz : Nat) {σ : kS} {r9 : Int32} {σo : kS} (h : M_Md_keepMatch σ  = some (r9, σo)) : Met l y_Md_keepMatch (Cond.code y_Md_keepMatch c_Md_keepMatch 3 none :: kG) rm_Md_keepMatch (k_Pc D a c9 sz σ [.ref (a 6)]) (k_Qv D a c9 σo (k_A a c9 σ sz)) 0 0 (k_A a c9 σ sz) :=
  k_met (Qf := k_Qv D a c9 σo) (by decide) (Nat.le_of_ble_eq_true rfl) (fun p e s m args below meth c A ls C0 hP hD hS hl => B_Md_keepMatch_0 C0 σ  s.heap [] ls hP hD hS hl h)
def rm_Md_tries : Room := { frames := 0, cells := 0, slots := 0, locals := 0 }
def M_Md_tries (σ : kS) : Option (Int32 × kS) := if σ.1 16 = σ.1 17 then (k_set σ 19 (1) fun σ3 => some (0, σ3)) else (k_set σ 16 ((σ.1 16 + 1)) fun σ2 => some (1, σ2))
set_option maxHeartbeats 4000000 in
set_option maxRecDepth 100000 in
theorem B_Md_tries_0 {p : Program} {l : Launch} {e : Env} {s : State} {m : MethodId} {args : Array Value} {below : List Frame} {meth : Method} {c : Code} {D : va_G} {a : Nat → Nat} {c9 : Nat → ClassId} {A : Nat → Prop} {r9 : Int32} {σo : kS} (C0 : k_Cx D c9 p s m args meth c R_Md c_Md_tries 1 (some .boolean) A) (σ : kS) (H : Heap) (locs : List Loc) (ls : Array Slot) (hP : va_P D kcl (kw a c9 σ) H) (hD : va_D A (kw a c9 σ)) (hS : va_S A s.heap H locs) (hl : lv_has ls 1 [(0, .ref (a 6))]) (h : M_Md_tries σ  = some (r9, σo)) : W p l e rm_Md_tries s m args below meth c H locs 0 0 (MQ below (k_Qi D a c9 r9 σo A) args s 0 0 A) (F0 m 0 ls []) := by
  obtain ⟨hx, hb, hml, hown, hts, hr, hlk, hK, hN, hA⟩ := id C0
  unfold M_Md_tries at h
  refine lv_aload_n hx hb d_Md_tries_0 rfl (lv_at hl 0 rfl) ?_
  refine va_get (ci := 1) (C := R_Md) (T := T_Md) (N := 44) hx hb hts in_Md hown hK hP 6 kw_6 rfl 25 (by decide) (hts _ q_738) (fun _ h9 => h9) rfl d_Md_tries_1 ?_
  refine lv_aload_n hx hb d_Md_tries_4 rfl (lv_at hl 0 rfl) ?_
  refine va_get (ci := 1) (C := R_Md) (T := T_Md) (N := 44) hx hb hts in_Md hown hK hP 6 kw_6 rfl 26 (by decide) (hts _ q_739) (fun _ h9 => h9) rfl d_Md_tries_5 ?_
  refine lv_icmp_ne (tgt := 18) hx hb d_Md_tries_8 (by decide) (fun cn1 => ?_) (fun cn1 => ?_)
  · replace h := (if_neg cn1).symm.trans h
    refine lv_aload_n hx hb d_Md_tries_18 rfl (lv_at hl 0 rfl) ?_
    refine lv_dup hx hb d_Md_tries_19 rfl ?_
    refine va_get (ci := 1) (C := R_Md) (T := T_Md) (N := 44) hx hb hts in_Md hown hK hP 6 kw_6 rfl 25 (by decide) (hts _ q_738) (fun _ h9 => h9) rfl d_Md_tries_20 ?_
    refine lv_iconst (v := 1) hx hb d_Md_tries_23 (by decide) ?_
    refine lv_iadd hx hb d_Md_tries_24 ?_
    obtain ⟨σ2, eσ2, h⟩ := k_set_e h
    refine va_put (ci := 1) (v := .int ((σ.1 16 + 1))) (ty := .int) (C := R_Md) (T := T_Md) (N := 44) hx hb hts in_Md t_Md t_Md_ok n_Md hown hK hP hD hS 6 kw_6 rfl 25 (by decide) (hts _ q_738) (fun _ h9 => h9) rfl (by decide +kernel) rfl rfl (Nat.le_of_ble_eq_true rfl) d_Md_tries_25 (fun H locs hP hD hS => ?_)
    replace hP := k_mvP (kw_f6_25.trans (congrArg _ eσ2.symm)) hP
    replace hD := k_mvD (kw_f6_25.trans (congrArg _ eσ2.symm)) hD
    refine lv_iconst (v := 1) hx hb d_Md_tries_28 (by decide) ?_
    cases h
    exact k_zret (Or.inr rfl) hx hb hr hlk hP hS d_Md_tries_29
  · replace h := (if_pos cn1).symm.trans h
    refine lv_aload_n hx hb d_Md_tries_11 rfl (lv_at hl 0 rfl) ?_
    refine lv_iconst (v := 1) hx hb d_Md_tries_12 (by decide) ?_
    obtain ⟨σ3, eσ3, h⟩ := k_set_e h
    refine va_put (ci := 1) (v := .int 1) (ty := .boolean) (C := R_Md) (T := T_Md) (N := 44) hx hb hts in_Md t_Md t_Md_ok n_Md hown hK hP hD hS 6 kw_6 rfl 28 (by decide) (hts _ q_741) (fun _ h9 => h9) rfl (by decide +kernel) rfl rfl (Nat.le_of_ble_eq_true rfl) d_Md_tries_13 (fun H locs hP hD hS => ?_)
    replace hP := k_mvP (kw_f6_28.trans (congrArg _ eσ3.symm)) hP
    replace hD := k_mvD (kw_f6_28.trans (congrArg _ eσ3.symm)) hD
    refine lv_iconst (v := 0) hx hb d_Md_tries_16 (by decide) ?_
    cases h
    exact k_zret (Or.inl rfl) hx hb hr hlk hP hS d_Md_tries_17
theorem K_Md_tries (l : Launch) (D : va_G) (a : Nat → Nat) (c9 : Nat → ClassId) (sz : Nat) {σ : kS} {r9 : Int32} {σo : kS} (h : M_Md_tries σ  = some (r9, σo)) : Met l y_Md_tries (Cond.code y_Md_tries c_Md_tries 1 (some .boolean) :: kG) rm_Md_tries (k_Pc D a c9 sz σ [.ref (a 6)]) (k_Qi D a c9 r9 σo (k_A a c9 σ sz)) 0 0 (k_A a c9 σ sz) :=
  k_met (Qf := k_Qi D a c9 r9 σo) (by decide) (Nat.le_of_ble_eq_true rfl) (fun p e s m args below meth c A ls C0 hP hD hS hl => B_Md_tries_0 C0 σ  s.heap [] ls hP hD hS hl h)
def rm_Md_backTo : Room := { frames := 0, cells := 0, slots := 0, locals := 0 }
def M_Md_backTo_0_b (self9 : kS → Int32 → Int32 → Option (Int32 × kS)) (σ : kS) (x1 x2 : Int32) : Option (Int32 × kS) := if σ.1 15 ≤ x1 then (k_set σ 20 (x2) fun σ2 => some (0, σ2)) else (k_set σ 15 ((σ.1 15 - 1)) fun σ3 => k_ld (σ3.2.1 44) 8 (σ3.1 15) fun v4 => k_st σ3 42 8 (v4) ((-1)) fun σ5 => self9 σ5 x1 x2)
def M_Md_backTo_0 : Nat → kS → Int32 → Int32 → Option (Int32 × kS)
  | 0 => fun _ _ _ => none
  | n + 1 => M_Md_backTo_0_b (M_Md_backTo_0 n)
set_option maxHeartbeats 4000000 in
set_option maxRecDepth 100000 in
theorem B_Md_backTo_0 {p : Program} {l : Launch} {e : Env} {s : State} {m : MethodId} {args : Array Value} {below : List Frame} {meth : Method} {c : Code} {D : va_G} {a : Nat → Nat} {c9 : Nat → ClassId} {A : Nat → Prop} {r9 : Int32} {σo : kS} (C0 : k_Cx D c9 p s m args meth c R_Md c_Md_backTo 3 none A) : ∀ (n : Nat) (σ : kS) (x1 x2 : Int32) (H : Heap) (locs : List Loc) (ls : Array Slot), va_P D kcl (kw a c9 σ) H → va_D A (kw a c9 σ) → va_S A s.heap H locs → lv_has ls 3 [(0, .ref (a 6)), (1, .int x1), (2, .int x2)] → M_Md_backTo_0 n σ x1 x2 = some (r9, σo) → W p l e rm_Md_backTo s m args below meth c H locs 0 0 (MQ below (k_Qv D a c9 σo A) args s 0 0 A) (F0 m 0 ls []) := by
  obtain ⟨hx, hb, hml, hown, hts, hr, hlk, hK, hN, hA⟩ := id C0
  intro n
  induction n with
  | zero =>
    intro σ x1 x2 H locs ls hP hD hS hl h
    replace h : (none : Option (Int32 × kS)) = some (r9, σo) := h
    cases h
  | succ n ih =>
    intro σ x1 x2 H locs ls hP hD hS hl h
    replace h : M_Md_backTo_0_b (M_Md_backTo_0 n) σ x1 x2 = some (r9, σo) := h
    unfold M_Md_backTo_0_b at h
    refine lv_aload_n hx hb d_Md_backTo_0 rfl (lv_at hl 0 rfl) ?_
    refine va_get (ci := 1) (C := R_Md) (T := T_Md) (N := 44) hx hb hts in_Md hown hK hP 6 kw_6 rfl 23 (by decide) (hts _ q_736) (fun _ h9 => h9) rfl d_Md_backTo_1 ?_
    refine lv_iload_n hx hb d_Md_backTo_4 rfl (lv_at hl 1 rfl) ?_
    refine lv_icmp_le (tgt := 36) hx hb d_Md_backTo_5 (by decide) (fun cn1 => ?_) (fun cn1 => ?_)
    · replace h := (if_pos cn1).symm.trans h
      refine lv_aload_n hx hb d_Md_backTo_36 rfl (lv_at hl 0 rfl) ?_
      refine lv_iload_n hx hb d_Md_backTo_37 rfl (lv_at hl 2 rfl) ?_
      obtain ⟨σ2, eσ2, h⟩ := k_set_e h
      refine va_put (ci := 1) (v := .int x2) (ty := .int) (C := R_Md) (T := T_Md) (N := 44) hx hb hts in_Md t_Md t_Md_ok n_Md hown hK hP hD hS 6 kw_6 rfl 29 (by decide) (hts _ q_742) (fun _ h9 => h9) rfl (by decide +kernel) rfl rfl (Nat.le_of_ble_eq_true rfl) d_Md_backTo_38 (fun H locs hP hD hS => ?_)
      replace hP := k_mvP (kw_f6_29.trans (congrArg _ eσ2.symm)) hP
      replace hD := k_mvD (kw_f6_29.trans (congrArg _ eσ2.symm)) hD
      cases h
      exact k_vret hx hb hr hlk hP hS d_Md_backTo_41
    · replace h := (if_neg cn1).symm.trans h
      refine lv_aload_n hx hb d_Md_backTo_8 rfl (lv_at hl 0 rfl) ?_
      refine lv_dup hx hb d_Md_backTo_9 rfl ?_
      refine va_get (ci := 1) (C := R_Md) (T := T_Md) (N := 44) hx hb hts in_Md hown hK hP 6 kw_6 rfl 23 (by decide) (hts _ q_736) (fun _ h9 => h9) rfl d_Md_backTo_10 ?_
      refine lv_iconst (v := 1) hx hb d_Md_backTo_13 (by decide) ?_
      refine lv_isub hx hb d_Md_backTo_14 ?_
      obtain ⟨σ3, eσ3, h⟩ := k_set_e h
      refine va_put (ci := 1) (v := .int ((σ.1 15 - 1))) (ty := .int) (C := R_Md) (T := T_Md) (N := 44) hx hb hts in_Md t_Md t_Md_ok n_Md hown hK hP hD hS 6 kw_6 rfl 23 (by decide) (hts _ q_736) (fun _ h9 => h9) rfl (by decide +kernel) rfl rfl (Nat.le_of_ble_eq_true rfl) d_Md_backTo_15 (fun H locs hP hD hS => ?_)
      replace hP := k_mvP (kw_f6_23.trans (congrArg _ eσ3.symm)) hP
      replace hD := k_mvD (kw_f6_23.trans (congrArg _ eσ3.symm)) hD
      refine lv_aload_n hx hb d_Md_backTo_18 rfl (lv_at hl 0 rfl) ?_
      refine va_get (ci := 1) (C := R_Md) (T := T_Md) (N := 44) hx hb hts in_Md hown hK hP 6 kw_6 rfl 21 (by decide) (hts _ q_734) (fun _ h9 => h9) rfl d_Md_backTo_19 ?_
      refine lv_aload_n hx hb d_Md_backTo_22 rfl (lv_at hl 0 rfl) ?_
      refine va_get (ci := 1) (C := R_Md) (T := T_Md) (N := 44) hx hb hts in_Md hown hK hP 6 kw_6 rfl 24 (by decide) (hts _ q_737) (fun _ h9 => h9) rfl d_Md_backTo_23 ?_
      refine lv_aload_n hx hb d_Md_backTo_26 rfl (lv_at hl 0 rfl) ?_
      refine va_get (ci := 1) (C := R_Md) (T := T_Md) (N := 44) hx hb hts in_Md hown hK hP 6 kw_6 rfl 23 (by decide) (hts _ q_736) (fun _ h9 => h9) rfl d_Md_backTo_27 ?_
      obtain ⟨v4, ev4, hv4, h⟩ := k_ld_e h
      refine va_iald hx hb hK hP 51 0 kw_51 rfl hv4 d_Md_backTo_30 (k_top ev4 ?_)
      refine lv_iconst (v := (-1)) hx hb d_Md_backTo_31 (by decide) ?_
      obtain ⟨σ5, eσ5, hiσ5, h⟩ := k_st_e h
      refine va_iast hx hb hK hP hD hS 49 0 kw_49 rfl hiσ5 d_Md_backTo_32 (fun H locs hP hD hS => ?_)
      replace hP := k_mvP (kw_s49.trans (congrArg _ eσ5.symm)) hP
      replace hD := k_mvD (kw_s49.trans (congrArg _ eσ5.symm)) hD
      refine lv_goto (tgt := 0) hx hb d_Md_backTo_33 (by decide) ?_
      exact ih _ _ _ H locs ls hP hD hS (lv_sub hl [0, 1, 2] rfl) h
def M_Md_backTo (σ : kS) (x1 x2 : Int32) : Option (Int32 × kS) := M_Md_backTo_0 k_fu σ x1 x2
theorem K_Md_backTo (l : Launch) (D : va_G) (a : Nat → Nat) (c9 : Nat → ClassId) (sz : Nat) {σ : kS} {x1 x2 : Int32} {r9 : Int32} {σo : kS} (h : M_Md_backTo σ x1 x2 = some (r9, σo)) : Met l y_Md_backTo (Cond.code y_Md_backTo c_Md_backTo 3 none :: kG) rm_Md_backTo (k_Pc D a c9 sz σ [.ref (a 6), .int x1, .int x2]) (k_Qv D a c9 σo (k_A a c9 σ sz)) 0 0 (k_A a c9 σ sz) :=
  k_met (Qf := k_Qv D a c9 σo) (by decide) (Nat.le_of_ble_eq_true rfl) (fun p e s m args below meth c A ls C0 hP hD hS hl => B_Md_backTo_0 C0 k_fu σ x1 x2 s.heap [] ls hP hD hS hl h)
def rm_Md_otherwise : Room := { frames := 3, cells := 0, slots := 0, locals := 74 }
def M_Md_otherwise_89_b (rec0 : kS → Option (Int32 × kS)) (self9 : kS → Int32 → Int32 → Int32 → Int32 → Int32 → Option (Int32 × kS)) (σ : kS) (x1 x2 x3 x4 x5 : Int32) : Option (Int32 × kS) := if 12 ≤ x5 then (k_ld (σ.2.1 45) 1000 (x2) fun v2 => k_ld (σ.2.1 46) 1000 (x2) fun v3 => k_ld (σ.2.1 47) 1000 (x2) fun v4 => k_ld (σ.2.1 48) 1000 (x2) fun v5 => k_ld (σ.2.1 49) 1000 (x2) fun v6 => k_call (M_Md_goal σ v2 v3 ((v4 + 1)) ((v5 ||| x3)) v6) fun v7 σ8 => k_ld (σ8.2.1 45) 1000 (x2) fun v10 => k_ld (σ8.2.1 47) 1000 (x2) fun v11 => k_ld (σ8.2.1 30) 2880 (((12 * v10) + v11)) fun v12 => k_call (M_Md_puts σ8 v12 x4 v7) fun v13 σ14 => if v13 = (-2) then (rec0 σ14) else (some (v13, σ14))) else (k_call (M_Md_bit σ x5) fun v17 σ18 => if (x3 &&& v17) = 0 then (k_let (x5 + 1) fun v21 => self9 σ18 x1 x2 x3 x4 v21) else (k_ld (σ18.2.1 46) 1000 (x2) fun v22 => k_ld (σ18.2.1 30) 2880 (((12 * v22) + x5)) fun v23 => k_st σ18 57 12 (x4) (v23) fun σ24 => k_let (x4 + 1) fun v25 => k_let (x5 + 1) fun v26 => self9 σ24 x1 x2 x3 v25 v26))
def M_Md_otherwise_89 (rec0 : kS → Option (Int32 × kS)) : Nat → kS → Int32 → Int32 → Int32 → Int32 → Int32 → Option (Int32 × kS)
  | 0 => fun _ _ _ _ _ _ => none
  | n + 1 => M_Md_otherwise_89_b rec0 (M_Md_otherwise_89 rec0 n)
set_option maxHeartbeats 4000000 in
set_option maxRecDepth 100000 in
theorem B_Md_otherwise_89 {p : Program} {l : Launch} {e : Env} {s : State} {m : MethodId} {args : Array Value} {below : List Frame} {meth : Method} {c : Code} {D : va_G} {a : Nat → Nat} {c9 : Nat → ClassId} {A : Nat → Prop} {r9 : Int32} {σo : kS} (C0 : k_Cx D c9 p s m args meth c R_Md c_Md_otherwise 7 (some .int) A) {rec0 : kS → Option (Int32 × kS)} (hrec0 : ∀ (σ : kS) (H : Heap) (locs : List Loc) (ls : Array Slot), va_P D kcl (kw a c9 σ) H → va_D A (kw a c9 σ) → va_S A s.heap H locs → lv_has ls 7 [(0, .ref (a 6))] → rec0 σ  = some (r9, σo) → W p l e rm_Md_otherwise s m args below meth c H locs 0 0 (MQ below (k_Qi D a c9 r9 σo A) args s 0 0 A) (F0 m 0 ls [])) : ∀ (n : Nat) (σ : kS) (x1 x2 x3 x4 x5 : Int32) (H : Heap) (locs : List Loc) (ls : Array Slot), va_P D kcl (kw a c9 σ) H → va_D A (kw a c9 σ) → va_S A s.heap H locs → lv_has ls 7 [(0, .ref (a 6)), (1, .int x1), (2, .int x2), (3, .int x3), (4, .int x4), (5, .int x5)] → M_Md_otherwise_89 rec0 n σ x1 x2 x3 x4 x5 = some (r9, σo) → W p l e rm_Md_otherwise s m args below meth c H locs 0 0 (MQ below (k_Qi D a c9 r9 σo A) args s 0 0 A) (F0 m 89 ls []) := by
  obtain ⟨hx, hb, hml, hown, hts, hr, hlk, hK, hN, hA⟩ := id C0
  intro n
  induction n with
  | zero =>
    intro σ x1 x2 x3 x4 x5 H locs ls hP hD hS hl h
    replace h : (none : Option (Int32 × kS)) = some (r9, σo) := h
    cases h
  | succ n ih =>
    intro σ x1 x2 x3 x4 x5 H locs ls hP hD hS hl h
    replace h : M_Md_otherwise_89_b rec0 (M_Md_otherwise_89 rec0 n) σ x1 x2 x3 x4 x5 = some (r9, σo) := h
    unfold M_Md_otherwise_89_b at h
    refine lv_iload hx hb d_Md_otherwise_89 (lv_at hl 5 rfl) ?_
    refine lv_bipush (v := 12) hx hb d_Md_otherwise_91 (by decide) ?_
    refine lv_icmp_ge (tgt := 139) hx hb d_Md_otherwise_93 (by decide) (fun cn1 => ?_) (fun cn1 => ?_)
    · replace h := (if_pos cn1).symm.trans h
      refine lv_aload_n hx hb d_Md_otherwise_139 rfl (lv_at hl 0 rfl) ?_
      refine lv_aload_n hx hb d_Md_otherwise_140 rfl (lv_at hl 0 rfl) ?_
      refine va_get (ci := 1) (C := R_Md) (T := T_Md) (N := 44) hx hb hts in_Md hown hK hP 6 kw_6 rfl 30 (by decide) (hts _ q_743) (fun _ h9 => h9) rfl d_Md_otherwise_141 ?_
      refine lv_iload_n hx hb d_Md_otherwise_144 rfl (lv_at hl 2 rfl) ?_
      obtain ⟨v2, ev2, hv2, h⟩ := k_ld_e h
      refine va_iald hx hb hK hP 52 0 kw_52 rfl hv2 d_Md_otherwise_145 (k_top ev2 ?_)
      refine lv_aload_n hx hb d_Md_otherwise_146 rfl (lv_at hl 0 rfl) ?_
      refine va_get (ci := 1) (C := R_Md) (T := T_Md) (N := 44) hx hb hts in_Md hown hK hP 6 kw_6 rfl 31 (by decide) (hts _ q_744) (fun _ h9 => h9) rfl d_Md_otherwise_147 ?_
      refine lv_iload_n hx hb d_Md_otherwise_150 rfl (lv_at hl 2 rfl) ?_
      obtain ⟨v3, ev3, hv3, h⟩ := k_ld_e h
      refine va_iald hx hb hK hP 53 0 kw_53 rfl hv3 d_Md_otherwise_151 (k_top ev3 ?_)
      refine lv_aload_n hx hb d_Md_otherwise_152 rfl (lv_at hl 0 rfl) ?_
      refine va_get (ci := 1) (C := R_Md) (T := T_Md) (N := 44) hx hb hts in_Md hown hK hP 6 kw_6 rfl 32 (by decide) (hts _ q_745) (fun _ h9 => h9) rfl d_Md_otherwise_153 ?_
      refine lv_iload_n hx hb d_Md_otherwise_156 rfl (lv_at hl 2 rfl) ?_
      obtain ⟨v4, ev4, hv4, h⟩ := k_ld_e h
      refine va_iald hx hb hK hP 54 0 kw_54 rfl hv4 d_Md_otherwise_157 (k_top ev4 ?_)
      refine lv_iconst (v := 1) hx hb d_Md_otherwise_158 (by decide) ?_
      refine lv_iadd hx hb d_Md_otherwise_159 ?_
      refine lv_aload_n hx hb d_Md_otherwise_160 rfl (lv_at hl 0 rfl) ?_
      refine va_get (ci := 1) (C := R_Md) (T := T_Md) (N := 44) hx hb hts in_Md hown hK hP 6 kw_6 rfl 33 (by decide) (hts _ q_746) (fun _ h9 => h9) rfl d_Md_otherwise_161 ?_
      refine lv_iload_n hx hb d_Md_otherwise_164 rfl (lv_at hl 2 rfl) ?_
      obtain ⟨v5, ev5, hv5, h⟩ := k_ld_e h
      refine va_iald hx hb hK hP 55 0 kw_55 rfl hv5 d_Md_otherwise_165 (k_top ev5 ?_)
      refine lv_iload_n hx hb d_Md_otherwise_166 rfl (lv_at hl 3 rfl) ?_
      refine lv_ior hx hb d_Md_otherwise_167 ?_
      refine lv_aload_n hx hb d_Md_otherwise_168 rfl (lv_at hl 0 rfl) ?_
      refine va_get (ci := 1) (C := R_Md) (T := T_Md) (N := 44) hx hb hts in_Md hown hK hP 6 kw_6 rfl 34 (by decide) (hts _ q_747) (fun _ h9 => h9) rfl d_Md_otherwise_169 ?_
      refine lv_iload_n hx hb d_Md_otherwise_172 rfl (lv_at hl 2 rfl) ?_
      obtain ⟨v6, ev6, hv6, h⟩ := k_ld_e h
      refine va_iald hx hb hK hP 56 0 kw_56 rfl hv6 d_Md_otherwise_173 (k_top ev6 ?_)
      obtain ⟨v7, σ8, hc9, h⟩ := k_call_e h
      refine k_calli (va_runV (As := [.int v2, .int v3, .int ((v4 + 1)), .int ((v5 ||| x3)), .int v6]) (rest := []) ⟨hx, hb, hml, hown, hts⟩ (K_Md_goal l D a c9 H.size hc9) (cwV 5 hts (k_gV q_909 q_911 s_26 q_7 q_912) rfl rfl rfl h_Md_goal ⟨Nat.le_of_ble_eq_true rfl, Nat.le_of_ble_eq_true rfl⟩) (k_preV (ci := 1) (q0 := 6) rfl kw_6 hP hK hN hD) rfl rfl hl.1 rfl (lv_room (Nat.le_of_ble_eq_true rfl)) d_Md_otherwise_174 ⟨Nat.zero_le _, Nat.zero_le _⟩) hD hS hA (fun H locs hP hD hS => ?_)
      refine lv_istore (lv' := [(5, .int v7), (0, .ref (a 6)), (1, .int x1), (2, .int x2), (3, .int x3), (4, .int x4)]) hx hb d_Md_otherwise_177 hl (by decide) rfl (fun ls hl => ?_)
      refine lv_aload_n hx hb d_Md_otherwise_179 rfl (lv_at hl 1 rfl) ?_
      refine lv_aload_n hx hb d_Md_otherwise_180 rfl (lv_at hl 1 rfl) ?_
      refine va_get (ci := 1) (C := R_Md) (T := T_Md) (N := 44) hx hb hts in_Md hown hK hP 6 kw_6 rfl 6 (by decide) (hts _ q_719) (fun _ h9 => h9) rfl d_Md_otherwise_181 ?_
      refine lv_bipush (v := 12) hx hb d_Md_otherwise_184 (by decide) ?_
      refine lv_aload_n hx hb d_Md_otherwise_186 rfl (lv_at hl 1 rfl) ?_
      refine va_get (ci := 1) (C := R_Md) (T := T_Md) (N := 44) hx hb hts in_Md hown hK hP 6 kw_6 rfl 30 (by decide) (hts _ q_743) (fun _ h9 => h9) rfl d_Md_otherwise_187 ?_
      refine lv_iload_n hx hb d_Md_otherwise_190 rfl (lv_at hl 3 rfl) ?_
      obtain ⟨v10, ev10, hv10, h⟩ := k_ld_e h
      refine va_iald hx hb hK hP 52 0 kw_52 rfl hv10 d_Md_otherwise_191 (k_top ev10 ?_)
      refine lv_imul hx hb d_Md_otherwise_192 ?_
      refine lv_aload_n hx hb d_Md_otherwise_193 rfl (lv_at hl 1 rfl) ?_
      refine va_get (ci := 1) (C := R_Md) (T := T_Md) (N := 44) hx hb hts in_Md hown hK hP 6 kw_6 rfl 32 (by decide) (hts _ q_745) (fun _ h9 => h9) rfl d_Md_otherwise_194 ?_
      refine lv_iload_n hx hb d_Md_otherwise_197 rfl (lv_at hl 3 rfl) ?_
      obtain ⟨v11, ev11, hv11, h⟩ := k_ld_e h
      refine va_iald hx hb hK hP 54 0 kw_54 rfl hv11 d_Md_otherwise_198 (k_top ev11 ?_)
      refine lv_iadd hx hb d_Md_otherwise_199 ?_
      obtain ⟨v12, ev12, hv12, h⟩ := k_ld_e h
      refine va_iald hx hb hK hP 37 0 kw_37 rfl hv12 d_Md_otherwise_200 (k_top ev12 ?_)
      refine lv_iload hx hb d_Md_otherwise_201 (lv_at hl 5 rfl) ?_
      refine lv_iload hx hb d_Md_otherwise_203 (lv_at hl 0 rfl) ?_
      obtain ⟨v13, σ14, hc15, h⟩ := k_call_e h
      refine k_calli (va_runV (As := [.int v12, .int x4, .int v7]) (rest := []) ⟨hx, hb, hml, hown, hts⟩ (K_Md_puts l D a c9 H.size hc15) (cwV 3 hts (k_gV q_897 q_899 s_23 q_7 q_900) rfl rfl rfl h_Md_puts ⟨Nat.le_of_ble_eq_true rfl, Nat.le_of_ble_eq_true rfl⟩) (k_preV (ci := 1) (q0 := 6) rfl kw_6 hP hK hN hD) rfl rfl hl.1 rfl (lv_room (Nat.le_of_ble_eq_true rfl)) d_Md_otherwise_205 ⟨Nat.zero_le _, Nat.zero_le _⟩) hD hS hA (fun H locs hP hD hS => ?_)
      refine lv_istore (lv' := [(6, .int v13), (5, .int v7), (0, .ref (a 6)), (1, .int x1), (2, .int x2), (3, .int x3), (4, .int x4)]) hx hb d_Md_otherwise_208 hl (by decide) rfl (fun ls hl => ?_)
      refine lv_iload hx hb d_Md_otherwise_210 (lv_at hl 0 rfl) ?_
      refine lv_bipush (v := (-2)) hx hb d_Md_otherwise_212 (by decide) ?_
      refine lv_icmp_eq (tgt := 220) hx hb d_Md_otherwise_214 (by decide) (fun cn16 => ?_) (fun cn16 => ?_)
      · replace h := (if_pos cn16).symm.trans h
        refine lv_goto (tgt := 0) hx hb d_Md_otherwise_220 (by decide) ?_
        exact hrec0 _ H locs ls hP hD hS (lv_sub hl [2] rfl) h
      · replace h := (if_neg cn16).symm.trans h
        refine lv_iload hx hb d_Md_otherwise_217 (lv_at hl 0 rfl) ?_
        cases h
        exact k_iret hx hb hr hlk hP hS d_Md_otherwise_219
    · replace h := (if_neg cn1).symm.trans h
      refine lv_iload_n hx hb d_Md_otherwise_96 rfl (lv_at hl 3 rfl) ?_
      refine lv_iload hx hb d_Md_otherwise_97 (lv_at hl 5 rfl) ?_
      obtain ⟨v17, σ18, hc19, h⟩ := k_call_e h
      refine k_calli (va_runS (As := [.int x5]) (rest := [.int x3]) ⟨hx, hb, hml, hown, hts⟩ (K_Md_bit l D a c9 H.size hc19) (va_cwS 1 hts (k_gS q_933 q_934 q_7 q_935) rfl rfl rfl h_Md_bit.2 ⟨Nat.le_of_ble_eq_true rfl, Nat.le_of_ble_eq_true rfl⟩) (k_preS hP hK hN hD) rfl rfl hl.1 rfl (lv_room (Nat.le_of_ble_eq_true rfl)) d_Md_otherwise_99 ⟨Nat.zero_le _, Nat.zero_le _⟩) hD hS hA (fun H locs hP hD hS => ?_)
      refine lv_iand hx hb d_Md_otherwise_102 ?_
      refine lv_if_eq (tgt := 133) hx hb d_Md_otherwise_103 (by decide) (fun cn20 => ?_) (fun cn20 => ?_)
      · replace h := (if_pos cn20).symm.trans h
        obtain ⟨v21, ev21, h⟩ := k_let_e h
        refine lv_iinc (v := v21) (lv' := [(5, .int v21), (0, .ref (a 6)), (1, .int x1), (2, .int x2), (3, .int x3), (4, .int x4)]) hx hb d_Md_otherwise_133 hl (k := 5) rfl (by rw [ev21]; rfl) (by decide) rfl (fun ls hl => ?_)
        refine lv_goto (tgt := 89) hx hb d_Md_otherwise_136 (by decide) ?_
        exact ih _ _ _ _ _ _ H locs ls hP hD hS (lv_sub hl [1, 2, 3, 4, 5, 0] rfl) h
      · replace h := (if_neg cn20).symm.trans h
        refine lv_aload_n hx hb d_Md_otherwise_106 rfl (lv_at hl 0 rfl) ?_
        refine va_get (ci := 1) (C := R_Md) (T := T_Md) (N := 44) hx hb hts in_Md hown hK hP 6 kw_6 rfl 43 (by decide) (hts _ q_756) (fun _ h9 => h9) rfl d_Md_otherwise_107 ?_
        refine lv_iload hx hb d_Md_otherwise_110 (lv_at hl 4 rfl) ?_
        refine lv_aload_n hx hb d_Md_otherwise_112 rfl (lv_at hl 0 rfl) ?_
        refine va_get (ci := 1) (C := R_Md) (T := T_Md) (N := 44) hx hb hts in_Md hown hK hP 6 kw_6 rfl 6 (by decide) (hts _ q_719) (fun _ h9 => h9) rfl d_Md_otherwise_113 ?_
        refine lv_bipush (v := 12) hx hb d_Md_otherwise_116 (by decide) ?_
        refine lv_aload_n hx hb d_Md_otherwise_118 rfl (lv_at hl 0 rfl) ?_
        refine va_get (ci := 1) (C := R_Md) (T := T_Md) (N := 44) hx hb hts in_Md hown hK hP 6 kw_6 rfl 31 (by decide) (hts _ q_744) (fun _ h9 => h9) rfl d_Md_otherwise_119 ?_
        refine lv_iload_n hx hb d_Md_otherwise_122 rfl (lv_at hl 2 rfl) ?_
        obtain ⟨v22, ev22, hv22, h⟩ := k_ld_e h
        refine va_iald hx hb hK hP 53 0 kw_53 rfl hv22 d_Md_otherwise_123 (k_top ev22 ?_)
        refine lv_imul hx hb d_Md_otherwise_124 ?_
        refine lv_iload hx hb d_Md_otherwise_125 (lv_at hl 5 rfl) ?_
        refine lv_iadd hx hb d_Md_otherwise_127 ?_
        obtain ⟨v23, ev23, hv23, h⟩ := k_ld_e h
        refine va_iald hx hb hK hP 37 0 kw_37 rfl hv23 d_Md_otherwise_128 (k_top ev23 ?_)
        obtain ⟨σ24, eσ24, hiσ24, h⟩ := k_st_e h
        refine va_iast hx hb hK hP hD hS 64 0 kw_64 rfl hiσ24 d_Md_otherwise_129 (fun H locs hP hD hS => ?_)
        replace hP := k_mvP (kw_s64.trans (congrArg _ eσ24.symm)) hP
        replace hD := k_mvD (kw_s64.trans (congrArg _ eσ24.symm)) hD
        obtain ⟨v25, ev25, h⟩ := k_let_e h
        refine lv_iinc (v := v25) (lv' := [(4, .int v25), (0, .ref (a 6)), (1, .int x1), (2, .int x2), (3, .int x3), (5, .int x5)]) hx hb d_Md_otherwise_130 hl (k := 4) rfl (by rw [ev25]; rfl) (by decide) rfl (fun ls hl => ?_)
        obtain ⟨v26, ev26, h⟩ := k_let_e h
        refine lv_iinc (v := v26) (lv' := [(5, .int v26), (4, .int v25), (0, .ref (a 6)), (1, .int x1), (2, .int x2), (3, .int x3)]) hx hb d_Md_otherwise_133 hl (k := 5) rfl (by rw [ev26]; rfl) (by decide) rfl (fun ls hl => ?_)
        refine lv_goto (tgt := 89) hx hb d_Md_otherwise_136 (by decide) ?_
        exact ih _ _ _ _ _ _ H locs ls hP hD hS (lv_sub hl [2, 3, 4, 5, 1, 0] rfl) h
def M_Md_otherwise_0_b (self9 : kS → Option (Int32 × kS)) (σ : kS) : Option (Int32 × kS) := if σ.1 21 ≤ 0 then (some ((-3), σ)) else (k_let ((σ.1 21 - 1)) fun v2 => k_ld (σ.2.1 52) 500 (v2) fun v3 => k_ld (σ.2.1 53) 500 (v2) fun v4 => k_call (M_Md_backTo σ v3 v4) fun _ σ6 => k_ld (σ6.2.1 50) 500 (v2) fun v8 => k_ld (σ6.2.1 51) 500 (v2) fun v9 => k_call (M_Md_takenNext σ6 v8 v9) fun v10 σ11 => if 0 ≤ v10 then (k_call (M_Md_tries σ11) fun v14 σ15 => if v14 = 0 then (some ((-3), σ15)) else (k_st σ15 51 500 (v2) (v10) fun σ18 => M_Md_otherwise_89 self9 k_fu σ18 v2 v8 v10 0 0)) else (k_set σ11 21 ((σ11.1 21 - 1)) fun σ19 => self9 σ19))
def M_Md_otherwise_0 : Nat → kS → Option (Int32 × kS)
  | 0 => fun _  => none
  | n + 1 => M_Md_otherwise_0_b (M_Md_otherwise_0 n)
set_option maxHeartbeats 4000000 in
set_option maxRecDepth 100000 in
theorem B_Md_otherwise_0 {p : Program} {l : Launch} {e : Env} {s : State} {m : MethodId} {args : Array Value} {below : List Frame} {meth : Method} {c : Code} {D : va_G} {a : Nat → Nat} {c9 : Nat → ClassId} {A : Nat → Prop} {r9 : Int32} {σo : kS} (C0 : k_Cx D c9 p s m args meth c R_Md c_Md_otherwise 7 (some .int) A) : ∀ (n : Nat) (σ : kS) (H : Heap) (locs : List Loc) (ls : Array Slot), va_P D kcl (kw a c9 σ) H → va_D A (kw a c9 σ) → va_S A s.heap H locs → lv_has ls 7 [(0, .ref (a 6))] → M_Md_otherwise_0 n σ  = some (r9, σo) → W p l e rm_Md_otherwise s m args below meth c H locs 0 0 (MQ below (k_Qi D a c9 r9 σo A) args s 0 0 A) (F0 m 0 ls []) := by
  obtain ⟨hx, hb, hml, hown, hts, hr, hlk, hK, hN, hA⟩ := id C0
  intro n
  induction n with
  | zero =>
    intro σ  H locs ls hP hD hS hl h
    replace h : (none : Option (Int32 × kS)) = some (r9, σo) := h
    cases h
  | succ n ih =>
    intro σ  H locs ls hP hD hS hl h
    replace h : M_Md_otherwise_0_b (M_Md_otherwise_0 n) σ  = some (r9, σo) := h
    unfold M_Md_otherwise_0_b at h
    refine lv_aload_n hx hb d_Md_otherwise_0 rfl (lv_at hl 0 rfl) ?_
    refine va_get (ci := 1) (C := R_Md) (T := T_Md) (N := 44) hx hb hts in_Md hown hK hP 6 kw_6 rfl 35 (by decide) (hts _ q_748) (fun _ h9 => h9) rfl d_Md_otherwise_1 ?_
    refine lv_if_le (tgt := 223) hx hb d_Md_otherwise_4 (by decide) (fun cn1 => ?_) (fun cn1 => ?_)
    · replace h := (if_pos cn1).symm.trans h
      refine lv_bipush (v := (-3)) hx hb d_Md_otherwise_223 (by decide) ?_
      cases h
      exact k_iret hx hb hr hlk hP hS d_Md_otherwise_225
    · replace h := (if_neg cn1).symm.trans h
      refine lv_aload_n hx hb d_Md_otherwise_7 rfl (lv_at hl 0 rfl) ?_
      refine va_get (ci := 1) (C := R_Md) (T := T_Md) (N := 44) hx hb hts in_Md hown hK hP 6 kw_6 rfl 35 (by decide) (hts _ q_748) (fun _ h9 => h9) rfl d_Md_otherwise_8 ?_
      refine lv_iconst (v := 1) hx hb d_Md_otherwise_11 (by decide) ?_
      refine lv_isub hx hb d_Md_otherwise_12 ?_
      obtain ⟨v2, ev2, h⟩ := k_let_e h
      refine k_top ev2 ?_
      refine lv_istore_n (lv' := [(1, .int v2), (0, .ref (a 6))]) hx hb d_Md_otherwise_13 rfl hl (by decide) rfl (fun ls hl => ?_)
      refine lv_aload_n hx hb d_Md_otherwise_14 rfl (lv_at hl 1 rfl) ?_
      refine lv_aload_n hx hb d_Md_otherwise_15 rfl (lv_at hl 1 rfl) ?_
      refine va_get (ci := 1) (C := R_Md) (T := T_Md) (N := 44) hx hb hts in_Md hown hK hP 6 kw_6 rfl 38 (by decide) (hts _ q_751) (fun _ h9 => h9) rfl d_Md_otherwise_16 ?_
      refine lv_iload_n hx hb d_Md_otherwise_19 rfl (lv_at hl 0 rfl) ?_
      obtain ⟨v3, ev3, hv3, h⟩ := k_ld_e h
      refine va_iald hx hb hK hP 59 0 kw_59 rfl hv3 d_Md_otherwise_20 (k_top ev3 ?_)
      refine lv_aload_n hx hb d_Md_otherwise_21 rfl (lv_at hl 1 rfl) ?_
      refine va_get (ci := 1) (C := R_Md) (T := T_Md) (N := 44) hx hb hts in_Md hown hK hP 6 kw_6 rfl 39 (by decide) (hts _ q_752) (fun _ h9 => h9) rfl d_Md_otherwise_22 ?_
      refine lv_iload_n hx hb d_Md_otherwise_25 rfl (lv_at hl 0 rfl) ?_
      obtain ⟨v4, ev4, hv4, h⟩ := k_ld_e h
      refine va_iald hx hb hK hP 60 0 kw_60 rfl hv4 d_Md_otherwise_26 (k_top ev4 ?_)
      obtain ⟨v5, σ6, hc7, h⟩ := k_call_e h
      refine k_callv (va_runV (As := [.int v3, .int v4]) (rest := []) ⟨hx, hb, hml, hown, hts⟩ (K_Md_backTo l D a c9 H.size hc7) (cwV 2 hts (k_gV q_921 q_923 s_29 q_7 q_924) rfl rfl rfl h_Md_backTo ⟨Nat.le_of_ble_eq_true rfl, Nat.le_of_ble_eq_true rfl⟩) (k_preV (ci := 1) (q0 := 6) rfl kw_6 hP hK hN hD) rfl rfl hl.1 rfl (lv_room (Nat.le_of_ble_eq_true rfl)) d_Md_otherwise_27 ⟨Nat.zero_le _, Nat.zero_le _⟩) hD hS hA (fun H locs hP hD hS => ?_)
      refine lv_aload_n hx hb d_Md_otherwise_30 rfl (lv_at hl 1 rfl) ?_
      refine va_get (ci := 1) (C := R_Md) (T := T_Md) (N := 44) hx hb hts in_Md hown hK hP 6 kw_6 rfl 36 (by decide) (hts _ q_749) (fun _ h9 => h9) rfl d_Md_otherwise_31 ?_
      refine lv_iload_n hx hb d_Md_otherwise_34 rfl (lv_at hl 0 rfl) ?_
      obtain ⟨v8, ev8, hv8, h⟩ := k_ld_e h
      refine va_iald hx hb hK hP 57 0 kw_57 rfl hv8 d_Md_otherwise_35 (k_top ev8 ?_)
      refine lv_istore_n (lv' := [(2, .int v8), (1, .int v2), (0, .ref (a 6))]) hx hb d_Md_otherwise_36 rfl hl (by decide) rfl (fun ls hl => ?_)
      refine lv_aload_n hx hb d_Md_otherwise_37 rfl (lv_at hl 2 rfl) ?_
      refine lv_iload_n hx hb d_Md_otherwise_38 rfl (lv_at hl 0 rfl) ?_
      refine lv_aload_n hx hb d_Md_otherwise_39 rfl (lv_at hl 2 rfl) ?_
      refine va_get (ci := 1) (C := R_Md) (T := T_Md) (N := 44) hx hb hts in_Md hown hK hP 6 kw_6 rfl 37 (by decide) (hts _ q_750) (fun _ h9 => h9) rfl d_Md_otherwise_40 ?_
      refine lv_iload_n hx hb d_Md_otherwise_43 rfl (lv_at hl 1 rfl) ?_
      obtain ⟨v9, ev9, hv9, h⟩ := k_ld_e h
      refine va_iald hx hb hK hP 58 0 kw_58 rfl hv9 d_Md_otherwise_44 (k_top ev9 ?_)
      obtain ⟨v10, σ11, hc12, h⟩ := k_call_e h
      refine k_calli (va_runV (As := [.int v8, .int v9]) (rest := []) ⟨hx, hb, hml, hown, hts⟩ (K_Md_takenNext l D a c9 H.size hc12) (cwV 2 hts (k_gV q_925 q_927 s_30 q_7 q_928) rfl rfl rfl h_Md_takenNext ⟨Nat.le_of_ble_eq_true rfl, Nat.le_of_ble_eq_true rfl⟩) (k_preV (ci := 1) (q0 := 6) rfl kw_6 hP hK hN hD) rfl rfl hl.1 rfl (lv_room (Nat.le_of_ble_eq_true rfl)) d_Md_otherwise_45 ⟨Nat.zero_le _, Nat.zero_le _⟩) hD hS hA (fun H locs hP hD hS => ?_)
      refine lv_istore_n (lv' := [(3, .int v10), (2, .int v8), (1, .int v2), (0, .ref (a 6))]) hx hb d_Md_otherwise_48 rfl hl (by decide) rfl (fun ls hl => ?_)
      refine lv_iload_n hx hb d_Md_otherwise_49 rfl (lv_at hl 0 rfl) ?_
      refine lv_if_ge (tgt := 66) hx hb d_Md_otherwise_50 (by decide) (fun cn13 => ?_) (fun cn13 => ?_)
      · replace h := (if_pos cn13).symm.trans h
        refine lv_aload_n hx hb d_Md_otherwise_66 rfl (lv_at hl 3 rfl) ?_
        obtain ⟨v14, σ15, hc16, h⟩ := k_call_e h
        refine k_calli (va_runV (As := []) (rest := []) ⟨hx, hb, hml, hown, hts⟩ (K_Md_tries l D a c9 H.size hc16) (cwV 0 hts (k_gV q_893 q_895 s_22 q_7 q_896) rfl rfl rfl h_Md_tries ⟨Nat.le_of_ble_eq_true rfl, Nat.le_of_ble_eq_true rfl⟩) (k_preV (ci := 1) (q0 := 6) rfl kw_6 hP hK hN hD) rfl rfl hl.1 rfl (lv_room (Nat.le_of_ble_eq_true rfl)) d_Md_otherwise_67 ⟨Nat.zero_le _, Nat.zero_le _⟩) hD hS hA (fun H locs hP hD hS => ?_)
        refine lv_if_ne (tgt := 76) hx hb d_Md_otherwise_70 (by decide) (fun cn17 => ?_) (fun cn17 => ?_)
        · replace h := (if_neg cn17).symm.trans h
          refine lv_aload_n hx hb d_Md_otherwise_76 rfl (lv_at hl 3 rfl) ?_
          refine va_get (ci := 1) (C := R_Md) (T := T_Md) (N := 44) hx hb hts in_Md hown hK hP 6 kw_6 rfl 37 (by decide) (hts _ q_750) (fun _ h9 => h9) rfl d_Md_otherwise_77 ?_
          refine lv_iload_n hx hb d_Md_otherwise_80 rfl (lv_at hl 2 rfl) ?_
          refine lv_iload_n hx hb d_Md_otherwise_81 rfl (lv_at hl 0 rfl) ?_
          obtain ⟨σ18, eσ18, hiσ18, h⟩ := k_st_e h
          refine va_iast hx hb hK hP hD hS 58 0 kw_58 rfl hiσ18 d_Md_otherwise_82 (fun H locs hP hD hS => ?_)
          replace hP := k_mvP (kw_s58.trans (congrArg _ eσ18.symm)) hP
          replace hD := k_mvD (kw_s58.trans (congrArg _ eσ18.symm)) hD
          refine lv_iconst (v := 0) hx hb d_Md_otherwise_83 (by decide) ?_
          refine lv_istore (lv' := [(4, .int 0), (3, .int v10), (2, .int v8), (1, .int v2), (0, .ref (a 6))]) hx hb d_Md_otherwise_84 hl (by decide) rfl (fun ls hl => ?_)
          refine lv_iconst (v := 0) hx hb d_Md_otherwise_86 (by decide) ?_
          refine lv_istore (lv' := [(5, .int 0), (4, .int 0), (3, .int v10), (2, .int v8), (1, .int v2), (0, .ref (a 6))]) hx hb d_Md_otherwise_87 hl (by decide) rfl (fun ls hl => ?_)
          exact B_Md_otherwise_89 C0 ih k_fu _ _ _ _ _ _ H locs ls hP hD hS (lv_sub hl [5, 4, 3, 2, 1, 0] rfl) h
        · replace h := (if_pos cn17).symm.trans h
          refine lv_bipush (v := (-3)) hx hb d_Md_otherwise_73 (by decide) ?_
          cases h
          exact k_iret hx hb hr hlk hP hS d_Md_otherwise_75
      · replace h := (if_neg cn13).symm.trans h
        refine lv_aload_n hx hb d_Md_otherwise_53 rfl (lv_at hl 3 rfl) ?_
        refine lv_dup hx hb d_Md_otherwise_54 rfl ?_
        refine va_get (ci := 1) (C := R_Md) (T := T_Md) (N := 44) hx hb hts in_Md hown hK hP 6 kw_6 rfl 35 (by decide) (hts _ q_748) (fun _ h9 => h9) rfl d_Md_otherwise_55 ?_
        refine lv_iconst (v := 1) hx hb d_Md_otherwise_58 (by decide) ?_
        refine lv_isub hx hb d_Md_otherwise_59 ?_
        obtain ⟨σ19, eσ19, h⟩ := k_set_e h
        refine va_put (ci := 1) (v := .int ((σ11.1 21 - 1))) (ty := .int) (C := R_Md) (T := T_Md) (N := 44) hx hb hts in_Md t_Md t_Md_ok n_Md hown hK hP hD hS 6 kw_6 rfl 35 (by decide) (hts _ q_748) (fun _ h9 => h9) rfl (by decide +kernel) rfl rfl (Nat.le_of_ble_eq_true rfl) d_Md_otherwise_60 (fun H locs hP hD hS => ?_)
        replace hP := k_mvP (kw_f6_35.trans (congrArg _ eσ19.symm)) hP
        replace hD := k_mvD (kw_f6_35.trans (congrArg _ eσ19.symm)) hD
        refine lv_goto (tgt := 220) hx hb d_Md_otherwise_63 (by decide) ?_
        refine lv_goto (tgt := 0) hx hb d_Md_otherwise_220 (by decide) ?_
        exact ih _ H locs ls hP hD hS (lv_sub hl [3] rfl) h
def M_Md_otherwise (σ : kS) : Option (Int32 × kS) := M_Md_otherwise_0 k_fu σ 
theorem K_Md_otherwise (l : Launch) (D : va_G) (a : Nat → Nat) (c9 : Nat → ClassId) (sz : Nat) {σ : kS} {r9 : Int32} {σo : kS} (h : M_Md_otherwise σ  = some (r9, σo)) : Met l y_Md_otherwise (Cond.code y_Md_otherwise c_Md_otherwise 7 (some .int) :: kG) rm_Md_otherwise (k_Pc D a c9 sz σ [.ref (a 6)]) (k_Qi D a c9 r9 σo (k_A a c9 σ sz)) 0 0 (k_A a c9 σ sz) :=
  k_met (Qf := k_Qi D a c9 r9 σo) (by decide) (Nat.le_of_ble_eq_true rfl) (fun p e s m args below meth c A ls C0 hP hD hS hl => B_Md_otherwise_0 C0 k_fu σ  s.heap [] ls hP hD hS hl h)
def rm_Md_search : Room := { frames := 4, cells := 0, slots := 0, locals := 100 }
def M_Md_search_96_b (self9 : kS → Int32 → Int32 → Int32 → Int32 → Option (Int32 × kS)) (σ : kS) (x1 x2 x3 x4 : Int32) : Option (Int32 × kS) := if x4 = (-3) then (some (0, σ)) else (if x4 = (-1) then (k_call (M_Md_keepMatch σ) fun _ σ24 => k_call (M_Md_otherwise σ24) fun v26 σ27 => self9 σ27 x1 x2 x3 v26) else (k_ld (σ.2.1 47) 1000 (x4) fun v3 => k_ld (σ.2.1 45) 1000 (x4) fun v4 => k_ld (σ.2.1 29) 240 (v4) fun v5 => if v3 = v5 then (k_call (M_Md_leftOf σ x4) fun v15 σ16 => if v15 = 0 then (k_ld (σ16.2.1 49) 1000 (x4) fun v22 => self9 σ16 x1 x2 x3 v22) else (k_call (M_Md_otherwise σ16) fun v19 σ20 => self9 σ20 x1 x2 x3 v19)) else (k_st σ 50 500 (σ.1 21) (x4) fun σ7 => k_st σ7 51 500 (σ7.1 21) ((-1)) fun σ8 => k_st σ8 52 500 (σ8.1 21) (σ8.1 15) fun σ9 => k_st σ9 53 500 (σ9.1 21) (σ9.1 20) fun σ10 => k_set σ10 21 ((σ10.1 21 + 1)) fun σ11 => k_call (M_Md_otherwise σ11) fun v12 σ13 => self9 σ13 x1 x2 x3 v12)))
def M_Md_search_96 : Nat → kS → Int32 → Int32 → Int32 → Int32 → Option (Int32 × kS)
  | 0 => fun _ _ _ _ _ => none
  | n + 1 => M_Md_search_96_b (M_Md_search_96 n)
set_option maxHeartbeats 4000000 in
set_option maxRecDepth 100000 in
theorem B_Md_search_96 {p : Program} {l : Launch} {e : Env} {s : State} {m : MethodId} {args : Array Value} {below : List Frame} {meth : Method} {c : Code} {D : va_G} {a : Nat → Nat} {c9 : Nat → ClassId} {A : Nat → Prop} {r9 : Int32} {σo : kS} (C0 : k_Cx D c9 p s m args meth c R_Md c_Md_search 5 none A) : ∀ (n : Nat) (σ : kS) (x1 x2 x3 x4 : Int32) (H : Heap) (locs : List Loc) (ls : Array Slot), va_P D kcl (kw a c9 σ) H → va_D A (kw a c9 σ) → va_S A s.heap H locs → lv_has ls 5 [(0, .ref (a 6)), (1, .int x1), (2, .int x2), (3, .int x3), (4, .int x4)] → M_Md_search_96 n σ x1 x2 x3 x4 = some (r9, σo) → W p l e rm_Md_search s m args below meth c H locs 0 0 (MQ below (k_Qv D a c9 σo A) args s 0 0 A) (F0 m 96 ls []) := by
  obtain ⟨hx, hb, hml, hown, hts, hr, hlk, hK, hN, hA⟩ := id C0
  intro n
  induction n with
  | zero =>
    intro σ x1 x2 x3 x4 H locs ls hP hD hS hl h
    replace h : (none : Option (Int32 × kS)) = some (r9, σo) := h
    cases h
  | succ n ih =>
    intro σ x1 x2 x3 x4 H locs ls hP hD hS hl h
    replace h : M_Md_search_96_b (M_Md_search_96 n) σ x1 x2 x3 x4 = some (r9, σo) := h
    unfold M_Md_search_96_b at h
    refine lv_iload hx hb d_Md_search_96 (lv_at hl 4 rfl) ?_
    refine lv_bipush (v := (-3)) hx hb d_Md_search_98 (by decide) ?_
    refine lv_icmp_eq (tgt := 238) hx hb d_Md_search_100 (by decide) (fun cn1 => ?_) (fun cn1 => ?_)
    · replace h := (if_pos cn1).symm.trans h
      cases h
      exact k_vret hx hb hr hlk hP hS d_Md_search_238
    · replace h := (if_neg cn1).symm.trans h
      refine lv_iload hx hb d_Md_search_103 (lv_at hl 4 rfl) ?_
      refine lv_iconst (v := (-1)) hx hb d_Md_search_105 (by decide) ?_
      refine lv_icmp_ne (tgt := 122) hx hb d_Md_search_106 (by decide) (fun cn2 => ?_) (fun cn2 => ?_)
      · replace h := (if_neg cn2).symm.trans h
        refine lv_aload_n hx hb d_Md_search_122 rfl (lv_at hl 0 rfl) ?_
        refine va_get (ci := 1) (C := R_Md) (T := T_Md) (N := 44) hx hb hts in_Md hown hK hP 6 kw_6 rfl 32 (by decide) (hts _ q_745) (fun _ h9 => h9) rfl d_Md_search_123 ?_
        refine lv_iload hx hb d_Md_search_126 (lv_at hl 4 rfl) ?_
        obtain ⟨v3, ev3, hv3, h⟩ := k_ld_e h
        refine va_iald hx hb hK hP 54 0 kw_54 rfl hv3 d_Md_search_128 (k_top ev3 ?_)
        refine lv_aload_n hx hb d_Md_search_129 rfl (lv_at hl 0 rfl) ?_
        refine va_get (ci := 1) (C := R_Md) (T := T_Md) (N := 44) hx hb hts in_Md hown hK hP 6 kw_6 rfl 5 (by decide) (hts _ q_718) (fun _ h9 => h9) rfl d_Md_search_130 ?_
        refine lv_aload_n hx hb d_Md_search_133 rfl (lv_at hl 0 rfl) ?_
        refine va_get (ci := 1) (C := R_Md) (T := T_Md) (N := 44) hx hb hts in_Md hown hK hP 6 kw_6 rfl 30 (by decide) (hts _ q_743) (fun _ h9 => h9) rfl d_Md_search_134 ?_
        refine lv_iload hx hb d_Md_search_137 (lv_at hl 4 rfl) ?_
        obtain ⟨v4, ev4, hv4, h⟩ := k_ld_e h
        refine va_iald hx hb hK hP 52 0 kw_52 rfl hv4 d_Md_search_139 (k_top ev4 ?_)
        obtain ⟨v5, ev5, hv5, h⟩ := k_ld_e h
        refine va_iald hx hb hK hP 36 0 kw_36 rfl hv5 d_Md_search_140 (k_top ev5 ?_)
        refine lv_icmp_ne (tgt := 172) hx hb d_Md_search_141 (by decide) (fun cn6 => ?_) (fun cn6 => ?_)
        · replace h := (if_neg cn6).symm.trans h
          refine lv_aload_n hx hb d_Md_search_172 rfl (lv_at hl 0 rfl) ?_
          refine va_get (ci := 1) (C := R_Md) (T := T_Md) (N := 44) hx hb hts in_Md hown hK hP 6 kw_6 rfl 36 (by decide) (hts _ q_749) (fun _ h9 => h9) rfl d_Md_search_173 ?_
          refine lv_aload_n hx hb d_Md_search_176 rfl (lv_at hl 0 rfl) ?_
          refine va_get (ci := 1) (C := R_Md) (T := T_Md) (N := 44) hx hb hts in_Md hown hK hP 6 kw_6 rfl 35 (by decide) (hts _ q_748) (fun _ h9 => h9) rfl d_Md_search_177 ?_
          refine lv_iload hx hb d_Md_search_180 (lv_at hl 4 rfl) ?_
          obtain ⟨σ7, eσ7, hiσ7, h⟩ := k_st_e h
          refine va_iast hx hb hK hP hD hS 57 0 kw_57 rfl hiσ7 d_Md_search_182 (fun H locs hP hD hS => ?_)
          replace hP := k_mvP (kw_s57.trans (congrArg _ eσ7.symm)) hP
          replace hD := k_mvD (kw_s57.trans (congrArg _ eσ7.symm)) hD
          refine lv_aload_n hx hb d_Md_search_183 rfl (lv_at hl 0 rfl) ?_
          refine va_get (ci := 1) (C := R_Md) (T := T_Md) (N := 44) hx hb hts in_Md hown hK hP 6 kw_6 rfl 37 (by decide) (hts _ q_750) (fun _ h9 => h9) rfl d_Md_search_184 ?_
          refine lv_aload_n hx hb d_Md_search_187 rfl (lv_at hl 0 rfl) ?_
          refine va_get (ci := 1) (C := R_Md) (T := T_Md) (N := 44) hx hb hts in_Md hown hK hP 6 kw_6 rfl 35 (by decide) (hts _ q_748) (fun _ h9 => h9) rfl d_Md_search_188 ?_
          refine lv_iconst (v := (-1)) hx hb d_Md_search_191 (by decide) ?_
          obtain ⟨σ8, eσ8, hiσ8, h⟩ := k_st_e h
          refine va_iast hx hb hK hP hD hS 58 0 kw_58 rfl hiσ8 d_Md_search_192 (fun H locs hP hD hS => ?_)
          replace hP := k_mvP (kw_s58.trans (congrArg _ eσ8.symm)) hP
          replace hD := k_mvD (kw_s58.trans (congrArg _ eσ8.symm)) hD
          refine lv_aload_n hx hb d_Md_search_193 rfl (lv_at hl 0 rfl) ?_
          refine va_get (ci := 1) (C := R_Md) (T := T_Md) (N := 44) hx hb hts in_Md hown hK hP 6 kw_6 rfl 38 (by decide) (hts _ q_751) (fun _ h9 => h9) rfl d_Md_search_194 ?_
          refine lv_aload_n hx hb d_Md_search_197 rfl (lv_at hl 0 rfl) ?_
          refine va_get (ci := 1) (C := R_Md) (T := T_Md) (N := 44) hx hb hts in_Md hown hK hP 6 kw_6 rfl 35 (by decide) (hts _ q_748) (fun _ h9 => h9) rfl d_Md_search_198 ?_
          refine lv_aload_n hx hb d_Md_search_201 rfl (lv_at hl 0 rfl) ?_
          refine va_get (ci := 1) (C := R_Md) (T := T_Md) (N := 44) hx hb hts in_Md hown hK hP 6 kw_6 rfl 23 (by decide) (hts _ q_736) (fun _ h9 => h9) rfl d_Md_search_202 ?_
          obtain ⟨σ9, eσ9, hiσ9, h⟩ := k_st_e h
          refine va_iast hx hb hK hP hD hS 59 0 kw_59 rfl hiσ9 d_Md_search_205 (fun H locs hP hD hS => ?_)
          replace hP := k_mvP (kw_s59.trans (congrArg _ eσ9.symm)) hP
          replace hD := k_mvD (kw_s59.trans (congrArg _ eσ9.symm)) hD
          refine lv_aload_n hx hb d_Md_search_206 rfl (lv_at hl 0 rfl) ?_
          refine va_get (ci := 1) (C := R_Md) (T := T_Md) (N := 44) hx hb hts in_Md hown hK hP 6 kw_6 rfl 39 (by decide) (hts _ q_752) (fun _ h9 => h9) rfl d_Md_search_207 ?_
          refine lv_aload_n hx hb d_Md_search_210 rfl (lv_at hl 0 rfl) ?_
          refine va_get (ci := 1) (C := R_Md) (T := T_Md) (N := 44) hx hb hts in_Md hown hK hP 6 kw_6 rfl 35 (by decide) (hts _ q_748) (fun _ h9 => h9) rfl d_Md_search_211 ?_
          refine lv_aload_n hx hb d_Md_search_214 rfl (lv_at hl 0 rfl) ?_
          refine va_get (ci := 1) (C := R_Md) (T := T_Md) (N := 44) hx hb hts in_Md hown hK hP 6 kw_6 rfl 29 (by decide) (hts _ q_742) (fun _ h9 => h9) rfl d_Md_search_215 ?_
          obtain ⟨σ10, eσ10, hiσ10, h⟩ := k_st_e h
          refine va_iast hx hb hK hP hD hS 60 0 kw_60 rfl hiσ10 d_Md_search_218 (fun H locs hP hD hS => ?_)
          replace hP := k_mvP (kw_s60.trans (congrArg _ eσ10.symm)) hP
          replace hD := k_mvD (kw_s60.trans (congrArg _ eσ10.symm)) hD
          refine lv_aload_n hx hb d_Md_search_219 rfl (lv_at hl 0 rfl) ?_
          refine lv_dup hx hb d_Md_search_220 rfl ?_
          refine va_get (ci := 1) (C := R_Md) (T := T_Md) (N := 44) hx hb hts in_Md hown hK hP 6 kw_6 rfl 35 (by decide) (hts _ q_748) (fun _ h9 => h9) rfl d_Md_search_221 ?_
          refine lv_iconst (v := 1) hx hb d_Md_search_224 (by decide) ?_
          refine lv_iadd hx hb d_Md_search_225 ?_
          obtain ⟨σ11, eσ11, h⟩ := k_set_e h
          refine va_put (ci := 1) (v := .int ((σ10.1 21 + 1))) (ty := .int) (C := R_Md) (T := T_Md) (N := 44) hx hb hts in_Md t_Md t_Md_ok n_Md hown hK hP hD hS 6 kw_6 rfl 35 (by decide) (hts _ q_748) (fun _ h9 => h9) rfl (by decide +kernel) rfl rfl (Nat.le_of_ble_eq_true rfl) d_Md_search_226 (fun H locs hP hD hS => ?_)
          replace hP := k_mvP (kw_f6_35.trans (congrArg _ eσ11.symm)) hP
          replace hD := k_mvD (kw_f6_35.trans (congrArg _ eσ11.symm)) hD
          refine lv_aload_n hx hb d_Md_search_229 rfl (lv_at hl 0 rfl) ?_
          obtain ⟨v12, σ13, hc14, h⟩ := k_call_e h
          refine k_calli (va_runV (As := []) (rest := []) ⟨hx, hb, hml, hown, hts⟩ (K_Md_otherwise l D a c9 H.size hc14) (cwV 0 hts (k_gV q_917 q_919 s_28 q_7 q_920) rfl rfl rfl h_Md_otherwise ⟨Nat.le_of_ble_eq_true rfl, Nat.le_of_ble_eq_true rfl⟩) (k_preV (ci := 1) (q0 := 6) rfl kw_6 hP hK hN hD) rfl rfl hl.1 rfl (lv_room (Nat.le_of_ble_eq_true rfl)) d_Md_search_230 ⟨Nat.zero_le _, Nat.zero_le _⟩) hD hS hA (fun H locs hP hD hS => ?_)
          refine lv_istore (lv' := [(4, .int v12), (0, .ref (a 6)), (1, .int x1), (2, .int x2), (3, .int x3)]) hx hb d_Md_search_233 hl (by decide) rfl (fun ls hl => ?_)
          refine lv_goto (tgt := 96) hx hb d_Md_search_235 (by decide) ?_
          exact ih _ _ _ _ _ H locs ls hP hD hS (lv_sub hl [1, 2, 3, 4, 0] rfl) h
        · replace h := (if_pos cn6).symm.trans h
          refine lv_aload_n hx hb d_Md_search_144 rfl (lv_at hl 0 rfl) ?_
          refine lv_iload hx hb d_Md_search_145 (lv_at hl 4 rfl) ?_
          obtain ⟨v15, σ16, hc17, h⟩ := k_call_e h
          refine k_calli (va_runV (As := [.int x4]) (rest := []) ⟨hx, hb, hml, hown, hts⟩ (K_Md_leftOf l D a c9 H.size hc17) (cwV 1 hts (k_gV q_929 q_931 s_31 q_7 q_932) rfl rfl rfl h_Md_leftOf ⟨Nat.le_of_ble_eq_true rfl, Nat.le_of_ble_eq_true rfl⟩) (k_preV (ci := 1) (q0 := 6) rfl kw_6 hP hK hN hD) rfl rfl hl.1 rfl (lv_room (Nat.le_of_ble_eq_true rfl)) d_Md_search_147 ⟨Nat.zero_le _, Nat.zero_le _⟩) hD hS hA (fun H locs hP hD hS => ?_)
          refine lv_if_ne (tgt := 163) hx hb d_Md_search_150 (by decide) (fun cn18 => ?_) (fun cn18 => ?_)
          · replace h := (if_neg cn18).symm.trans h
            refine lv_aload_n hx hb d_Md_search_163 rfl (lv_at hl 0 rfl) ?_
            obtain ⟨v19, σ20, hc21, h⟩ := k_call_e h
            refine k_calli (va_runV (As := []) (rest := []) ⟨hx, hb, hml, hown, hts⟩ (K_Md_otherwise l D a c9 H.size hc21) (cwV 0 hts (k_gV q_917 q_919 s_28 q_7 q_920) rfl rfl rfl h_Md_otherwise ⟨Nat.le_of_ble_eq_true rfl, Nat.le_of_ble_eq_true rfl⟩) (k_preV (ci := 1) (q0 := 6) rfl kw_6 hP hK hN hD) rfl rfl hl.1 rfl (lv_room (Nat.le_of_ble_eq_true rfl)) d_Md_search_164 ⟨Nat.zero_le _, Nat.zero_le _⟩) hD hS hA (fun H locs hP hD hS => ?_)
            refine lv_istore (lv' := [(4, .int v19), (0, .ref (a 6)), (1, .int x1), (2, .int x2), (3, .int x3)]) hx hb d_Md_search_167 hl (by decide) rfl (fun ls hl => ?_)
            refine lv_goto (tgt := 96) hx hb d_Md_search_169 (by decide) ?_
            exact ih _ _ _ _ _ H locs ls hP hD hS (lv_sub hl [1, 2, 3, 4, 0] rfl) h
          · replace h := (if_pos cn18).symm.trans h
            refine lv_aload_n hx hb d_Md_search_153 rfl (lv_at hl 0 rfl) ?_
            refine va_get (ci := 1) (C := R_Md) (T := T_Md) (N := 44) hx hb hts in_Md hown hK hP 6 kw_6 rfl 34 (by decide) (hts _ q_747) (fun _ h9 => h9) rfl d_Md_search_154 ?_
            refine lv_iload hx hb d_Md_search_157 (lv_at hl 4 rfl) ?_
            obtain ⟨v22, ev22, hv22, h⟩ := k_ld_e h
            refine va_iald hx hb hK hP 56 0 kw_56 rfl hv22 d_Md_search_159 (k_top ev22 ?_)
            refine lv_goto (tgt := 167) hx hb d_Md_search_160 (by decide) ?_
            refine lv_istore (lv' := [(4, .int v22), (0, .ref (a 6)), (1, .int x1), (2, .int x2), (3, .int x3)]) hx hb d_Md_search_167 hl (by decide) rfl (fun ls hl => ?_)
            refine lv_goto (tgt := 96) hx hb d_Md_search_169 (by decide) ?_
            exact ih _ _ _ _ _ H locs ls hP hD hS (lv_sub hl [1, 2, 3, 4, 0] rfl) h
      · replace h := (if_pos cn2).symm.trans h
        refine lv_aload_n hx hb d_Md_search_109 rfl (lv_at hl 0 rfl) ?_
        obtain ⟨v23, σ24, hc25, h⟩ := k_call_e h
        refine k_callv (va_runV (As := []) (rest := []) ⟨hx, hb, hml, hown, hts⟩ (K_Md_keepMatch l D a c9 H.size hc25) (cwV 0 hts (k_gV q_913 q_915 s_27 q_7 q_916) rfl rfl rfl h_Md_keepMatch ⟨Nat.le_of_ble_eq_true rfl, Nat.le_of_ble_eq_true rfl⟩) (k_preV (ci := 1) (q0 := 6) rfl kw_6 hP hK hN hD) rfl rfl hl.1 rfl (lv_room (Nat.le_of_ble_eq_true rfl)) d_Md_search_110 ⟨Nat.zero_le _, Nat.zero_le _⟩) hD hS hA (fun H locs hP hD hS => ?_)
        refine lv_aload_n hx hb d_Md_search_113 rfl (lv_at hl 0 rfl) ?_
        obtain ⟨v26, σ27, hc28, h⟩ := k_call_e h
        refine k_calli (va_runV (As := []) (rest := []) ⟨hx, hb, hml, hown, hts⟩ (K_Md_otherwise l D a c9 H.size hc28) (cwV 0 hts (k_gV q_917 q_919 s_28 q_7 q_920) rfl rfl rfl h_Md_otherwise ⟨Nat.le_of_ble_eq_true rfl, Nat.le_of_ble_eq_true rfl⟩) (k_preV (ci := 1) (q0 := 6) rfl kw_6 hP hK hN hD) rfl rfl hl.1 rfl (lv_room (Nat.le_of_ble_eq_true rfl)) d_Md_search_114 ⟨Nat.zero_le _, Nat.zero_le _⟩) hD hS hA (fun H locs hP hD hS => ?_)
        refine lv_istore (lv' := [(4, .int v26), (0, .ref (a 6)), (1, .int x1), (2, .int x2), (3, .int x3)]) hx hb d_Md_search_117 hl (by decide) rfl (fun ls hl => ?_)
        refine lv_goto (tgt := 96) hx hb d_Md_search_119 (by decide) ?_
        exact ih _ _ _ _ _ H locs ls hP hD hS (lv_sub hl [1, 2, 3, 4, 0] rfl) h
def M_Md_search_43_b (self9 : kS → Int32 → Int32 → Int32 → Int32 → Option (Int32 × kS)) (σ : kS) (x1 x2 x3 x4 : Int32) : Option (Int32 × kS) := if 8 ≤ x4 then (k_call (M_Md_tries σ) fun v2 σ3 => if v2 = 0 then (some (0, σ3)) else (k_st σ3 57 12 (0) (x2) fun σ6 => k_call (M_Md_puts σ6 x1 1 (-1)) fun v7 σ8 => if v7 = (-2) then (some (0, σ8)) else (M_Md_search_96 k_fu σ8 x1 x2 x3 v7))) else (k_st σ 42 8 (x4) ((-1)) fun σ11 => k_let (x4 + 1) fun v12 => self9 σ11 x1 x2 x3 v12)
def M_Md_search_43 : Nat → kS → Int32 → Int32 → Int32 → Int32 → Option (Int32 × kS)
  | 0 => fun _ _ _ _ _ => none
  | n + 1 => M_Md_search_43_b (M_Md_search_43 n)
set_option maxHeartbeats 4000000 in
set_option maxRecDepth 100000 in
theorem B_Md_search_43 {p : Program} {l : Launch} {e : Env} {s : State} {m : MethodId} {args : Array Value} {below : List Frame} {meth : Method} {c : Code} {D : va_G} {a : Nat → Nat} {c9 : Nat → ClassId} {A : Nat → Prop} {r9 : Int32} {σo : kS} (C0 : k_Cx D c9 p s m args meth c R_Md c_Md_search 5 none A) : ∀ (n : Nat) (σ : kS) (x1 x2 x3 x4 : Int32) (H : Heap) (locs : List Loc) (ls : Array Slot), va_P D kcl (kw a c9 σ) H → va_D A (kw a c9 σ) → va_S A s.heap H locs → lv_has ls 5 [(0, .ref (a 6)), (1, .int x1), (2, .int x2), (3, .int x3), (4, .int x4)] → M_Md_search_43 n σ x1 x2 x3 x4 = some (r9, σo) → W p l e rm_Md_search s m args below meth c H locs 0 0 (MQ below (k_Qv D a c9 σo A) args s 0 0 A) (F0 m 43 ls []) := by
  obtain ⟨hx, hb, hml, hown, hts, hr, hlk, hK, hN, hA⟩ := id C0
  intro n
  induction n with
  | zero =>
    intro σ x1 x2 x3 x4 H locs ls hP hD hS hl h
    replace h : (none : Option (Int32 × kS)) = some (r9, σo) := h
    cases h
  | succ n ih =>
    intro σ x1 x2 x3 x4 H locs ls hP hD hS hl h
    replace h : M_Md_search_43_b (M_Md_search_43 n) σ x1 x2 x3 x4 = some (r9, σo) := h
    unfold M_Md_search_43_b at h
    refine lv_iload hx hb d_Md_search_43 (lv_at hl 4 rfl) ?_
    refine lv_bipush (v := 8) hx hb d_Md_search_45 (by decide) ?_
    refine lv_icmp_ge (tgt := 64) hx hb d_Md_search_47 (by decide) (fun cn1 => ?_) (fun cn1 => ?_)
    · replace h := (if_pos cn1).symm.trans h
      refine lv_aload_n hx hb d_Md_search_64 rfl (lv_at hl 0 rfl) ?_
      obtain ⟨v2, σ3, hc4, h⟩ := k_call_e h
      refine k_calli (va_runV (As := []) (rest := []) ⟨hx, hb, hml, hown, hts⟩ (K_Md_tries l D a c9 H.size hc4) (cwV 0 hts (k_gV q_893 q_895 s_22 q_7 q_896) rfl rfl rfl h_Md_tries ⟨Nat.le_of_ble_eq_true rfl, Nat.le_of_ble_eq_true rfl⟩) (k_preV (ci := 1) (q0 := 6) rfl kw_6 hP hK hN hD) rfl rfl hl.1 rfl (lv_room (Nat.le_of_ble_eq_true rfl)) d_Md_search_65 ⟨Nat.zero_le _, Nat.zero_le _⟩) hD hS hA (fun H locs hP hD hS => ?_)
      refine lv_if_ne (tgt := 72) hx hb d_Md_search_68 (by decide) (fun cn5 => ?_) (fun cn5 => ?_)
      · replace h := (if_neg cn5).symm.trans h
        refine lv_aload_n hx hb d_Md_search_72 rfl (lv_at hl 0 rfl) ?_
        refine va_get (ci := 1) (C := R_Md) (T := T_Md) (N := 44) hx hb hts in_Md hown hK hP 6 kw_6 rfl 43 (by decide) (hts _ q_756) (fun _ h9 => h9) rfl d_Md_search_73 ?_
        refine lv_iconst (v := 0) hx hb d_Md_search_76 (by decide) ?_
        refine lv_iload_n hx hb d_Md_search_77 rfl (lv_at hl 2 rfl) ?_
        obtain ⟨σ6, eσ6, hiσ6, h⟩ := k_st_e h
        refine va_iast hx hb hK hP hD hS 64 0 kw_64 rfl hiσ6 d_Md_search_78 (fun H locs hP hD hS => ?_)
        replace hP := k_mvP (kw_s64.trans (congrArg _ eσ6.symm)) hP
        replace hD := k_mvD (kw_s64.trans (congrArg _ eσ6.symm)) hD
        refine lv_aload_n hx hb d_Md_search_79 rfl (lv_at hl 0 rfl) ?_
        refine lv_iload_n hx hb d_Md_search_80 rfl (lv_at hl 1 rfl) ?_
        refine lv_iconst (v := 1) hx hb d_Md_search_81 (by decide) ?_
        refine lv_iconst (v := (-1)) hx hb d_Md_search_82 (by decide) ?_
        obtain ⟨v7, σ8, hc9, h⟩ := k_call_e h
        refine k_calli (va_runV (As := [.int x1, .int 1, .int (-1)]) (rest := []) ⟨hx, hb, hml, hown, hts⟩ (K_Md_puts l D a c9 H.size hc9) (cwV 3 hts (k_gV q_897 q_899 s_23 q_7 q_900) rfl rfl rfl h_Md_puts ⟨Nat.le_of_ble_eq_true rfl, Nat.le_of_ble_eq_true rfl⟩) (k_preV (ci := 1) (q0 := 6) rfl kw_6 hP hK hN hD) rfl rfl hl.1 rfl (lv_room (Nat.le_of_ble_eq_true rfl)) d_Md_search_83 ⟨Nat.zero_le _, Nat.zero_le _⟩) hD hS hA (fun H locs hP hD hS => ?_)
        refine lv_istore (lv' := [(4, .int v7), (0, .ref (a 6)), (1, .int x1), (2, .int x2), (3, .int x3)]) hx hb d_Md_search_86 hl (by decide) rfl (fun ls hl => ?_)
        refine lv_iload hx hb d_Md_search_88 (lv_at hl 0 rfl) ?_
        refine lv_bipush (v := (-2)) hx hb d_Md_search_90 (by decide) ?_
        refine lv_icmp_ne (tgt := 96) hx hb d_Md_search_92 (by decide) (fun cn10 => ?_) (fun cn10 => ?_)
        · replace h := (if_neg cn10).symm.trans h
          exact B_Md_search_96 C0 k_fu _ _ _ _ _ H locs ls hP hD hS (lv_sub hl [1, 2, 3, 4, 0] rfl) h
        · replace h := (if_pos cn10).symm.trans h
          cases h
          exact k_vret hx hb hr hlk hP hS d_Md_search_95
      · replace h := (if_pos cn5).symm.trans h
        cases h
        exact k_vret hx hb hr hlk hP hS d_Md_search_71
    · replace h := (if_neg cn1).symm.trans h
      refine lv_aload_n hx hb d_Md_search_50 rfl (lv_at hl 0 rfl) ?_
      refine va_get (ci := 1) (C := R_Md) (T := T_Md) (N := 44) hx hb hts in_Md hown hK hP 6 kw_6 rfl 21 (by decide) (hts _ q_734) (fun _ h9 => h9) rfl d_Md_search_51 ?_
      refine lv_iload hx hb d_Md_search_54 (lv_at hl 4 rfl) ?_
      refine lv_iconst (v := (-1)) hx hb d_Md_search_56 (by decide) ?_
      obtain ⟨σ11, eσ11, hiσ11, h⟩ := k_st_e h
      refine va_iast hx hb hK hP hD hS 49 0 kw_49 rfl hiσ11 d_Md_search_57 (fun H locs hP hD hS => ?_)
      replace hP := k_mvP (kw_s49.trans (congrArg _ eσ11.symm)) hP
      replace hD := k_mvD (kw_s49.trans (congrArg _ eσ11.symm)) hD
      obtain ⟨v12, ev12, h⟩ := k_let_e h
      refine lv_iinc (v := v12) (lv' := [(4, .int v12), (0, .ref (a 6)), (1, .int x1), (2, .int x2), (3, .int x3)]) hx hb d_Md_search_58 hl (k := 4) rfl (by rw [ev12]; rfl) (by decide) rfl (fun ls hl => ?_)
      refine lv_goto (tgt := 43) hx hb d_Md_search_61 (by decide) ?_
      exact ih _ _ _ _ _ H locs ls hP hD hS (lv_sub hl [1, 2, 3, 4, 0] rfl) h
def M_Md_search (σ : kS) (x1 x2 x3 : Int32) : Option (Int32 × kS) := k_set σ 17 (x3) fun σ1 => k_set σ1 16 (0) fun σ2 => k_set σ2 18 (0) fun σ3 => k_set σ3 14 (0) fun σ4 => k_set σ4 19 (0) fun σ5 => k_set σ5 15 (0) fun σ6 => k_set σ6 20 (0) fun σ7 => k_set σ7 21 (0) fun σ8 => M_Md_search_43 k_fu σ8 x1 x2 x3 0
set_option maxHeartbeats 4000000 in
set_option maxRecDepth 100000 in
theorem B_Md_search_0 {p : Program} {l : Launch} {e : Env} {s : State} {m : MethodId} {args : Array Value} {below : List Frame} {meth : Method} {c : Code} {D : va_G} {a : Nat → Nat} {c9 : Nat → ClassId} {A : Nat → Prop} {r9 : Int32} {σo : kS} (C0 : k_Cx D c9 p s m args meth c R_Md c_Md_search 5 none A) (σ : kS) (x1 x2 x3 : Int32) (H : Heap) (locs : List Loc) (ls : Array Slot) (hP : va_P D kcl (kw a c9 σ) H) (hD : va_D A (kw a c9 σ)) (hS : va_S A s.heap H locs) (hl : lv_has ls 5 [(0, .ref (a 6)), (1, .int x1), (2, .int x2), (3, .int x3)]) (h : M_Md_search σ x1 x2 x3 = some (r9, σo)) : W p l e rm_Md_search s m args below meth c H locs 0 0 (MQ below (k_Qv D a c9 σo A) args s 0 0 A) (F0 m 0 ls []) := by
  obtain ⟨hx, hb, hml, hown, hts, hr, hlk, hK, hN, hA⟩ := id C0
  unfold M_Md_search at h
  refine lv_aload_n hx hb d_Md_search_0 rfl (lv_at hl 0 rfl) ?_
  refine lv_iload_n hx hb d_Md_search_1 rfl (lv_at hl 3 rfl) ?_
  obtain ⟨σ1, eσ1, h⟩ := k_set_e h
  refine va_put (ci := 1) (v := .int x3) (ty := .int) (C := R_Md) (T := T_Md) (N := 44) hx hb hts in_Md t_Md t_Md_ok n_Md hown hK hP hD hS 6 kw_6 rfl 26 (by decide) (hts _ q_739) (fun _ h9 => h9) rfl (by decide +kernel) rfl rfl (Nat.le_of_ble_eq_true rfl) d_Md_search_2 (fun H locs hP hD hS => ?_)
  replace hP := k_mvP (kw_f6_26.trans (congrArg _ eσ1.symm)) hP
  replace hD := k_mvD (kw_f6_26.trans (congrArg _ eσ1.symm)) hD
  refine lv_aload_n hx hb d_Md_search_5 rfl (lv_at hl 0 rfl) ?_
  refine lv_iconst (v := 0) hx hb d_Md_search_6 (by decide) ?_
  obtain ⟨σ2, eσ2, h⟩ := k_set_e h
  refine va_put (ci := 1) (v := .int 0) (ty := .int) (C := R_Md) (T := T_Md) (N := 44) hx hb hts in_Md t_Md t_Md_ok n_Md hown hK hP hD hS 6 kw_6 rfl 25 (by decide) (hts _ q_738) (fun _ h9 => h9) rfl (by decide +kernel) rfl rfl (Nat.le_of_ble_eq_true rfl) d_Md_search_7 (fun H locs hP hD hS => ?_)
  replace hP := k_mvP (kw_f6_25.trans (congrArg _ eσ2.symm)) hP
  replace hD := k_mvD (kw_f6_25.trans (congrArg _ eσ2.symm)) hD
  refine lv_aload_n hx hb d_Md_search_10 rfl (lv_at hl 0 rfl) ?_
  refine lv_iconst (v := 0) hx hb d_Md_search_11 (by decide) ?_
  obtain ⟨σ3, eσ3, h⟩ := k_set_e h
  refine va_put (ci := 1) (v := .int 0) (ty := .int) (C := R_Md) (T := T_Md) (N := 44) hx hb hts in_Md t_Md t_Md_ok n_Md hown hK hP hD hS 6 kw_6 rfl 27 (by decide) (hts _ q_740) (fun _ h9 => h9) rfl (by decide +kernel) rfl rfl (Nat.le_of_ble_eq_true rfl) d_Md_search_12 (fun H locs hP hD hS => ?_)
  replace hP := k_mvP (kw_f6_27.trans (congrArg _ eσ3.symm)) hP
  replace hD := k_mvD (kw_f6_27.trans (congrArg _ eσ3.symm)) hD
  refine lv_aload_n hx hb d_Md_search_15 rfl (lv_at hl 0 rfl) ?_
  refine lv_iconst (v := 0) hx hb d_Md_search_16 (by decide) ?_
  obtain ⟨σ4, eσ4, h⟩ := k_set_e h
  refine va_put (ci := 1) (v := .int 0) (ty := .int) (C := R_Md) (T := T_Md) (N := 44) hx hb hts in_Md t_Md t_Md_ok n_Md hown hK hP hD hS 6 kw_6 rfl 18 (by decide) (hts _ q_731) (fun _ h9 => h9) rfl (by decide +kernel) rfl rfl (Nat.le_of_ble_eq_true rfl) d_Md_search_17 (fun H locs hP hD hS => ?_)
  replace hP := k_mvP (kw_f6_18.trans (congrArg _ eσ4.symm)) hP
  replace hD := k_mvD (kw_f6_18.trans (congrArg _ eσ4.symm)) hD
  refine lv_aload_n hx hb d_Md_search_20 rfl (lv_at hl 0 rfl) ?_
  refine lv_iconst (v := 0) hx hb d_Md_search_21 (by decide) ?_
  obtain ⟨σ5, eσ5, h⟩ := k_set_e h
  refine va_put (ci := 1) (v := .int 0) (ty := .boolean) (C := R_Md) (T := T_Md) (N := 44) hx hb hts in_Md t_Md t_Md_ok n_Md hown hK hP hD hS 6 kw_6 rfl 28 (by decide) (hts _ q_741) (fun _ h9 => h9) rfl (by decide +kernel) rfl rfl (Nat.le_of_ble_eq_true rfl) d_Md_search_22 (fun H locs hP hD hS => ?_)
  replace hP := k_mvP (kw_f6_28.trans (congrArg _ eσ5.symm)) hP
  replace hD := k_mvD (kw_f6_28.trans (congrArg _ eσ5.symm)) hD
  refine lv_aload_n hx hb d_Md_search_25 rfl (lv_at hl 0 rfl) ?_
  refine lv_iconst (v := 0) hx hb d_Md_search_26 (by decide) ?_
  obtain ⟨σ6, eσ6, h⟩ := k_set_e h
  refine va_put (ci := 1) (v := .int 0) (ty := .int) (C := R_Md) (T := T_Md) (N := 44) hx hb hts in_Md t_Md t_Md_ok n_Md hown hK hP hD hS 6 kw_6 rfl 23 (by decide) (hts _ q_736) (fun _ h9 => h9) rfl (by decide +kernel) rfl rfl (Nat.le_of_ble_eq_true rfl) d_Md_search_27 (fun H locs hP hD hS => ?_)
  replace hP := k_mvP (kw_f6_23.trans (congrArg _ eσ6.symm)) hP
  replace hD := k_mvD (kw_f6_23.trans (congrArg _ eσ6.symm)) hD
  refine lv_aload_n hx hb d_Md_search_30 rfl (lv_at hl 0 rfl) ?_
  refine lv_iconst (v := 0) hx hb d_Md_search_31 (by decide) ?_
  obtain ⟨σ7, eσ7, h⟩ := k_set_e h
  refine va_put (ci := 1) (v := .int 0) (ty := .int) (C := R_Md) (T := T_Md) (N := 44) hx hb hts in_Md t_Md t_Md_ok n_Md hown hK hP hD hS 6 kw_6 rfl 29 (by decide) (hts _ q_742) (fun _ h9 => h9) rfl (by decide +kernel) rfl rfl (Nat.le_of_ble_eq_true rfl) d_Md_search_32 (fun H locs hP hD hS => ?_)
  replace hP := k_mvP (kw_f6_29.trans (congrArg _ eσ7.symm)) hP
  replace hD := k_mvD (kw_f6_29.trans (congrArg _ eσ7.symm)) hD
  refine lv_aload_n hx hb d_Md_search_35 rfl (lv_at hl 0 rfl) ?_
  refine lv_iconst (v := 0) hx hb d_Md_search_36 (by decide) ?_
  obtain ⟨σ8, eσ8, h⟩ := k_set_e h
  refine va_put (ci := 1) (v := .int 0) (ty := .int) (C := R_Md) (T := T_Md) (N := 44) hx hb hts in_Md t_Md t_Md_ok n_Md hown hK hP hD hS 6 kw_6 rfl 35 (by decide) (hts _ q_748) (fun _ h9 => h9) rfl (by decide +kernel) rfl rfl (Nat.le_of_ble_eq_true rfl) d_Md_search_37 (fun H locs hP hD hS => ?_)
  replace hP := k_mvP (kw_f6_35.trans (congrArg _ eσ8.symm)) hP
  replace hD := k_mvD (kw_f6_35.trans (congrArg _ eσ8.symm)) hD
  refine lv_iconst (v := 0) hx hb d_Md_search_40 (by decide) ?_
  refine lv_istore (lv' := [(4, .int 0), (0, .ref (a 6)), (1, .int x1), (2, .int x2), (3, .int x3)]) hx hb d_Md_search_41 hl (by decide) rfl (fun ls hl => ?_)
  exact B_Md_search_43 C0 k_fu _ _ _ _ _ H locs ls hP hD hS (lv_sub hl [1, 2, 3, 4, 0] rfl) h
theorem K_Md_search (l : Launch) (D : va_G) (a : Nat → Nat) (c9 : Nat → ClassId) (sz : Nat) {σ : kS} {x1 x2 x3 : Int32} {r9 : Int32} {σo : kS} (h : M_Md_search σ x1 x2 x3 = some (r9, σo)) : Met l y_Md_search (Cond.code y_Md_search c_Md_search 5 none :: kG) rm_Md_search (k_Pc D a c9 sz σ [.ref (a 6), .int x1, .int x2, .int x3]) (k_Qv D a c9 σo (k_A a c9 σ sz)) 0 0 (k_A a c9 σ sz) :=
  k_met (Qf := k_Qv D a c9 σo) (by decide) (Nat.le_of_ble_eq_true rfl) (fun p e s m args below meth c A ls C0 hP hD hS hl => B_Md_search_0 C0 σ x1 x2 x3 s.heap [] ls hP hD hS hl h)
def rm_Md_may : Room := { frames := 1, cells := 0, slots := 0, locals := 21 }
def M_Md_may_144 (rec94 : kS → Int32 → Int32 → Int32 → Int32 → Int32 → Int32 → Option (Int32 × kS)) (σ : kS) (x1 x2 x3 x4 x5 x6 x7 : Int32) : Option (Int32 × kS) := k_call (M_Md_severals σ x7) fun v1 σ2 => if v1 = 0 then (k_let (x6 + 1) fun v5 => rec94 σ2 x1 x2 x3 x4 x5 v5) else (k_let (x6 + 1) fun v6 => rec94 σ2 x1 x2 x3 x4 1 v6)
set_option maxHeartbeats 4000000 in
set_option maxRecDepth 100000 in
theorem B_Md_may_144 {p : Program} {l : Launch} {e : Env} {s : State} {m : MethodId} {args : Array Value} {below : List Frame} {meth : Method} {c : Code} {D : va_G} {a : Nat → Nat} {c9 : Nat → ClassId} {A : Nat → Prop} {r9 : Int32} {σo : kS} (C0 : k_Cx D c9 p s m args meth c R_Md c_Md_may 8 (some .boolean) A) {rec94 : kS → Int32 → Int32 → Int32 → Int32 → Int32 → Int32 → Option (Int32 × kS)} (hrec94 : ∀ (σ : kS) (x1 x2 x3 x4 x5 x6 : Int32) (H : Heap) (locs : List Loc) (ls : Array Slot), va_P D kcl (kw a c9 σ) H → va_D A (kw a c9 σ) → va_S A s.heap H locs → lv_has ls 8 [(0, .ref (a 6)), (1, .int x1), (2, .int x2), (3, .int x3), (4, .int x4), (5, .int x5), (6, .int x6)] → rec94 σ x1 x2 x3 x4 x5 x6 = some (r9, σo) → W p l e rm_Md_may s m args below meth c H locs 0 0 (MQ below (k_Qi D a c9 r9 σo A) args s 0 0 A) (F0 m 94 ls [])) (σ : kS) (x1 x2 x3 x4 x5 x6 x7 : Int32) (H : Heap) (locs : List Loc) (ls : Array Slot) (hP : va_P D kcl (kw a c9 σ) H) (hD : va_D A (kw a c9 σ)) (hS : va_S A s.heap H locs) (hl : lv_has ls 8 [(0, .ref (a 6)), (1, .int x1), (2, .int x2), (3, .int x3), (4, .int x4), (5, .int x5), (6, .int x6), (7, .int x7)]) (h : M_Md_may_144 rec94 σ x1 x2 x3 x4 x5 x6 x7 = some (r9, σo)) : W p l e rm_Md_may s m args below meth c H locs 0 0 (MQ below (k_Qi D a c9 r9 σo A) args s 0 0 A) (F0 m 144 ls []) := by
  obtain ⟨hx, hb, hml, hown, hts, hr, hlk, hK, hN, hA⟩ := id C0
  unfold M_Md_may_144 at h
  refine lv_aload_n hx hb d_Md_may_144 rfl (lv_at hl 0 rfl) ?_
  refine lv_iload hx hb d_Md_may_145 (lv_at hl 7 rfl) ?_
  obtain ⟨v1, σ2, hc3, h⟩ := k_call_e h
  refine k_calli (va_runV (As := [.int x7]) (rest := []) ⟨hx, hb, hml, hown, hts⟩ (K_Md_severals l D a c9 H.size hc3) (cwV 1 hts (k_gV q_936 q_938 s_32 q_7 q_939) rfl rfl rfl h_Md_severals ⟨Nat.le_of_ble_eq_true rfl, Nat.le_of_ble_eq_true rfl⟩) (k_preV (ci := 1) (q0 := 6) rfl kw_6 hP hK hN hD) rfl rfl hl.1 rfl (lv_room (Nat.le_of_ble_eq_true rfl)) d_Md_may_147 ⟨Nat.zero_le _, Nat.zero_le _⟩) hD hS hA (fun H locs hP hD hS => ?_)
  refine lv_if_eq (tgt := 156) hx hb d_Md_may_150 (by decide) (fun cn4 => ?_) (fun cn4 => ?_)
  · replace h := (if_pos cn4).symm.trans h
    obtain ⟨v5, ev5, h⟩ := k_let_e h
    refine lv_iinc (v := v5) (lv' := [(6, .int v5), (0, .ref (a 6)), (1, .int x1), (2, .int x2), (3, .int x3), (4, .int x4), (5, .int x5), (7, .int x7)]) hx hb d_Md_may_156 hl (k := 6) rfl (by rw [ev5]; rfl) (by decide) rfl (fun ls hl => ?_)
    refine lv_goto (tgt := 94) hx hb d_Md_may_159 (by decide) ?_
    exact hrec94 _ _ _ _ _ _ _ H locs ls hP hD hS (lv_sub hl [1, 2, 3, 4, 5, 6, 0] rfl) h
  · replace h := (if_neg cn4).symm.trans h
    refine lv_iconst (v := 1) hx hb d_Md_may_153 (by decide) ?_
    refine lv_istore (lv' := [(5, .int 1), (0, .ref (a 6)), (1, .int x1), (2, .int x2), (3, .int x3), (4, .int x4), (6, .int x6), (7, .int x7)]) hx hb d_Md_may_154 hl (by decide) rfl (fun ls hl => ?_)
    obtain ⟨v6, ev6, h⟩ := k_let_e h
    refine lv_iinc (v := v6) (lv' := [(6, .int v6), (5, .int 1), (0, .ref (a 6)), (1, .int x1), (2, .int x2), (3, .int x3), (4, .int x4), (7, .int x7)]) hx hb d_Md_may_156 hl (k := 6) rfl (by rw [ev6]; rfl) (by decide) rfl (fun ls hl => ?_)
    refine lv_goto (tgt := 94) hx hb d_Md_may_159 (by decide) ?_
    exact hrec94 _ _ _ _ _ _ _ H locs ls hP hD hS (lv_sub hl [2, 3, 4, 5, 6, 1, 0] rfl) h
def M_Md_may_141 (rec94 : kS → Int32 → Int32 → Int32 → Int32 → Int32 → Int32 → Option (Int32 × kS)) (σ : kS) (x1 x2 x3 x4 x5 x6 x7 : Int32) : Option (Int32 × kS) := k_let (x4 + 1) fun v1 => M_Md_may_144 rec94 σ x1 x2 x3 v1 x5 x6 x7
set_option maxHeartbeats 4000000 in
set_option maxRecDepth 100000 in
theorem B_Md_may_141 {p : Program} {l : Launch} {e : Env} {s : State} {m : MethodId} {args : Array Value} {below : List Frame} {meth : Method} {c : Code} {D : va_G} {a : Nat → Nat} {c9 : Nat → ClassId} {A : Nat → Prop} {r9 : Int32} {σo : kS} (C0 : k_Cx D c9 p s m args meth c R_Md c_Md_may 8 (some .boolean) A) {rec94 : kS → Int32 → Int32 → Int32 → Int32 → Int32 → Int32 → Option (Int32 × kS)} (hrec94 : ∀ (σ : kS) (x1 x2 x3 x4 x5 x6 : Int32) (H : Heap) (locs : List Loc) (ls : Array Slot), va_P D kcl (kw a c9 σ) H → va_D A (kw a c9 σ) → va_S A s.heap H locs → lv_has ls 8 [(0, .ref (a 6)), (1, .int x1), (2, .int x2), (3, .int x3), (4, .int x4), (5, .int x5), (6, .int x6)] → rec94 σ x1 x2 x3 x4 x5 x6 = some (r9, σo) → W p l e rm_Md_may s m args below meth c H locs 0 0 (MQ below (k_Qi D a c9 r9 σo A) args s 0 0 A) (F0 m 94 ls [])) (σ : kS) (x1 x2 x3 x4 x5 x6 x7 : Int32) (H : Heap) (locs : List Loc) (ls : Array Slot) (hP : va_P D kcl (kw a c9 σ) H) (hD : va_D A (kw a c9 σ)) (hS : va_S A s.heap H locs) (hl : lv_has ls 8 [(0, .ref (a 6)), (1, .int x1), (2, .int x2), (3, .int x3), (4, .int x4), (5, .int x5), (6, .int x6), (7, .int x7)]) (h : M_Md_may_141 rec94 σ x1 x2 x3 x4 x5 x6 x7 = some (r9, σo)) : W p l e rm_Md_may s m args below meth c H locs 0 0 (MQ below (k_Qi D a c9 r9 σo A) args s 0 0 A) (F0 m 141 ls []) := by
  obtain ⟨hx, hb, hml, hown, hts, hr, hlk, hK, hN, hA⟩ := id C0
  unfold M_Md_may_141 at h
  obtain ⟨v1, ev1, h⟩ := k_let_e h
  refine lv_iinc (v := v1) (lv' := [(4, .int v1), (0, .ref (a 6)), (1, .int x1), (2, .int x2), (3, .int x3), (5, .int x5), (6, .int x6), (7, .int x7)]) hx hb d_Md_may_141 hl (k := 4) rfl (by rw [ev1]; rfl) (by decide) rfl (fun ls hl => ?_)
  exact B_Md_may_144 C0 hrec94 _ _ _ _ _ _ _ _ H locs ls hP hD hS (lv_sub hl [1, 2, 3, 4, 0, 5, 6, 7] rfl) h
def M_Md_may_195 (σ : kS) (x1 x2 x3 x4 x5 x6 : Int32) : Option (Int32 × kS) := k_ld (σ.2.1 27) 240 (x3) fun v1 => k_call (M_Md_anyOrder σ v1) fun v2 σ3 => if v2 = 0 then (k_ld (σ3.2.1 29) 240 (x3) fun v6 => if v6 = 0 then (some (1, σ3)) else (k_ld (σ3.2.1 30) 2880 ((12 * x3)) fun v8 => k_ld (σ3.2.1 26) 240 (v8) fun v9 => if v9 = 2 then (some (1, σ3)) else (k_ld (σ3.2.1 30) 2880 ((12 * x2)) fun v11 => k_ld (σ3.2.1 26) 240 (v11) fun v12 => k_ld (σ3.2.1 26) 240 (v8) fun v13 => if v12 = v13 then (k_ld (σ3.2.1 27) 240 (v11) fun v15 => k_ld (σ3.2.1 27) 240 (v8) fun v16 => if v15 = v16 then (some (1, σ3)) else (some (0, σ3))) else (some (0, σ3))))) else (some (1, σ3))
set_option maxHeartbeats 4000000 in
set_option maxRecDepth 100000 in
theorem B_Md_may_195 {p : Program} {l : Launch} {e : Env} {s : State} {m : MethodId} {args : Array Value} {below : List Frame} {meth : Method} {c : Code} {D : va_G} {a : Nat → Nat} {c9 : Nat → ClassId} {A : Nat → Prop} {r9 : Int32} {σo : kS} (C0 : k_Cx D c9 p s m args meth c R_Md c_Md_may 8 (some .boolean) A) (σ : kS) (x1 x2 x3 x4 x5 x6 : Int32) (H : Heap) (locs : List Loc) (ls : Array Slot) (hP : va_P D kcl (kw a c9 σ) H) (hD : va_D A (kw a c9 σ)) (hS : va_S A s.heap H locs) (hl : lv_has ls 8 [(0, .ref (a 6)), (1, .int x1), (2, .int x2), (3, .int x3), (4, .int x4), (5, .int x5), (6, .int x6)]) (h : M_Md_may_195 σ x1 x2 x3 x4 x5 x6 = some (r9, σo)) : W p l e rm_Md_may s m args below meth c H locs 0 0 (MQ below (k_Qi D a c9 r9 σo A) args s 0 0 A) (F0 m 195 ls []) := by
  obtain ⟨hx, hb, hml, hown, hts, hr, hlk, hK, hN, hA⟩ := id C0
  unfold M_Md_may_195 at h
  refine lv_aload_n hx hb d_Md_may_195 rfl (lv_at hl 0 rfl) ?_
  refine va_get (ci := 1) (C := R_Md) (T := T_Md) (N := 44) hx hb hts in_Md hown hK hP 6 kw_6 rfl 3 (by decide) (hts _ q_716) (fun _ h9 => h9) rfl d_Md_may_196 ?_
  refine lv_iload_n hx hb d_Md_may_199 rfl (lv_at hl 3 rfl) ?_
  obtain ⟨v1, ev1, hv1, h⟩ := k_ld_e h
  refine va_iald hx hb hK hP 34 0 kw_34 rfl hv1 d_Md_may_200 (k_top ev1 ?_)
  obtain ⟨v2, σ3, hc4, h⟩ := k_call_e h
  refine k_calli (va_runS (As := [.int v1]) (rest := []) ⟨hx, hb, hml, hown, hts⟩ (K_Md_anyOrder l D a c9 H.size hc4) (va_cwS 1 hts (k_gS q_874 q_875 q_7 q_876) rfl rfl rfl h_Md_anyOrder.2 ⟨Nat.le_of_ble_eq_true rfl, Nat.le_of_ble_eq_true rfl⟩) (k_preS hP hK hN hD) rfl rfl hl.1 rfl (lv_room (Nat.le_of_ble_eq_true rfl)) d_Md_may_201 ⟨Nat.zero_le _, Nat.zero_le _⟩) hD hS hA (fun H locs hP hD hS => ?_)
  refine lv_if_ne (tgt := 216) hx hb d_Md_may_204 (by decide) (fun cn5 => ?_) (fun cn5 => ?_)
  · replace h := (if_neg cn5).symm.trans h
    refine lv_iconst (v := 1) hx hb d_Md_may_216 (by decide) ?_
    cases h
    exact k_zret (Or.inr rfl) hx hb hr hlk hP hS d_Md_may_217
  · replace h := (if_pos cn5).symm.trans h
    refine lv_aload_n hx hb d_Md_may_207 rfl (lv_at hl 0 rfl) ?_
    refine va_get (ci := 1) (C := R_Md) (T := T_Md) (N := 44) hx hb hts in_Md hown hK hP 6 kw_6 rfl 5 (by decide) (hts _ q_718) (fun _ h9 => h9) rfl d_Md_may_208 ?_
    refine lv_iload_n hx hb d_Md_may_211 rfl (lv_at hl 3 rfl) ?_
    obtain ⟨v6, ev6, hv6, h⟩ := k_ld_e h
    refine va_iald hx hb hK hP 36 0 kw_36 rfl hv6 d_Md_may_212 (k_top ev6 ?_)
    refine lv_if_ne (tgt := 218) hx hb d_Md_may_213 (by decide) (fun cn7 => ?_) (fun cn7 => ?_)
    · replace h := (if_neg cn7).symm.trans h
      refine lv_aload_n hx hb d_Md_may_218 rfl (lv_at hl 0 rfl) ?_
      refine va_get (ci := 1) (C := R_Md) (T := T_Md) (N := 44) hx hb hts in_Md hown hK hP 6 kw_6 rfl 6 (by decide) (hts _ q_719) (fun _ h9 => h9) rfl d_Md_may_219 ?_
      refine lv_bipush (v := 12) hx hb d_Md_may_222 (by decide) ?_
      refine lv_iload_n hx hb d_Md_may_224 rfl (lv_at hl 3 rfl) ?_
      refine lv_imul hx hb d_Md_may_225 ?_
      obtain ⟨v8, ev8, hv8, h⟩ := k_ld_e h
      refine va_iald hx hb hK hP 37 0 kw_37 rfl hv8 d_Md_may_226 (k_top ev8 ?_)
      refine lv_istore (lv' := [(6, .int v8), (0, .ref (a 6)), (1, .int x1), (2, .int x2), (3, .int x3), (4, .int x4), (5, .int x5)]) hx hb d_Md_may_227 hl (by decide) rfl (fun ls hl => ?_)
      refine lv_aload_n hx hb d_Md_may_229 rfl (lv_at hl 1 rfl) ?_
      refine va_get (ci := 1) (C := R_Md) (T := T_Md) (N := 44) hx hb hts in_Md hown hK hP 6 kw_6 rfl 2 (by decide) (hts _ q_715) (fun _ h9 => h9) rfl d_Md_may_230 ?_
      refine lv_iload hx hb d_Md_may_233 (lv_at hl 0 rfl) ?_
      obtain ⟨v9, ev9, hv9, h⟩ := k_ld_e h
      refine va_iald hx hb hK hP 33 0 kw_33 rfl hv9 d_Md_may_235 (k_top ev9 ?_)
      refine lv_iconst (v := 2) hx hb d_Md_may_236 (by decide) ?_
      refine lv_icmp_ne (tgt := 242) hx hb d_Md_may_237 (by decide) (fun cn10 => ?_) (fun cn10 => ?_)
      · replace h := (if_neg cn10).symm.trans h
        refine lv_aload_n hx hb d_Md_may_242 rfl (lv_at hl 1 rfl) ?_
        refine va_get (ci := 1) (C := R_Md) (T := T_Md) (N := 44) hx hb hts in_Md hown hK hP 6 kw_6 rfl 6 (by decide) (hts _ q_719) (fun _ h9 => h9) rfl d_Md_may_243 ?_
        refine lv_bipush (v := 12) hx hb d_Md_may_246 (by decide) ?_
        refine lv_iload_n hx hb d_Md_may_248 rfl (lv_at hl 3 rfl) ?_
        refine lv_imul hx hb d_Md_may_249 ?_
        obtain ⟨v11, ev11, hv11, h⟩ := k_ld_e h
        refine va_iald hx hb hK hP 37 0 kw_37 rfl hv11 d_Md_may_250 (k_top ev11 ?_)
        refine lv_istore (lv' := [(7, .int v11), (6, .int v8), (0, .ref (a 6)), (1, .int x1), (2, .int x2), (3, .int x3), (4, .int x4), (5, .int x5)]) hx hb d_Md_may_251 hl (by decide) rfl (fun ls hl => ?_)
        refine lv_aload_n hx hb d_Md_may_253 rfl (lv_at hl 2 rfl) ?_
        refine va_get (ci := 1) (C := R_Md) (T := T_Md) (N := 44) hx hb hts in_Md hown hK hP 6 kw_6 rfl 2 (by decide) (hts _ q_715) (fun _ h9 => h9) rfl d_Md_may_254 ?_
        refine lv_iload hx hb d_Md_may_257 (lv_at hl 0 rfl) ?_
        obtain ⟨v12, ev12, hv12, h⟩ := k_ld_e h
        refine va_iald hx hb hK hP 33 0 kw_33 rfl hv12 d_Md_may_259 (k_top ev12 ?_)
        refine lv_aload_n hx hb d_Md_may_260 rfl (lv_at hl 2 rfl) ?_
        refine va_get (ci := 1) (C := R_Md) (T := T_Md) (N := 44) hx hb hts in_Md hown hK hP 6 kw_6 rfl 2 (by decide) (hts _ q_715) (fun _ h9 => h9) rfl d_Md_may_261 ?_
        refine lv_iload hx hb d_Md_may_264 (lv_at hl 1 rfl) ?_
        obtain ⟨v13, ev13, hv13, h⟩ := k_ld_e h
        refine va_iald hx hb hK hP 33 0 kw_33 rfl hv13 d_Md_may_266 (k_top ev13 ?_)
        refine lv_icmp_ne (tgt := 291) hx hb d_Md_may_267 (by decide) (fun cn14 => ?_) (fun cn14 => ?_)
        · replace h := (if_neg cn14).symm.trans h
          refine lv_iconst (v := 0) hx hb d_Md_may_291 (by decide) ?_
          cases h
          exact k_zret (Or.inl rfl) hx hb hr hlk hP hS d_Md_may_292
        · replace h := (if_pos cn14).symm.trans h
          refine lv_aload_n hx hb d_Md_may_270 rfl (lv_at hl 2 rfl) ?_
          refine va_get (ci := 1) (C := R_Md) (T := T_Md) (N := 44) hx hb hts in_Md hown hK hP 6 kw_6 rfl 3 (by decide) (hts _ q_716) (fun _ h9 => h9) rfl d_Md_may_271 ?_
          refine lv_iload hx hb d_Md_may_274 (lv_at hl 0 rfl) ?_
          obtain ⟨v15, ev15, hv15, h⟩ := k_ld_e h
          refine va_iald hx hb hK hP 34 0 kw_34 rfl hv15 d_Md_may_276 (k_top ev15 ?_)
          refine lv_aload_n hx hb d_Md_may_277 rfl (lv_at hl 2 rfl) ?_
          refine va_get (ci := 1) (C := R_Md) (T := T_Md) (N := 44) hx hb hts in_Md hown hK hP 6 kw_6 rfl 3 (by decide) (hts _ q_716) (fun _ h9 => h9) rfl d_Md_may_278 ?_
          refine lv_iload hx hb d_Md_may_281 (lv_at hl 1 rfl) ?_
          obtain ⟨v16, ev16, hv16, h⟩ := k_ld_e h
          refine va_iald hx hb hK hP 34 0 kw_34 rfl hv16 d_Md_may_283 (k_top ev16 ?_)
          refine lv_icmp_ne (tgt := 291) hx hb d_Md_may_284 (by decide) (fun cn17 => ?_) (fun cn17 => ?_)
          · replace h := (if_neg cn17).symm.trans h
            refine lv_iconst (v := 0) hx hb d_Md_may_291 (by decide) ?_
            cases h
            exact k_zret (Or.inl rfl) hx hb hr hlk hP hS d_Md_may_292
          · replace h := (if_pos cn17).symm.trans h
            refine lv_iconst (v := 1) hx hb d_Md_may_287 (by decide) ?_
            refine lv_goto (tgt := 292) hx hb d_Md_may_288 (by decide) ?_
            cases h
            exact k_zret (Or.inr rfl) hx hb hr hlk hP hS d_Md_may_292
      · replace h := (if_pos cn10).symm.trans h
        refine lv_iconst (v := 1) hx hb d_Md_may_240 (by decide) ?_
        cases h
        exact k_zret (Or.inr rfl) hx hb hr hlk hP hS d_Md_may_241
    · replace h := (if_pos cn7).symm.trans h
      refine lv_iconst (v := 1) hx hb d_Md_may_216 (by decide) ?_
      cases h
      exact k_zret (Or.inr rfl) hx hb hr hlk hP hS d_Md_may_217
def M_Md_may_94_b (self9 : kS → Int32 → Int32 → Int32 → Int32 → Int32 → Int32 → Option (Int32 × kS)) (σ : kS) (x1 x2 x3 x4 x5 x6 : Int32) : Option (Int32 × kS) := k_ld (σ.2.1 29) 240 (x3) fun v1 => if v1 ≤ x6 then (k_ld (σ.2.1 29) 240 (x2) fun v3 => if v3 < x4 then (some (0, σ)) else (if x5 = 0 then (k_ld (σ.2.1 29) 240 (x2) fun v6 => k_ld (σ.2.1 29) 240 (x3) fun v7 => if v6 ≤ v7 then (M_Md_may_195 σ x1 x2 x3 x4 x5 x6) else (some (0, σ))) else (M_Md_may_195 σ x1 x2 x3 x4 x5 x6))) else (k_ld (σ.2.1 30) 2880 (((12 * x3) + x6)) fun v9 => k_ld (σ.2.1 26) 240 (v9) fun v10 => if v10 = 2 then (k_ld (σ.2.1 28) 240 (v9) fun v12 => if v12 = 3 then (M_Md_may_144 self9 σ x1 x2 x3 x4 x5 x6 v9) else (M_Md_may_141 self9 σ x1 x2 x3 x4 x5 x6 v9)) else (M_Md_may_141 self9 σ x1 x2 x3 x4 x5 x6 v9))
def M_Md_may_94 : Nat → kS → Int32 → Int32 → Int32 → Int32 → Int32 → Int32 → Option (Int32 × kS)
  | 0 => fun _ _ _ _ _ _ _ => none
  | n + 1 => M_Md_may_94_b (M_Md_may_94 n)
set_option maxHeartbeats 4000000 in
set_option maxRecDepth 100000 in
theorem B_Md_may_94 {p : Program} {l : Launch} {e : Env} {s : State} {m : MethodId} {args : Array Value} {below : List Frame} {meth : Method} {c : Code} {D : va_G} {a : Nat → Nat} {c9 : Nat → ClassId} {A : Nat → Prop} {r9 : Int32} {σo : kS} (C0 : k_Cx D c9 p s m args meth c R_Md c_Md_may 8 (some .boolean) A) : ∀ (n : Nat) (σ : kS) (x1 x2 x3 x4 x5 x6 : Int32) (H : Heap) (locs : List Loc) (ls : Array Slot), va_P D kcl (kw a c9 σ) H → va_D A (kw a c9 σ) → va_S A s.heap H locs → lv_has ls 8 [(0, .ref (a 6)), (1, .int x1), (2, .int x2), (3, .int x3), (4, .int x4), (5, .int x5), (6, .int x6)] → M_Md_may_94 n σ x1 x2 x3 x4 x5 x6 = some (r9, σo) → W p l e rm_Md_may s m args below meth c H locs 0 0 (MQ below (k_Qi D a c9 r9 σo A) args s 0 0 A) (F0 m 94 ls []) := by
  obtain ⟨hx, hb, hml, hown, hts, hr, hlk, hK, hN, hA⟩ := id C0
  intro n
  induction n with
  | zero =>
    intro σ x1 x2 x3 x4 x5 x6 H locs ls hP hD hS hl h
    replace h : (none : Option (Int32 × kS)) = some (r9, σo) := h
    cases h
  | succ n ih =>
    intro σ x1 x2 x3 x4 x5 x6 H locs ls hP hD hS hl h
    replace h : M_Md_may_94_b (M_Md_may_94 n) σ x1 x2 x3 x4 x5 x6 = some (r9, σo) := h
    unfold M_Md_may_94_b at h
    refine lv_iload hx hb d_Md_may_94 (lv_at hl 6 rfl) ?_
    refine lv_aload_n hx hb d_Md_may_96 rfl (lv_at hl 0 rfl) ?_
    refine va_get (ci := 1) (C := R_Md) (T := T_Md) (N := 44) hx hb hts in_Md hown hK hP 6 kw_6 rfl 5 (by decide) (hts _ q_718) (fun _ h9 => h9) rfl d_Md_may_97 ?_
    refine lv_iload_n hx hb d_Md_may_100 rfl (lv_at hl 3 rfl) ?_
    obtain ⟨v1, ev1, hv1, h⟩ := k_ld_e h
    refine va_iald hx hb hK hP 36 0 kw_36 rfl hv1 d_Md_may_101 (k_top ev1 ?_)
    refine lv_icmp_ge (tgt := 162) hx hb d_Md_may_102 (by decide) (fun cn2 => ?_) (fun cn2 => ?_)
    · replace h := (if_pos cn2).symm.trans h
      refine lv_aload_n hx hb d_Md_may_162 rfl (lv_at hl 0 rfl) ?_
      refine va_get (ci := 1) (C := R_Md) (T := T_Md) (N := 44) hx hb hts in_Md hown hK hP 6 kw_6 rfl 5 (by decide) (hts _ q_718) (fun _ h9 => h9) rfl d_Md_may_163 ?_
      refine lv_iload_n hx hb d_Md_may_166 rfl (lv_at hl 2 rfl) ?_
      obtain ⟨v3, ev3, hv3, h⟩ := k_ld_e h
      refine va_iald hx hb hK hP 36 0 kw_36 rfl hv3 d_Md_may_167 (k_top ev3 ?_)
      refine lv_iload hx hb d_Md_may_168 (lv_at hl 4 rfl) ?_
      refine lv_icmp_lt (tgt := 193) hx hb d_Md_may_170 (by decide) (fun cn4 => ?_) (fun cn4 => ?_)
      · replace h := (if_pos cn4).symm.trans h
        refine lv_iconst (v := 0) hx hb d_Md_may_193 (by decide) ?_
        cases h
        exact k_zret (Or.inl rfl) hx hb hr hlk hP hS d_Md_may_194
      · replace h := (if_neg cn4).symm.trans h
        refine lv_iload hx hb d_Md_may_173 (lv_at hl 5 rfl) ?_
        refine lv_if_ne (tgt := 195) hx hb d_Md_may_175 (by decide) (fun cn5 => ?_) (fun cn5 => ?_)
        · replace h := (if_neg cn5).symm.trans h
          exact B_Md_may_195 C0 _ _ _ _ _ _ _ H locs ls hP hD hS (lv_sub hl [0, 1, 2, 3, 4, 5, 6] rfl) h
        · replace h := (if_pos cn5).symm.trans h
          refine lv_aload_n hx hb d_Md_may_178 rfl (lv_at hl 0 rfl) ?_
          refine va_get (ci := 1) (C := R_Md) (T := T_Md) (N := 44) hx hb hts in_Md hown hK hP 6 kw_6 rfl 5 (by decide) (hts _ q_718) (fun _ h9 => h9) rfl d_Md_may_179 ?_
          refine lv_iload_n hx hb d_Md_may_182 rfl (lv_at hl 2 rfl) ?_
          obtain ⟨v6, ev6, hv6, h⟩ := k_ld_e h
          refine va_iald hx hb hK hP 36 0 kw_36 rfl hv6 d_Md_may_183 (k_top ev6 ?_)
          refine lv_aload_n hx hb d_Md_may_184 rfl (lv_at hl 0 rfl) ?_
          refine va_get (ci := 1) (C := R_Md) (T := T_Md) (N := 44) hx hb hts in_Md hown hK hP 6 kw_6 rfl 5 (by decide) (hts _ q_718) (fun _ h9 => h9) rfl d_Md_may_185 ?_
          refine lv_iload_n hx hb d_Md_may_188 rfl (lv_at hl 3 rfl) ?_
          obtain ⟨v7, ev7, hv7, h⟩ := k_ld_e h
          refine va_iald hx hb hK hP 36 0 kw_36 rfl hv7 d_Md_may_189 (k_top ev7 ?_)
          refine lv_icmp_le (tgt := 195) hx hb d_Md_may_190 (by decide) (fun cn8 => ?_) (fun cn8 => ?_)
          · replace h := (if_pos cn8).symm.trans h
            exact B_Md_may_195 C0 _ _ _ _ _ _ _ H locs ls hP hD hS (lv_sub hl [0, 1, 2, 3, 4, 5, 6] rfl) h
          · replace h := (if_neg cn8).symm.trans h
            refine lv_iconst (v := 0) hx hb d_Md_may_193 (by decide) ?_
            cases h
            exact k_zret (Or.inl rfl) hx hb hr hlk hP hS d_Md_may_194
    · replace h := (if_neg cn2).symm.trans h
      refine lv_aload_n hx hb d_Md_may_105 rfl (lv_at hl 0 rfl) ?_
      refine va_get (ci := 1) (C := R_Md) (T := T_Md) (N := 44) hx hb hts in_Md hown hK hP 6 kw_6 rfl 6 (by decide) (hts _ q_719) (fun _ h9 => h9) rfl d_Md_may_106 ?_
      refine lv_bipush (v := 12) hx hb d_Md_may_109 (by decide) ?_
      refine lv_iload_n hx hb d_Md_may_111 rfl (lv_at hl 3 rfl) ?_
      refine lv_imul hx hb d_Md_may_112 ?_
      refine lv_iload hx hb d_Md_may_113 (lv_at hl 6 rfl) ?_
      refine lv_iadd hx hb d_Md_may_115 ?_
      obtain ⟨v9, ev9, hv9, h⟩ := k_ld_e h
      refine va_iald hx hb hK hP 37 0 kw_37 rfl hv9 d_Md_may_116 (k_top ev9 ?_)
      refine lv_istore (lv' := [(7, .int v9), (0, .ref (a 6)), (1, .int x1), (2, .int x2), (3, .int x3), (4, .int x4), (5, .int x5), (6, .int x6)]) hx hb d_Md_may_117 hl (by decide) rfl (fun ls hl => ?_)
      refine lv_aload_n hx hb d_Md_may_119 rfl (lv_at hl 1 rfl) ?_
      refine va_get (ci := 1) (C := R_Md) (T := T_Md) (N := 44) hx hb hts in_Md hown hK hP 6 kw_6 rfl 2 (by decide) (hts _ q_715) (fun _ h9 => h9) rfl d_Md_may_120 ?_
      refine lv_iload hx hb d_Md_may_123 (lv_at hl 0 rfl) ?_
      obtain ⟨v10, ev10, hv10, h⟩ := k_ld_e h
      refine va_iald hx hb hK hP 33 0 kw_33 rfl hv10 d_Md_may_125 (k_top ev10 ?_)
      refine lv_iconst (v := 2) hx hb d_Md_may_126 (by decide) ?_
      refine lv_icmp_ne (tgt := 141) hx hb d_Md_may_127 (by decide) (fun cn11 => ?_) (fun cn11 => ?_)
      · replace h := (if_neg cn11).symm.trans h
        exact B_Md_may_141 C0 ih _ _ _ _ _ _ _ _ H locs ls hP hD hS (lv_sub hl [1, 2, 3, 4, 5, 6, 7, 0] rfl) h
      · replace h := (if_pos cn11).symm.trans h
        refine lv_aload_n hx hb d_Md_may_130 rfl (lv_at hl 1 rfl) ?_
        refine va_get (ci := 1) (C := R_Md) (T := T_Md) (N := 44) hx hb hts in_Md hown hK hP 6 kw_6 rfl 4 (by decide) (hts _ q_717) (fun _ h9 => h9) rfl d_Md_may_131 ?_
        refine lv_iload hx hb d_Md_may_134 (lv_at hl 0 rfl) ?_
        obtain ⟨v12, ev12, hv12, h⟩ := k_ld_e h
        refine va_iald hx hb hK hP 35 0 kw_35 rfl hv12 d_Md_may_136 (k_top ev12 ?_)
        refine lv_iconst (v := 3) hx hb d_Md_may_137 (by decide) ?_
        refine lv_icmp_eq (tgt := 144) hx hb d_Md_may_138 (by decide) (fun cn13 => ?_) (fun cn13 => ?_)
        · replace h := (if_pos cn13).symm.trans h
          exact B_Md_may_144 C0 ih _ _ _ _ _ _ _ _ H locs ls hP hD hS (lv_sub hl [1, 2, 3, 4, 5, 6, 7, 0] rfl) h
        · replace h := (if_neg cn13).symm.trans h
          exact B_Md_may_141 C0 ih _ _ _ _ _ _ _ _ H locs ls hP hD hS (lv_sub hl [1, 2, 3, 4, 5, 6, 7, 0] rfl) h
def M_Md_may (σ : kS) (x1 x2 : Int32) : Option (Int32 × kS) := k_ld (σ.2.1 38) 30 (x1) fun v1 => k_ld (σ.2.1 26) 240 (v1) fun v2 => if v2 = 2 then (k_ld (σ.2.1 28) 240 (v1) fun v12 => if v12 = 1 then (k_ld (σ.2.1 26) 240 (x2) fun v14 => if v14 = 0 then (some (1, σ)) else (some (0, σ))) else (some (1, σ))) else (k_ld (σ.2.1 26) 240 (v1) fun v4 => k_ld (σ.2.1 26) 240 (x2) fun v5 => if v4 = v5 then (k_ld (σ.2.1 27) 240 (v1) fun v7 => k_ld (σ.2.1 27) 240 (x2) fun v8 => if v7 = v8 then (k_ld (σ.2.1 26) 240 (v1) fun v10 => if v10 = 0 then (some (1, σ)) else (M_Md_may_94 k_fu σ x1 x2 v1 0 0 0)) else (some (0, σ))) else (some (0, σ)))
set_option maxHeartbeats 4000000 in
set_option maxRecDepth 100000 in
theorem B_Md_may_0 {p : Program} {l : Launch} {e : Env} {s : State} {m : MethodId} {args : Array Value} {below : List Frame} {meth : Method} {c : Code} {D : va_G} {a : Nat → Nat} {c9 : Nat → ClassId} {A : Nat → Prop} {r9 : Int32} {σo : kS} (C0 : k_Cx D c9 p s m args meth c R_Md c_Md_may 8 (some .boolean) A) (σ : kS) (x1 x2 : Int32) (H : Heap) (locs : List Loc) (ls : Array Slot) (hP : va_P D kcl (kw a c9 σ) H) (hD : va_D A (kw a c9 σ)) (hS : va_S A s.heap H locs) (hl : lv_has ls 8 [(0, .ref (a 6)), (1, .int x1), (2, .int x2)]) (h : M_Md_may σ x1 x2 = some (r9, σo)) : W p l e rm_Md_may s m args below meth c H locs 0 0 (MQ below (k_Qi D a c9 r9 σo A) args s 0 0 A) (F0 m 0 ls []) := by
  obtain ⟨hx, hb, hml, hown, hts, hr, hlk, hK, hN, hA⟩ := id C0
  unfold M_Md_may at h
  refine lv_aload_n hx hb d_Md_may_0 rfl (lv_at hl 0 rfl) ?_
  refine va_get (ci := 1) (C := R_Md) (T := T_Md) (N := 44) hx hb hts in_Md hown hK hP 6 kw_6 rfl 15 (by decide) (hts _ q_728) (fun _ h9 => h9) rfl d_Md_may_1 ?_
  refine lv_iload_n hx hb d_Md_may_4 rfl (lv_at hl 1 rfl) ?_
  obtain ⟨v1, ev1, hv1, h⟩ := k_ld_e h
  refine va_iald hx hb hK hP 45 0 kw_45 rfl hv1 d_Md_may_5 (k_top ev1 ?_)
  refine lv_istore_n (lv' := [(3, .int v1), (0, .ref (a 6)), (1, .int x1), (2, .int x2)]) hx hb d_Md_may_6 rfl hl (by decide) rfl (fun ls hl => ?_)
  refine lv_aload_n hx hb d_Md_may_7 rfl (lv_at hl 1 rfl) ?_
  refine va_get (ci := 1) (C := R_Md) (T := T_Md) (N := 44) hx hb hts in_Md hown hK hP 6 kw_6 rfl 2 (by decide) (hts _ q_715) (fun _ h9 => h9) rfl d_Md_may_8 ?_
  refine lv_iload_n hx hb d_Md_may_11 rfl (lv_at hl 0 rfl) ?_
  obtain ⟨v2, ev2, hv2, h⟩ := k_ld_e h
  refine va_iald hx hb hK hP 33 0 kw_33 rfl hv2 d_Md_may_12 (k_top ev2 ?_)
  refine lv_iconst (v := 2) hx hb d_Md_may_13 (by decide) ?_
  refine lv_icmp_ne (tgt := 42) hx hb d_Md_may_14 (by decide) (fun cn3 => ?_) (fun cn3 => ?_)
  · replace h := (if_neg cn3).symm.trans h
    refine lv_aload_n hx hb d_Md_may_42 rfl (lv_at hl 1 rfl) ?_
    refine va_get (ci := 1) (C := R_Md) (T := T_Md) (N := 44) hx hb hts in_Md hown hK hP 6 kw_6 rfl 2 (by decide) (hts _ q_715) (fun _ h9 => h9) rfl d_Md_may_43 ?_
    refine lv_iload_n hx hb d_Md_may_46 rfl (lv_at hl 0 rfl) ?_
    obtain ⟨v4, ev4, hv4, h⟩ := k_ld_e h
    refine va_iald hx hb hK hP 33 0 kw_33 rfl hv4 d_Md_may_47 (k_top ev4 ?_)
    refine lv_aload_n hx hb d_Md_may_48 rfl (lv_at hl 1 rfl) ?_
    refine va_get (ci := 1) (C := R_Md) (T := T_Md) (N := 44) hx hb hts in_Md hown hK hP 6 kw_6 rfl 2 (by decide) (hts _ q_715) (fun _ h9 => h9) rfl d_Md_may_49 ?_
    refine lv_iload_n hx hb d_Md_may_52 rfl (lv_at hl 3 rfl) ?_
    obtain ⟨v5, ev5, hv5, h⟩ := k_ld_e h
    refine va_iald hx hb hK hP 33 0 kw_33 rfl hv5 d_Md_may_53 (k_top ev5 ?_)
    refine lv_icmp_ne (tgt := 72) hx hb d_Md_may_54 (by decide) (fun cn6 => ?_) (fun cn6 => ?_)
    · replace h := (if_neg cn6).symm.trans h
      refine lv_iconst (v := 0) hx hb d_Md_may_72 (by decide) ?_
      cases h
      exact k_zret (Or.inl rfl) hx hb hr hlk hP hS d_Md_may_73
    · replace h := (if_pos cn6).symm.trans h
      refine lv_aload_n hx hb d_Md_may_57 rfl (lv_at hl 1 rfl) ?_
      refine va_get (ci := 1) (C := R_Md) (T := T_Md) (N := 44) hx hb hts in_Md hown hK hP 6 kw_6 rfl 3 (by decide) (hts _ q_716) (fun _ h9 => h9) rfl d_Md_may_58 ?_
      refine lv_iload_n hx hb d_Md_may_61 rfl (lv_at hl 0 rfl) ?_
      obtain ⟨v7, ev7, hv7, h⟩ := k_ld_e h
      refine va_iald hx hb hK hP 34 0 kw_34 rfl hv7 d_Md_may_62 (k_top ev7 ?_)
      refine lv_aload_n hx hb d_Md_may_63 rfl (lv_at hl 1 rfl) ?_
      refine va_get (ci := 1) (C := R_Md) (T := T_Md) (N := 44) hx hb hts in_Md hown hK hP 6 kw_6 rfl 3 (by decide) (hts _ q_716) (fun _ h9 => h9) rfl d_Md_may_64 ?_
      refine lv_iload_n hx hb d_Md_may_67 rfl (lv_at hl 3 rfl) ?_
      obtain ⟨v8, ev8, hv8, h⟩ := k_ld_e h
      refine va_iald hx hb hK hP 34 0 kw_34 rfl hv8 d_Md_may_68 (k_top ev8 ?_)
      refine lv_icmp_eq (tgt := 74) hx hb d_Md_may_69 (by decide) (fun cn9 => ?_) (fun cn9 => ?_)
      · replace h := (if_pos cn9).symm.trans h
        refine lv_aload_n hx hb d_Md_may_74 rfl (lv_at hl 1 rfl) ?_
        refine va_get (ci := 1) (C := R_Md) (T := T_Md) (N := 44) hx hb hts in_Md hown hK hP 6 kw_6 rfl 2 (by decide) (hts _ q_715) (fun _ h9 => h9) rfl d_Md_may_75 ?_
        refine lv_iload_n hx hb d_Md_may_78 rfl (lv_at hl 0 rfl) ?_
        obtain ⟨v10, ev10, hv10, h⟩ := k_ld_e h
        refine va_iald hx hb hK hP 33 0 kw_33 rfl hv10 d_Md_may_79 (k_top ev10 ?_)
        refine lv_if_ne (tgt := 85) hx hb d_Md_may_80 (by decide) (fun cn11 => ?_) (fun cn11 => ?_)
        · replace h := (if_neg cn11).symm.trans h
          refine lv_iconst (v := 0) hx hb d_Md_may_85 (by decide) ?_
          refine lv_istore (lv' := [(4, .int 0), (3, .int v1), (0, .ref (a 6)), (1, .int x1), (2, .int x2)]) hx hb d_Md_may_86 hl (by decide) rfl (fun ls hl => ?_)
          refine lv_iconst (v := 0) hx hb d_Md_may_88 (by decide) ?_
          refine lv_istore (lv' := [(5, .int 0), (4, .int 0), (3, .int v1), (0, .ref (a 6)), (1, .int x1), (2, .int x2)]) hx hb d_Md_may_89 hl (by decide) rfl (fun ls hl => ?_)
          refine lv_iconst (v := 0) hx hb d_Md_may_91 (by decide) ?_
          refine lv_istore (lv' := [(6, .int 0), (5, .int 0), (4, .int 0), (3, .int v1), (0, .ref (a 6)), (1, .int x1), (2, .int x2)]) hx hb d_Md_may_92 hl (by decide) rfl (fun ls hl => ?_)
          exact B_Md_may_94 C0 k_fu _ _ _ _ _ _ _ H locs ls hP hD hS (lv_sub hl [4, 5, 6, 3, 2, 1, 0] rfl) h
        · replace h := (if_pos cn11).symm.trans h
          refine lv_iconst (v := 1) hx hb d_Md_may_83 (by decide) ?_
          cases h
          exact k_zret (Or.inr rfl) hx hb hr hlk hP hS d_Md_may_84
      · replace h := (if_neg cn9).symm.trans h
        refine lv_iconst (v := 0) hx hb d_Md_may_72 (by decide) ?_
        cases h
        exact k_zret (Or.inl rfl) hx hb hr hlk hP hS d_Md_may_73
  · replace h := (if_pos cn3).symm.trans h
    refine lv_aload_n hx hb d_Md_may_17 rfl (lv_at hl 1 rfl) ?_
    refine va_get (ci := 1) (C := R_Md) (T := T_Md) (N := 44) hx hb hts in_Md hown hK hP 6 kw_6 rfl 4 (by decide) (hts _ q_717) (fun _ h9 => h9) rfl d_Md_may_18 ?_
    refine lv_iload_n hx hb d_Md_may_21 rfl (lv_at hl 0 rfl) ?_
    obtain ⟨v12, ev12, hv12, h⟩ := k_ld_e h
    refine va_iald hx hb hK hP 35 0 kw_35 rfl hv12 d_Md_may_22 (k_top ev12 ?_)
    refine lv_iconst (v := 1) hx hb d_Md_may_23 (by decide) ?_
    refine lv_icmp_ne (tgt := 36) hx hb d_Md_may_24 (by decide) (fun cn13 => ?_) (fun cn13 => ?_)
    · replace h := (if_neg cn13).symm.trans h
      refine lv_iconst (v := 1) hx hb d_Md_may_36 (by decide) ?_
      refine lv_goto (tgt := 41) hx hb d_Md_may_37 (by decide) ?_
      cases h
      exact k_zret (Or.inr rfl) hx hb hr hlk hP hS d_Md_may_41
    · replace h := (if_pos cn13).symm.trans h
      refine lv_aload_n hx hb d_Md_may_27 rfl (lv_at hl 1 rfl) ?_
      refine va_get (ci := 1) (C := R_Md) (T := T_Md) (N := 44) hx hb hts in_Md hown hK hP 6 kw_6 rfl 2 (by decide) (hts _ q_715) (fun _ h9 => h9) rfl d_Md_may_28 ?_
      refine lv_iload_n hx hb d_Md_may_31 rfl (lv_at hl 3 rfl) ?_
      obtain ⟨v14, ev14, hv14, h⟩ := k_ld_e h
      refine va_iald hx hb hK hP 33 0 kw_33 rfl hv14 d_Md_may_32 (k_top ev14 ?_)
      refine lv_if_ne (tgt := 40) hx hb d_Md_may_33 (by decide) (fun cn15 => ?_) (fun cn15 => ?_)
      · replace h := (if_neg cn15).symm.trans h
        refine lv_iconst (v := 0) hx hb d_Md_may_40 (by decide) ?_
        cases h
        exact k_zret (Or.inl rfl) hx hb hr hlk hP hS d_Md_may_41
      · replace h := (if_pos cn15).symm.trans h
        refine lv_iconst (v := 1) hx hb d_Md_may_36 (by decide) ?_
        refine lv_goto (tgt := 41) hx hb d_Md_may_37 (by decide) ?_
        cases h
        exact k_zret (Or.inr rfl) hx hb hr hlk hP hS d_Md_may_41
theorem K_Md_may (l : Launch) (D : va_G) (a : Nat → Nat) (c9 : Nat → ClassId) (sz : Nat) {σ : kS} {x1 x2 : Int32} {r9 : Int32} {σo : kS} (h : M_Md_may σ x1 x2 = some (r9, σo)) : Met l y_Md_may (Cond.code y_Md_may c_Md_may 8 (some .boolean) :: kG) rm_Md_may (k_Pc D a c9 sz σ [.ref (a 6), .int x1, .int x2]) (k_Qi D a c9 r9 σo (k_A a c9 σ sz)) 0 0 (k_A a c9 σ sz) :=
  k_met (Qf := k_Qi D a c9 r9 σo) (by decide) (Nat.le_of_ble_eq_true rfl) (fun p e s m args below meth c A ls C0 hP hD hS hl => B_Md_may_0 C0 σ x1 x2 s.heap [] ls hP hD hS hl h)
def rm_Md_thrown : Room := { frames := 0, cells := 0, slots := 0, locals := 0 }
def M_Md_thrown (σ : kS) : Option (Int32 × kS) := some (σ.1 10, σ)
set_option maxHeartbeats 4000000 in
set_option maxRecDepth 100000 in
theorem B_Md_thrown_0 {p : Program} {l : Launch} {e : Env} {s : State} {m : MethodId} {args : Array Value} {below : List Frame} {meth : Method} {c : Code} {D : va_G} {a : Nat → Nat} {c9 : Nat → ClassId} {A : Nat → Prop} {r9 : Int32} {σo : kS} (C0 : k_Cx D c9 p s m args meth c R_Md c_Md_thrown 1 (some .int) A) (σ : kS) (H : Heap) (locs : List Loc) (ls : Array Slot) (hP : va_P D kcl (kw a c9 σ) H) (hD : va_D A (kw a c9 σ)) (hS : va_S A s.heap H locs) (hl : lv_has ls 1 [(0, .ref (a 6))]) (h : M_Md_thrown σ  = some (r9, σo)) : W p l e rm_Md_thrown s m args below meth c H locs 0 0 (MQ below (k_Qi D a c9 r9 σo A) args s 0 0 A) (F0 m 0 ls []) := by
  obtain ⟨hx, hb, hml, hown, hts, hr, hlk, hK, hN, hA⟩ := id C0
  unfold M_Md_thrown at h
  refine lv_aload_n hx hb d_Md_thrown_0 rfl (lv_at hl 0 rfl) ?_
  refine va_get (ci := 1) (C := R_Md) (T := T_Md) (N := 44) hx hb hts in_Md hown hK hP 6 kw_6 rfl 0 (by decide) (hts _ q_713) (fun _ h9 => h9) rfl d_Md_thrown_1 ?_
  cases h
  exact k_iret hx hb hr hlk hP hS d_Md_thrown_4
theorem K_Md_thrown (l : Launch) (D : va_G) (a : Nat → Nat) (c9 : Nat → ClassId) (sz : Nat) {σ : kS} {r9 : Int32} {σo : kS} (h : M_Md_thrown σ  = some (r9, σo)) : Met l y_Md_thrown (Cond.code y_Md_thrown c_Md_thrown 1 (some .int) :: kG) rm_Md_thrown (k_Pc D a c9 sz σ [.ref (a 6)]) (k_Qi D a c9 r9 σo (k_A a c9 σ sz)) 0 0 (k_A a c9 σ sz) :=
  k_met (Qf := k_Qi D a c9 r9 σo) (by decide) (Nat.le_of_ble_eq_true rfl) (fun p e s m args below meth c A ls C0 hP hD hS hl => B_Md_thrown_0 C0 σ  s.heap [] ls hP hD hS hl h)
def rm_Md_noTree : Room := { frames := 0, cells := 0, slots := 0, locals := 0 }
def M_Md_noTree (σ : kS) (x1 : Int32) : Option (Int32 × kS) := if x1 < 0 then (some (1, σ)) else (if x1 < σ.1 11 then (some (0, σ)) else (some (1, σ)))
set_option maxHeartbeats 4000000 in
set_option maxRecDepth 100000 in
theorem B_Md_noTree_0 {p : Program} {l : Launch} {e : Env} {s : State} {m : MethodId} {args : Array Value} {below : List Frame} {meth : Method} {c : Code} {D : va_G} {a : Nat → Nat} {c9 : Nat → ClassId} {A : Nat → Prop} {r9 : Int32} {σo : kS} (C0 : k_Cx D c9 p s m args meth c R_Md c_Md_noTree 2 (some .boolean) A) (σ : kS) (x1 : Int32) (H : Heap) (locs : List Loc) (ls : Array Slot) (hP : va_P D kcl (kw a c9 σ) H) (hD : va_D A (kw a c9 σ)) (hS : va_S A s.heap H locs) (hl : lv_has ls 2 [(0, .ref (a 6)), (1, .int x1)]) (h : M_Md_noTree σ x1 = some (r9, σo)) : W p l e rm_Md_noTree s m args below meth c H locs 0 0 (MQ below (k_Qi D a c9 r9 σo A) args s 0 0 A) (F0 m 0 ls []) := by
  obtain ⟨hx, hb, hml, hown, hts, hr, hlk, hK, hN, hA⟩ := id C0
  unfold M_Md_noTree at h
  refine lv_iload_n hx hb d_Md_noTree_0 rfl (lv_at hl 1 rfl) ?_
  refine lv_if_lt (tgt := 12) hx hb d_Md_noTree_1 (by decide) (fun cn1 => ?_) (fun cn1 => ?_)
  · replace h := (if_pos cn1).symm.trans h
    refine lv_iconst (v := 1) hx hb d_Md_noTree_12 (by decide) ?_
    refine lv_goto (tgt := 17) hx hb d_Md_noTree_13 (by decide) ?_
    cases h
    exact k_zret (Or.inr rfl) hx hb hr hlk hP hS d_Md_noTree_17
  · replace h := (if_neg cn1).symm.trans h
    refine lv_iload_n hx hb d_Md_noTree_4 rfl (lv_at hl 1 rfl) ?_
    refine lv_aload_n hx hb d_Md_noTree_5 rfl (lv_at hl 0 rfl) ?_
    refine va_get (ci := 1) (C := R_Md) (T := T_Md) (N := 44) hx hb hts in_Md hown hK hP 6 kw_6 rfl 1 (by decide) (hts _ q_714) (fun _ h9 => h9) rfl d_Md_noTree_6 ?_
    refine lv_icmp_lt (tgt := 16) hx hb d_Md_noTree_9 (by decide) (fun cn2 => ?_) (fun cn2 => ?_)
    · replace h := (if_pos cn2).symm.trans h
      refine lv_iconst (v := 0) hx hb d_Md_noTree_16 (by decide) ?_
      cases h
      exact k_zret (Or.inl rfl) hx hb hr hlk hP hS d_Md_noTree_17
    · replace h := (if_neg cn2).symm.trans h
      refine lv_iconst (v := 1) hx hb d_Md_noTree_12 (by decide) ?_
      refine lv_goto (tgt := 17) hx hb d_Md_noTree_13 (by decide) ?_
      cases h
      exact k_zret (Or.inr rfl) hx hb hr hlk hP hS d_Md_noTree_17
theorem K_Md_noTree (l : Launch) (D : va_G) (a : Nat → Nat) (c9 : Nat → ClassId) (sz : Nat) {σ : kS} {x1 : Int32} {r9 : Int32} {σo : kS} (h : M_Md_noTree σ x1 = some (r9, σo)) : Met l y_Md_noTree (Cond.code y_Md_noTree c_Md_noTree 2 (some .boolean) :: kG) rm_Md_noTree (k_Pc D a c9 sz σ [.ref (a 6), .int x1]) (k_Qi D a c9 r9 σo (k_A a c9 σ sz)) 0 0 (k_A a c9 σ sz) :=
  k_met (Qf := k_Qi D a c9 r9 σo) (by decide) (Nat.le_of_ble_eq_true rfl) (fun p e s m args below meth c A ls C0 hP hD hS hl => B_Md_noTree_0 C0 σ x1 s.heap [] ls hP hD hS hl h)
def rm_Md_tree : Room := { frames := 0, cells := 0, slots := 0, locals := 0 }
def M_Md_tree_74 (σ : kS) (x1 x2 x3 y0 y1 : Int32) : Option (Int32 × kS) := k_st σ 31 240 (y1) (vp_nar .boolean (y0)) fun σ1 => k_st σ1 34 240 (σ1.1 11) (1) fun σ2 => k_set σ2 11 ((σ2.1 11 + 1)) fun σ3 => some ((σ3.1 11 - 1), σ3)
set_option maxHeartbeats 4000000 in
set_option maxRecDepth 100000 in
theorem B_Md_tree_74 {p : Program} {l : Launch} {e : Env} {s : State} {m : MethodId} {args : Array Value} {below : List Frame} {meth : Method} {c : Code} {D : va_G} {a : Nat → Nat} {c9 : Nat → ClassId} {A : Nat → Prop} {r9 : Int32} {σo : kS} (C0 : k_Cx D c9 p s m args meth c R_Md c_Md_tree 4 (some .int) A) (σ : kS) (x1 x2 x3 y0 y1 : Int32) (H : Heap) (locs : List Loc) (ls : Array Slot) (hP : va_P D kcl (kw a c9 σ) H) (hD : va_D A (kw a c9 σ)) (hS : va_S A s.heap H locs) (hl : lv_has ls 4 [(0, .ref (a 6)), (1, .int x1), (2, .int x2), (3, .int x3)]) (h : M_Md_tree_74 σ x1 x2 x3 y0 y1 = some (r9, σo)) : W p l e rm_Md_tree s m args below meth c H locs 0 0 (MQ below (k_Qi D a c9 r9 σo A) args s 0 0 A) (F0 m 74 ls [.int y0, .int y1, .ref (a 38)]) := by
  obtain ⟨hx, hb, hml, hown, hts, hr, hlk, hK, hN, hA⟩ := id C0
  unfold M_Md_tree_74 at h
  obtain ⟨σ1, eσ1, hiσ1, h⟩ := k_st_e h
  refine va_zast hx hb hK hP hD hS 38 1 kw_38 rfl hiσ1 d_Md_tree_74 (fun H locs hP hD hS => ?_)
  replace hP := k_mvP (kw_s38.trans (congrArg _ eσ1.symm)) hP
  replace hD := k_mvD (kw_s38.trans (congrArg _ eσ1.symm)) hD
  refine lv_aload_n hx hb d_Md_tree_75 rfl (lv_at hl 0 rfl) ?_
  refine va_get (ci := 1) (C := R_Md) (T := T_Md) (N := 44) hx hb hts in_Md hown hK hP 6 kw_6 rfl 10 (by decide) (hts _ q_723) (fun _ h9 => h9) rfl d_Md_tree_76 ?_
  refine lv_aload_n hx hb d_Md_tree_79 rfl (lv_at hl 0 rfl) ?_
  refine va_get (ci := 1) (C := R_Md) (T := T_Md) (N := 44) hx hb hts in_Md hown hK hP 6 kw_6 rfl 1 (by decide) (hts _ q_714) (fun _ h9 => h9) rfl d_Md_tree_80 ?_
  refine lv_iconst (v := 1) hx hb d_Md_tree_83 (by decide) ?_
  obtain ⟨σ2, eσ2, hiσ2, h⟩ := k_st_e h
  refine va_iast hx hb hK hP hD hS 41 0 kw_41 rfl hiσ2 d_Md_tree_84 (fun H locs hP hD hS => ?_)
  replace hP := k_mvP (kw_s41.trans (congrArg _ eσ2.symm)) hP
  replace hD := k_mvD (kw_s41.trans (congrArg _ eσ2.symm)) hD
  refine lv_aload_n hx hb d_Md_tree_85 rfl (lv_at hl 0 rfl) ?_
  refine lv_dup hx hb d_Md_tree_86 rfl ?_
  refine va_get (ci := 1) (C := R_Md) (T := T_Md) (N := 44) hx hb hts in_Md hown hK hP 6 kw_6 rfl 1 (by decide) (hts _ q_714) (fun _ h9 => h9) rfl d_Md_tree_87 ?_
  refine lv_iconst (v := 1) hx hb d_Md_tree_90 (by decide) ?_
  refine lv_iadd hx hb d_Md_tree_91 ?_
  obtain ⟨σ3, eσ3, h⟩ := k_set_e h
  refine va_put (ci := 1) (v := .int ((σ2.1 11 + 1))) (ty := .int) (C := R_Md) (T := T_Md) (N := 44) hx hb hts in_Md t_Md t_Md_ok n_Md hown hK hP hD hS 6 kw_6 rfl 1 (by decide) (hts _ q_714) (fun _ h9 => h9) rfl (by decide +kernel) rfl rfl (Nat.le_of_ble_eq_true rfl) d_Md_tree_92 (fun H locs hP hD hS => ?_)
  replace hP := k_mvP (kw_f6_1.trans (congrArg _ eσ3.symm)) hP
  replace hD := k_mvD (kw_f6_1.trans (congrArg _ eσ3.symm)) hD
  refine lv_aload_n hx hb d_Md_tree_95 rfl (lv_at hl 0 rfl) ?_
  refine va_get (ci := 1) (C := R_Md) (T := T_Md) (N := 44) hx hb hts in_Md hown hK hP 6 kw_6 rfl 1 (by decide) (hts _ q_714) (fun _ h9 => h9) rfl d_Md_tree_96 ?_
  refine lv_iconst (v := 1) hx hb d_Md_tree_99 (by decide) ?_
  refine lv_isub hx hb d_Md_tree_100 ?_
  cases h
  exact k_iret hx hb hr hlk hP hS d_Md_tree_101
def M_Md_tree_24 (σ : kS) (x1 x2 x3 y0 : Int32) : Option (Int32 × kS) := k_set σ 10 (y0) fun σ1 => if σ1.1 10 = 0 then (k_st σ1 26 240 (σ1.1 11) (x1) fun σ3 => k_st σ3 27 240 (σ3.1 11) (x2) fun σ4 => if x1 = 2 then (M_Md_tree_74 σ4 x1 x2 x3 0 (σ4.1 11)) else (M_Md_tree_74 σ4 x1 x2 x3 1 (σ4.1 11))) else (some (0, σ1))
set_option maxHeartbeats 4000000 in
set_option maxRecDepth 100000 in
theorem B_Md_tree_24 {p : Program} {l : Launch} {e : Env} {s : State} {m : MethodId} {args : Array Value} {below : List Frame} {meth : Method} {c : Code} {D : va_G} {a : Nat → Nat} {c9 : Nat → ClassId} {A : Nat → Prop} {r9 : Int32} {σo : kS} (C0 : k_Cx D c9 p s m args meth c R_Md c_Md_tree 4 (some .int) A) (σ : kS) (x1 x2 x3 y0 : Int32) (H : Heap) (locs : List Loc) (ls : Array Slot) (hP : va_P D kcl (kw a c9 σ) H) (hD : va_D A (kw a c9 σ)) (hS : va_S A s.heap H locs) (hl : lv_has ls 4 [(0, .ref (a 6)), (1, .int x1), (2, .int x2), (3, .int x3)]) (h : M_Md_tree_24 σ x1 x2 x3 y0 = some (r9, σo)) : W p l e rm_Md_tree s m args below meth c H locs 0 0 (MQ below (k_Qi D a c9 r9 σo A) args s 0 0 A) (F0 m 24 ls [.int y0, .ref (a 6)]) := by
  obtain ⟨hx, hb, hml, hown, hts, hr, hlk, hK, hN, hA⟩ := id C0
  unfold M_Md_tree_24 at h
  obtain ⟨σ1, eσ1, h⟩ := k_set_e h
  refine va_put (ci := 1) (v := .int y0) (ty := .int) (C := R_Md) (T := T_Md) (N := 44) hx hb hts in_Md t_Md t_Md_ok n_Md hown hK hP hD hS 6 kw_6 rfl 0 (by decide) (hts _ q_713) (fun _ h9 => h9) rfl (by decide +kernel) rfl rfl (Nat.le_of_ble_eq_true rfl) d_Md_tree_24 (fun H locs hP hD hS => ?_)
  replace hP := k_mvP (kw_f6_0.trans (congrArg _ eσ1.symm)) hP
  replace hD := k_mvD (kw_f6_0.trans (congrArg _ eσ1.symm)) hD
  refine lv_aload_n hx hb d_Md_tree_27 rfl (lv_at hl 0 rfl) ?_
  refine va_get (ci := 1) (C := R_Md) (T := T_Md) (N := 44) hx hb hts in_Md hown hK hP 6 kw_6 rfl 0 (by decide) (hts _ q_713) (fun _ h9 => h9) rfl d_Md_tree_28 ?_
  refine lv_if_eq (tgt := 36) hx hb d_Md_tree_31 (by decide) (fun cn2 => ?_) (fun cn2 => ?_)
  · replace h := (if_pos cn2).symm.trans h
    refine lv_aload_n hx hb d_Md_tree_36 rfl (lv_at hl 0 rfl) ?_
    refine va_get (ci := 1) (C := R_Md) (T := T_Md) (N := 44) hx hb hts in_Md hown hK hP 6 kw_6 rfl 2 (by decide) (hts _ q_715) (fun _ h9 => h9) rfl d_Md_tree_37 ?_
    refine lv_aload_n hx hb d_Md_tree_40 rfl (lv_at hl 0 rfl) ?_
    refine va_get (ci := 1) (C := R_Md) (T := T_Md) (N := 44) hx hb hts in_Md hown hK hP 6 kw_6 rfl 1 (by decide) (hts _ q_714) (fun _ h9 => h9) rfl d_Md_tree_41 ?_
    refine lv_iload_n hx hb d_Md_tree_44 rfl (lv_at hl 1 rfl) ?_
    obtain ⟨σ3, eσ3, hiσ3, h⟩ := k_st_e h
    refine va_iast hx hb hK hP hD hS 33 0 kw_33 rfl hiσ3 d_Md_tree_45 (fun H locs hP hD hS => ?_)
    replace hP := k_mvP (kw_s33.trans (congrArg _ eσ3.symm)) hP
    replace hD := k_mvD (kw_s33.trans (congrArg _ eσ3.symm)) hD
    refine lv_aload_n hx hb d_Md_tree_46 rfl (lv_at hl 0 rfl) ?_
    refine va_get (ci := 1) (C := R_Md) (T := T_Md) (N := 44) hx hb hts in_Md hown hK hP 6 kw_6 rfl 3 (by decide) (hts _ q_716) (fun _ h9 => h9) rfl d_Md_tree_47 ?_
    refine lv_aload_n hx hb d_Md_tree_50 rfl (lv_at hl 0 rfl) ?_
    refine va_get (ci := 1) (C := R_Md) (T := T_Md) (N := 44) hx hb hts in_Md hown hK hP 6 kw_6 rfl 1 (by decide) (hts _ q_714) (fun _ h9 => h9) rfl d_Md_tree_51 ?_
    refine lv_iload_n hx hb d_Md_tree_54 rfl (lv_at hl 2 rfl) ?_
    obtain ⟨σ4, eσ4, hiσ4, h⟩ := k_st_e h
    refine va_iast hx hb hK hP hD hS 34 0 kw_34 rfl hiσ4 d_Md_tree_55 (fun H locs hP hD hS => ?_)
    replace hP := k_mvP (kw_s34.trans (congrArg _ eσ4.symm)) hP
    replace hD := k_mvD (kw_s34.trans (congrArg _ eσ4.symm)) hD
    refine lv_aload_n hx hb d_Md_tree_56 rfl (lv_at hl 0 rfl) ?_
    refine va_get (ci := 1) (C := R_Md) (T := T_Md) (N := 44) hx hb hts in_Md hown hK hP 6 kw_6 rfl 7 (by decide) (hts _ q_720) (fun _ h9 => h9) rfl d_Md_tree_57 ?_
    refine lv_aload_n hx hb d_Md_tree_60 rfl (lv_at hl 0 rfl) ?_
    refine va_get (ci := 1) (C := R_Md) (T := T_Md) (N := 44) hx hb hts in_Md hown hK hP 6 kw_6 rfl 1 (by decide) (hts _ q_714) (fun _ h9 => h9) rfl d_Md_tree_61 ?_
    refine lv_iload_n hx hb d_Md_tree_64 rfl (lv_at hl 1 rfl) ?_
    refine lv_iconst (v := 2) hx hb d_Md_tree_65 (by decide) ?_
    refine lv_icmp_eq (tgt := 73) hx hb d_Md_tree_66 (by decide) (fun cn5 => ?_) (fun cn5 => ?_)
    · replace h := (if_pos cn5).symm.trans h
      refine lv_iconst (v := 0) hx hb d_Md_tree_73 (by decide) ?_
      exact B_Md_tree_74 C0 _ _ _ _ _ _ H locs ls hP hD hS (lv_sub hl [0, 1, 2, 3] rfl) h
    · replace h := (if_neg cn5).symm.trans h
      refine lv_iconst (v := 1) hx hb d_Md_tree_69 (by decide) ?_
      refine lv_goto (tgt := 74) hx hb d_Md_tree_70 (by decide) ?_
      exact B_Md_tree_74 C0 _ _ _ _ _ _ H locs ls hP hD hS (lv_sub hl [0, 1, 2, 3] rfl) h
  · replace h := (if_neg cn2).symm.trans h
    refine lv_iconst (v := 0) hx hb d_Md_tree_34 (by decide) ?_
    cases h
    exact k_iret hx hb hr hlk hP hS d_Md_tree_35
def M_Md_tree (σ : kS) (x1 x2 x3 : Int32) : Option (Int32 × kS) := if x3 = 0 then (if σ.1 11 = 240 then (M_Md_tree_24 σ x1 x2 x3 2) else (M_Md_tree_24 σ x1 x2 x3 0)) else (M_Md_tree_24 σ x1 x2 x3 1)
set_option maxHeartbeats 4000000 in
set_option maxRecDepth 100000 in
theorem B_Md_tree_0 {p : Program} {l : Launch} {e : Env} {s : State} {m : MethodId} {args : Array Value} {below : List Frame} {meth : Method} {c : Code} {D : va_G} {a : Nat → Nat} {c9 : Nat → ClassId} {A : Nat → Prop} {r9 : Int32} {σo : kS} (C0 : k_Cx D c9 p s m args meth c R_Md c_Md_tree 4 (some .int) A) (σ : kS) (x1 x2 x3 : Int32) (H : Heap) (locs : List Loc) (ls : Array Slot) (hP : va_P D kcl (kw a c9 σ) H) (hD : va_D A (kw a c9 σ)) (hS : va_S A s.heap H locs) (hl : lv_has ls 4 [(0, .ref (a 6)), (1, .int x1), (2, .int x2), (3, .int x3)]) (h : M_Md_tree σ x1 x2 x3 = some (r9, σo)) : W p l e rm_Md_tree s m args below meth c H locs 0 0 (MQ below (k_Qi D a c9 r9 σo A) args s 0 0 A) (F0 m 0 ls []) := by
  obtain ⟨hx, hb, hml, hown, hts, hr, hlk, hK, hN, hA⟩ := id C0
  unfold M_Md_tree at h
  refine lv_aload_n hx hb d_Md_tree_0 rfl (lv_at hl 0 rfl) ?_
  refine lv_iload_n hx hb d_Md_tree_1 rfl (lv_at hl 3 rfl) ?_
  refine lv_if_eq (tgt := 9) hx hb d_Md_tree_2 (by decide) (fun cn1 => ?_) (fun cn1 => ?_)
  · replace h := (if_pos cn1).symm.trans h
    refine lv_aload_n hx hb d_Md_tree_9 rfl (lv_at hl 0 rfl) ?_
    refine va_get (ci := 1) (C := R_Md) (T := T_Md) (N := 44) hx hb hts in_Md hown hK hP 6 kw_6 rfl 1 (by decide) (hts _ q_714) (fun _ h9 => h9) rfl d_Md_tree_10 ?_
    refine lv_sipush (v := 240) hx hb d_Md_tree_13 (by decide) ?_
    refine lv_icmp_ne (tgt := 23) hx hb d_Md_tree_16 (by decide) (fun cn2 => ?_) (fun cn2 => ?_)
    · replace h := (if_neg cn2).symm.trans h
      refine lv_iconst (v := 0) hx hb d_Md_tree_23 (by decide) ?_
      exact B_Md_tree_24 C0 _ _ _ _ _ H locs ls hP hD hS (lv_sub hl [0, 1, 2, 3] rfl) h
    · replace h := (if_pos cn2).symm.trans h
      refine lv_iconst (v := 2) hx hb d_Md_tree_19 (by decide) ?_
      refine lv_goto (tgt := 24) hx hb d_Md_tree_20 (by decide) ?_
      exact B_Md_tree_24 C0 _ _ _ _ _ H locs ls hP hD hS (lv_sub hl [0, 1, 2, 3] rfl) h
  · replace h := (if_neg cn1).symm.trans h
    refine lv_iconst (v := 1) hx hb d_Md_tree_5 (by decide) ?_
    refine lv_goto (tgt := 24) hx hb d_Md_tree_6 (by decide) ?_
    exact B_Md_tree_24 C0 _ _ _ _ _ H locs ls hP hD hS (lv_sub hl [0, 1, 2, 3] rfl) h
theorem K_Md_tree (l : Launch) (D : va_G) (a : Nat → Nat) (c9 : Nat → ClassId) (sz : Nat) {σ : kS} {x1 x2 x3 : Int32} {r9 : Int32} {σo : kS} (h : M_Md_tree σ x1 x2 x3 = some (r9, σo)) : Met l y_Md_tree (Cond.code y_Md_tree c_Md_tree 4 (some .int) :: kG) rm_Md_tree (k_Pc D a c9 sz σ [.ref (a 6), .int x1, .int x2, .int x3]) (k_Qi D a c9 r9 σo (k_A a c9 σ sz)) 0 0 (k_A a c9 σ sz) :=
  k_met (Qf := k_Qi D a c9 r9 σo) (by decide) (Nat.le_of_ble_eq_true rfl) (fun p e s m args below meth c A ls C0 hP hD hS hl => B_Md_tree_0 C0 σ x1 x2 x3 s.heap [] ls hP hD hS hl h)
def rm_Md_leaf : Room := { frames := 1, cells := 0, slots := 0, locals := 23 }
def M_Md_leaf_18 (σ : kS) (x1 y0 y1 y2 : Int32) : Option (Int32 × kS) := k_call (M_Md_tree σ y2 y1 y0) fun v1 σ2 => some (v1, σ2)
set_option maxHeartbeats 4000000 in
set_option maxRecDepth 100000 in
theorem B_Md_leaf_18 {p : Program} {l : Launch} {e : Env} {s : State} {m : MethodId} {args : Array Value} {below : List Frame} {meth : Method} {c : Code} {D : va_G} {a : Nat → Nat} {c9 : Nat → ClassId} {A : Nat → Prop} {r9 : Int32} {σo : kS} (C0 : k_Cx D c9 p s m args meth c R_Md c_Md_leaf 2 (some .int) A) (σ : kS) (x1 y0 y1 y2 : Int32) (H : Heap) (locs : List Loc) (ls : Array Slot) (hP : va_P D kcl (kw a c9 σ) H) (hD : va_D A (kw a c9 σ)) (hS : va_S A s.heap H locs) (hl : lv_has ls 2 [(0, .ref (a 6)), (1, .int x1)]) (h : M_Md_leaf_18 σ x1 y0 y1 y2 = some (r9, σo)) : W p l e rm_Md_leaf s m args below meth c H locs 0 0 (MQ below (k_Qi D a c9 r9 σo A) args s 0 0 A) (F0 m 18 ls [.int y0, .int y1, .int y2, .ref (a 6)]) := by
  obtain ⟨hx, hb, hml, hown, hts, hr, hlk, hK, hN, hA⟩ := id C0
  unfold M_Md_leaf_18 at h
  obtain ⟨v1, σ2, hc3, h⟩ := k_call_e h
  refine k_calli (va_runV (As := [.int y2, .int y1, .int y0]) (rest := []) ⟨hx, hb, hml, hown, hts⟩ (K_Md_tree l D a c9 H.size hc3) (cwV 3 hts (k_gV q_854 q_856 s_18 q_7 q_857) rfl rfl rfl h_Md_tree ⟨Nat.le_of_ble_eq_true rfl, Nat.le_of_ble_eq_true rfl⟩) (k_preV (ci := 1) (q0 := 6) rfl kw_6 hP hK hN hD) rfl rfl hl.1 rfl (lv_room (Nat.le_of_ble_eq_true rfl)) d_Md_leaf_18 ⟨Nat.zero_le _, Nat.zero_le _⟩) hD hS hA (fun H locs hP hD hS => ?_)
  cases h
  exact k_iret hx hb hr hlk hP hS d_Md_leaf_21
def M_Md_leaf_13 (σ : kS) (x1 y0 y1 : Int32) : Option (Int32 × kS) := M_Md_leaf_18 σ x1 1 y0 y1
set_option maxHeartbeats 4000000 in
set_option maxRecDepth 100000 in
theorem B_Md_leaf_13 {p : Program} {l : Launch} {e : Env} {s : State} {m : MethodId} {args : Array Value} {below : List Frame} {meth : Method} {c : Code} {D : va_G} {a : Nat → Nat} {c9 : Nat → ClassId} {A : Nat → Prop} {r9 : Int32} {σo : kS} (C0 : k_Cx D c9 p s m args meth c R_Md c_Md_leaf 2 (some .int) A) (σ : kS) (x1 y0 y1 : Int32) (H : Heap) (locs : List Loc) (ls : Array Slot) (hP : va_P D kcl (kw a c9 σ) H) (hD : va_D A (kw a c9 σ)) (hS : va_S A s.heap H locs) (hl : lv_has ls 2 [(0, .ref (a 6)), (1, .int x1)]) (h : M_Md_leaf_13 σ x1 y0 y1 = some (r9, σo)) : W p l e rm_Md_leaf s m args below meth c H locs 0 0 (MQ below (k_Qi D a c9 r9 σo A) args s 0 0 A) (F0 m 13 ls [.int y0, .int y1, .ref (a 6)]) := by
  obtain ⟨hx, hb, hml, hown, hts, hr, hlk, hK, hN, hA⟩ := id C0
  unfold M_Md_leaf_13 at h
  refine lv_iconst (v := 1) hx hb d_Md_leaf_13 (by decide) ?_
  refine lv_goto (tgt := 18) hx hb d_Md_leaf_14 (by decide) ?_
  exact B_Md_leaf_18 C0 _ _ _ _ _ H locs ls hP hD hS (lv_sub hl [0, 1] rfl) h
def M_Md_leaf (σ : kS) (x1 : Int32) : Option (Int32 × kS) := if x1 < 0 then (M_Md_leaf_13 σ x1 x1 0) else (if x1 ≤ 99 then (M_Md_leaf_18 σ x1 0 x1 0) else (M_Md_leaf_13 σ x1 x1 0))
set_option maxHeartbeats 4000000 in
set_option maxRecDepth 100000 in
theorem B_Md_leaf_0 {p : Program} {l : Launch} {e : Env} {s : State} {m : MethodId} {args : Array Value} {below : List Frame} {meth : Method} {c : Code} {D : va_G} {a : Nat → Nat} {c9 : Nat → ClassId} {A : Nat → Prop} {r9 : Int32} {σo : kS} (C0 : k_Cx D c9 p s m args meth c R_Md c_Md_leaf 2 (some .int) A) (σ : kS) (x1 : Int32) (H : Heap) (locs : List Loc) (ls : Array Slot) (hP : va_P D kcl (kw a c9 σ) H) (hD : va_D A (kw a c9 σ)) (hS : va_S A s.heap H locs) (hl : lv_has ls 2 [(0, .ref (a 6)), (1, .int x1)]) (h : M_Md_leaf σ x1 = some (r9, σo)) : W p l e rm_Md_leaf s m args below meth c H locs 0 0 (MQ below (k_Qi D a c9 r9 σo A) args s 0 0 A) (F0 m 0 ls []) := by
  obtain ⟨hx, hb, hml, hown, hts, hr, hlk, hK, hN, hA⟩ := id C0
  unfold M_Md_leaf at h
  refine lv_aload_n hx hb d_Md_leaf_0 rfl (lv_at hl 0 rfl) ?_
  refine lv_iconst (v := 0) hx hb d_Md_leaf_1 (by decide) ?_
  refine lv_iload_n hx hb d_Md_leaf_2 rfl (lv_at hl 1 rfl) ?_
  refine lv_iload_n hx hb d_Md_leaf_3 rfl (lv_at hl 1 rfl) ?_
  refine lv_if_lt (tgt := 13) hx hb d_Md_leaf_4 (by decide) (fun cn1 => ?_) (fun cn1 => ?_)
  · replace h := (if_pos cn1).symm.trans h
    exact B_Md_leaf_13 C0 _ _ _ _ H locs ls hP hD hS (lv_sub hl [0, 1] rfl) h
  · replace h := (if_neg cn1).symm.trans h
    refine lv_iload_n hx hb d_Md_leaf_7 rfl (lv_at hl 1 rfl) ?_
    refine lv_bipush (v := 99) hx hb d_Md_leaf_8 (by decide) ?_
    refine lv_icmp_le (tgt := 17) hx hb d_Md_leaf_10 (by decide) (fun cn2 => ?_) (fun cn2 => ?_)
    · replace h := (if_pos cn2).symm.trans h
      refine lv_iconst (v := 0) hx hb d_Md_leaf_17 (by decide) ?_
      exact B_Md_leaf_18 C0 _ _ _ _ _ H locs ls hP hD hS (lv_sub hl [0, 1] rfl) h
    · replace h := (if_neg cn2).symm.trans h
      exact B_Md_leaf_13 C0 _ _ _ _ H locs ls hP hD hS (lv_sub hl [0, 1] rfl) h
theorem K_Md_leaf (l : Launch) (D : va_G) (a : Nat → Nat) (c9 : Nat → ClassId) (sz : Nat) {σ : kS} {x1 : Int32} {r9 : Int32} {σo : kS} (h : M_Md_leaf σ x1 = some (r9, σo)) : Met l y_Md_leaf (Cond.code y_Md_leaf c_Md_leaf 2 (some .int) :: kG) rm_Md_leaf (k_Pc D a c9 sz σ [.ref (a 6), .int x1]) (k_Qi D a c9 r9 σo (k_A a c9 σ sz)) 0 0 (k_A a c9 σ sz) :=
  k_met (Qf := k_Qi D a c9 r9 σo) (by decide) (Nat.le_of_ble_eq_true rfl) (fun p e s m args below meth c A ls C0 hP hD hS hl => B_Md_leaf_0 C0 σ x1 s.heap [] ls hP hD hS hl h)
def rm_Md_node : Room := { frames := 1, cells := 0, slots := 0, locals := 23 }
def M_Md_node_18 (σ : kS) (x1 y0 y1 y2 : Int32) : Option (Int32 × kS) := k_call (M_Md_tree σ y2 y1 y0) fun v1 σ2 => some (v1, σ2)
set_option maxHeartbeats 4000000 in
set_option maxRecDepth 100000 in
theorem B_Md_node_18 {p : Program} {l : Launch} {e : Env} {s : State} {m : MethodId} {args : Array Value} {below : List Frame} {meth : Method} {c : Code} {D : va_G} {a : Nat → Nat} {c9 : Nat → ClassId} {A : Nat → Prop} {r9 : Int32} {σo : kS} (C0 : k_Cx D c9 p s m args meth c R_Md c_Md_node 2 (some .int) A) (σ : kS) (x1 y0 y1 y2 : Int32) (H : Heap) (locs : List Loc) (ls : Array Slot) (hP : va_P D kcl (kw a c9 σ) H) (hD : va_D A (kw a c9 σ)) (hS : va_S A s.heap H locs) (hl : lv_has ls 2 [(0, .ref (a 6)), (1, .int x1)]) (h : M_Md_node_18 σ x1 y0 y1 y2 = some (r9, σo)) : W p l e rm_Md_node s m args below meth c H locs 0 0 (MQ below (k_Qi D a c9 r9 σo A) args s 0 0 A) (F0 m 18 ls [.int y0, .int y1, .int y2, .ref (a 6)]) := by
  obtain ⟨hx, hb, hml, hown, hts, hr, hlk, hK, hN, hA⟩ := id C0
  unfold M_Md_node_18 at h
  obtain ⟨v1, σ2, hc3, h⟩ := k_call_e h
  refine k_calli (va_runV (As := [.int y2, .int y1, .int y0]) (rest := []) ⟨hx, hb, hml, hown, hts⟩ (K_Md_tree l D a c9 H.size hc3) (cwV 3 hts (k_gV q_854 q_856 s_18 q_7 q_857) rfl rfl rfl h_Md_tree ⟨Nat.le_of_ble_eq_true rfl, Nat.le_of_ble_eq_true rfl⟩) (k_preV (ci := 1) (q0 := 6) rfl kw_6 hP hK hN hD) rfl rfl hl.1 rfl (lv_room (Nat.le_of_ble_eq_true rfl)) d_Md_node_18 ⟨Nat.zero_le _, Nat.zero_le _⟩) hD hS hA (fun H locs hP hD hS => ?_)
  cases h
  exact k_iret hx hb hr hlk hP hS d_Md_node_21
def M_Md_node_13 (σ : kS) (x1 y0 y1 : Int32) : Option (Int32 × kS) := M_Md_node_18 σ x1 1 y0 y1
set_option maxHeartbeats 4000000 in
set_option maxRecDepth 100000 in
theorem B_Md_node_13 {p : Program} {l : Launch} {e : Env} {s : State} {m : MethodId} {args : Array Value} {below : List Frame} {meth : Method} {c : Code} {D : va_G} {a : Nat → Nat} {c9 : Nat → ClassId} {A : Nat → Prop} {r9 : Int32} {σo : kS} (C0 : k_Cx D c9 p s m args meth c R_Md c_Md_node 2 (some .int) A) (σ : kS) (x1 y0 y1 : Int32) (H : Heap) (locs : List Loc) (ls : Array Slot) (hP : va_P D kcl (kw a c9 σ) H) (hD : va_D A (kw a c9 σ)) (hS : va_S A s.heap H locs) (hl : lv_has ls 2 [(0, .ref (a 6)), (1, .int x1)]) (h : M_Md_node_13 σ x1 y0 y1 = some (r9, σo)) : W p l e rm_Md_node s m args below meth c H locs 0 0 (MQ below (k_Qi D a c9 r9 σo A) args s 0 0 A) (F0 m 13 ls [.int y0, .int y1, .ref (a 6)]) := by
  obtain ⟨hx, hb, hml, hown, hts, hr, hlk, hK, hN, hA⟩ := id C0
  unfold M_Md_node_13 at h
  refine lv_iconst (v := 1) hx hb d_Md_node_13 (by decide) ?_
  refine lv_goto (tgt := 18) hx hb d_Md_node_14 (by decide) ?_
  exact B_Md_node_18 C0 _ _ _ _ _ H locs ls hP hD hS (lv_sub hl [0, 1] rfl) h
def M_Md_node (σ : kS) (x1 : Int32) : Option (Int32 × kS) := if x1 < 0 then (M_Md_node_13 σ x1 x1 1) else (if x1 ≤ 9 then (M_Md_node_18 σ x1 0 x1 1) else (M_Md_node_13 σ x1 x1 1))
set_option maxHeartbeats 4000000 in
set_option maxRecDepth 100000 in
theorem B_Md_node_0 {p : Program} {l : Launch} {e : Env} {s : State} {m : MethodId} {args : Array Value} {below : List Frame} {meth : Method} {c : Code} {D : va_G} {a : Nat → Nat} {c9 : Nat → ClassId} {A : Nat → Prop} {r9 : Int32} {σo : kS} (C0 : k_Cx D c9 p s m args meth c R_Md c_Md_node 2 (some .int) A) (σ : kS) (x1 : Int32) (H : Heap) (locs : List Loc) (ls : Array Slot) (hP : va_P D kcl (kw a c9 σ) H) (hD : va_D A (kw a c9 σ)) (hS : va_S A s.heap H locs) (hl : lv_has ls 2 [(0, .ref (a 6)), (1, .int x1)]) (h : M_Md_node σ x1 = some (r9, σo)) : W p l e rm_Md_node s m args below meth c H locs 0 0 (MQ below (k_Qi D a c9 r9 σo A) args s 0 0 A) (F0 m 0 ls []) := by
  obtain ⟨hx, hb, hml, hown, hts, hr, hlk, hK, hN, hA⟩ := id C0
  unfold M_Md_node at h
  refine lv_aload_n hx hb d_Md_node_0 rfl (lv_at hl 0 rfl) ?_
  refine lv_iconst (v := 1) hx hb d_Md_node_1 (by decide) ?_
  refine lv_iload_n hx hb d_Md_node_2 rfl (lv_at hl 1 rfl) ?_
  refine lv_iload_n hx hb d_Md_node_3 rfl (lv_at hl 1 rfl) ?_
  refine lv_if_lt (tgt := 13) hx hb d_Md_node_4 (by decide) (fun cn1 => ?_) (fun cn1 => ?_)
  · replace h := (if_pos cn1).symm.trans h
    exact B_Md_node_13 C0 _ _ _ _ H locs ls hP hD hS (lv_sub hl [0, 1] rfl) h
  · replace h := (if_neg cn1).symm.trans h
    refine lv_iload_n hx hb d_Md_node_7 rfl (lv_at hl 1 rfl) ?_
    refine lv_bipush (v := 9) hx hb d_Md_node_8 (by decide) ?_
    refine lv_icmp_le (tgt := 17) hx hb d_Md_node_10 (by decide) (fun cn2 => ?_) (fun cn2 => ?_)
    · replace h := (if_pos cn2).symm.trans h
      refine lv_iconst (v := 0) hx hb d_Md_node_17 (by decide) ?_
      exact B_Md_node_18 C0 _ _ _ _ _ H locs ls hP hD hS (lv_sub hl [0, 1] rfl) h
    · replace h := (if_neg cn2).symm.trans h
      exact B_Md_node_13 C0 _ _ _ _ H locs ls hP hD hS (lv_sub hl [0, 1] rfl) h
theorem K_Md_node (l : Launch) (D : va_G) (a : Nat → Nat) (c9 : Nat → ClassId) (sz : Nat) {σ : kS} {x1 : Int32} {r9 : Int32} {σo : kS} (h : M_Md_node σ x1 = some (r9, σo)) : Met l y_Md_node (Cond.code y_Md_node c_Md_node 2 (some .int) :: kG) rm_Md_node (k_Pc D a c9 sz σ [.ref (a 6), .int x1]) (k_Qi D a c9 r9 σo (k_A a c9 σ sz)) 0 0 (k_A a c9 σ sz) :=
  k_met (Qf := k_Qi D a c9 r9 σo) (by decide) (Nat.le_of_ble_eq_true rfl) (fun p e s m args below meth c A ls C0 hP hD hS hl => B_Md_node_0 C0 σ x1 s.heap [] ls hP hD hS hl h)
def rm_Md_hole : Room := { frames := 1, cells := 0, slots := 0, locals := 23 }
def M_Md_hole_27 (σ : kS) (x1 x2 y0 y1 y2 : Int32) : Option (Int32 × kS) := k_call (M_Md_tree σ y2 y1 y0) fun v1 σ2 => if σ2.1 10 = 0 then (k_st σ2 28 240 (v1) (x2) fun σ5 => some (v1, σ5)) else (some (v1, σ2))
set_option maxHeartbeats 4000000 in
set_option maxRecDepth 100000 in
theorem B_Md_hole_27 {p : Program} {l : Launch} {e : Env} {s : State} {m : MethodId} {args : Array Value} {below : List Frame} {meth : Method} {c : Code} {D : va_G} {a : Nat → Nat} {c9 : Nat → ClassId} {A : Nat → Prop} {r9 : Int32} {σo : kS} (C0 : k_Cx D c9 p s m args meth c R_Md c_Md_hole 4 (some .int) A) (σ : kS) (x1 x2 y0 y1 y2 : Int32) (H : Heap) (locs : List Loc) (ls : Array Slot) (hP : va_P D kcl (kw a c9 σ) H) (hD : va_D A (kw a c9 σ)) (hS : va_S A s.heap H locs) (hl : lv_has ls 4 [(0, .ref (a 6)), (1, .int x1), (2, .int x2)]) (h : M_Md_hole_27 σ x1 x2 y0 y1 y2 = some (r9, σo)) : W p l e rm_Md_hole s m args below meth c H locs 0 0 (MQ below (k_Qi D a c9 r9 σo A) args s 0 0 A) (F0 m 27 ls [.int y0, .int y1, .int y2, .ref (a 6)]) := by
  obtain ⟨hx, hb, hml, hown, hts, hr, hlk, hK, hN, hA⟩ := id C0
  unfold M_Md_hole_27 at h
  obtain ⟨v1, σ2, hc3, h⟩ := k_call_e h
  refine k_calli (va_runV (As := [.int y2, .int y1, .int y0]) (rest := []) ⟨hx, hb, hml, hown, hts⟩ (K_Md_tree l D a c9 H.size hc3) (cwV 3 hts (k_gV q_854 q_856 s_18 q_7 q_857) rfl rfl rfl h_Md_tree ⟨Nat.le_of_ble_eq_true rfl, Nat.le_of_ble_eq_true rfl⟩) (k_preV (ci := 1) (q0 := 6) rfl kw_6 hP hK hN hD) rfl rfl hl.1 rfl (lv_room (Nat.le_of_ble_eq_true rfl)) d_Md_hole_27 ⟨Nat.zero_le _, Nat.zero_le _⟩) hD hS hA (fun H locs hP hD hS => ?_)
  refine lv_istore_n (lv' := [(3, .int v1), (0, .ref (a 6)), (1, .int x1), (2, .int x2)]) hx hb d_Md_hole_30 rfl hl (by decide) rfl (fun ls hl => ?_)
  refine lv_aload_n hx hb d_Md_hole_31 rfl (lv_at hl 1 rfl) ?_
  refine va_get (ci := 1) (C := R_Md) (T := T_Md) (N := 44) hx hb hts in_Md hown hK hP 6 kw_6 rfl 0 (by decide) (hts _ q_713) (fun _ h9 => h9) rfl d_Md_hole_32 ?_
  refine lv_if_ne (tgt := 45) hx hb d_Md_hole_35 (by decide) (fun cn4 => ?_) (fun cn4 => ?_)
  · replace h := (if_neg cn4).symm.trans h
    refine lv_iload_n hx hb d_Md_hole_45 rfl (lv_at hl 0 rfl) ?_
    cases h
    exact k_iret hx hb hr hlk hP hS d_Md_hole_46
  · replace h := (if_pos cn4).symm.trans h
    refine lv_aload_n hx hb d_Md_hole_38 rfl (lv_at hl 1 rfl) ?_
    refine va_get (ci := 1) (C := R_Md) (T := T_Md) (N := 44) hx hb hts in_Md hown hK hP 6 kw_6 rfl 4 (by decide) (hts _ q_717) (fun _ h9 => h9) rfl d_Md_hole_39 ?_
    refine lv_iload_n hx hb d_Md_hole_42 rfl (lv_at hl 0 rfl) ?_
    refine lv_iload_n hx hb d_Md_hole_43 rfl (lv_at hl 3 rfl) ?_
    obtain ⟨σ5, eσ5, hiσ5, h⟩ := k_st_e h
    refine va_iast hx hb hK hP hD hS 35 0 kw_35 rfl hiσ5 d_Md_hole_44 (fun H locs hP hD hS => ?_)
    replace hP := k_mvP (kw_s35.trans (congrArg _ eσ5.symm)) hP
    replace hD := k_mvD (kw_s35.trans (congrArg _ eσ5.symm)) hD
    refine lv_iload_n hx hb d_Md_hole_45 rfl (lv_at hl 0 rfl) ?_
    cases h
    exact k_iret hx hb hr hlk hP hS d_Md_hole_46
def M_Md_hole_22 (σ : kS) (x1 x2 y0 y1 : Int32) : Option (Int32 × kS) := M_Md_hole_27 σ x1 x2 1 y0 y1
set_option maxHeartbeats 4000000 in
set_option maxRecDepth 100000 in
theorem B_Md_hole_22 {p : Program} {l : Launch} {e : Env} {s : State} {m : MethodId} {args : Array Value} {below : List Frame} {meth : Method} {c : Code} {D : va_G} {a : Nat → Nat} {c9 : Nat → ClassId} {A : Nat → Prop} {r9 : Int32} {σo : kS} (C0 : k_Cx D c9 p s m args meth c R_Md c_Md_hole 4 (some .int) A) (σ : kS) (x1 x2 y0 y1 : Int32) (H : Heap) (locs : List Loc) (ls : Array Slot) (hP : va_P D kcl (kw a c9 σ) H) (hD : va_D A (kw a c9 σ)) (hS : va_S A s.heap H locs) (hl : lv_has ls 4 [(0, .ref (a 6)), (1, .int x1), (2, .int x2)]) (h : M_Md_hole_22 σ x1 x2 y0 y1 = some (r9, σo)) : W p l e rm_Md_hole s m args below meth c H locs 0 0 (MQ below (k_Qi D a c9 r9 σo A) args s 0 0 A) (F0 m 22 ls [.int y0, .int y1, .ref (a 6)]) := by
  obtain ⟨hx, hb, hml, hown, hts, hr, hlk, hK, hN, hA⟩ := id C0
  unfold M_Md_hole_22 at h
  refine lv_iconst (v := 1) hx hb d_Md_hole_22 (by decide) ?_
  refine lv_goto (tgt := 27) hx hb d_Md_hole_23 (by decide) ?_
  exact B_Md_hole_27 C0 _ _ _ _ _ _ H locs ls hP hD hS (lv_sub hl [0, 1, 2] rfl) h
def M_Md_hole (σ : kS) (x1 x2 : Int32) : Option (Int32 × kS) := if x1 < 0 then (M_Md_hole_22 σ x1 x2 x1 2) else (if 7 < x1 then (M_Md_hole_22 σ x1 x2 x1 2) else (if x2 < 0 then (M_Md_hole_22 σ x1 x2 x1 2) else (if x2 ≤ 3 then (M_Md_hole_27 σ x1 x2 0 x1 2) else (M_Md_hole_22 σ x1 x2 x1 2))))
set_option maxHeartbeats 4000000 in
set_option maxRecDepth 100000 in
theorem B_Md_hole_0 {p : Program} {l : Launch} {e : Env} {s : State} {m : MethodId} {args : Array Value} {below : List Frame} {meth : Method} {c : Code} {D : va_G} {a : Nat → Nat} {c9 : Nat → ClassId} {A : Nat → Prop} {r9 : Int32} {σo : kS} (C0 : k_Cx D c9 p s m args meth c R_Md c_Md_hole 4 (some .int) A) (σ : kS) (x1 x2 : Int32) (H : Heap) (locs : List Loc) (ls : Array Slot) (hP : va_P D kcl (kw a c9 σ) H) (hD : va_D A (kw a c9 σ)) (hS : va_S A s.heap H locs) (hl : lv_has ls 4 [(0, .ref (a 6)), (1, .int x1), (2, .int x2)]) (h : M_Md_hole σ x1 x2 = some (r9, σo)) : W p l e rm_Md_hole s m args below meth c H locs 0 0 (MQ below (k_Qi D a c9 r9 σo A) args s 0 0 A) (F0 m 0 ls []) := by
  obtain ⟨hx, hb, hml, hown, hts, hr, hlk, hK, hN, hA⟩ := id C0
  unfold M_Md_hole at h
  refine lv_aload_n hx hb d_Md_hole_0 rfl (lv_at hl 0 rfl) ?_
  refine lv_iconst (v := 2) hx hb d_Md_hole_1 (by decide) ?_
  refine lv_iload_n hx hb d_Md_hole_2 rfl (lv_at hl 1 rfl) ?_
  refine lv_iload_n hx hb d_Md_hole_3 rfl (lv_at hl 1 rfl) ?_
  refine lv_if_lt (tgt := 22) hx hb d_Md_hole_4 (by decide) (fun cn1 => ?_) (fun cn1 => ?_)
  · replace h := (if_pos cn1).symm.trans h
    exact B_Md_hole_22 C0 _ _ _ _ _ H locs ls hP hD hS (lv_sub hl [0, 1, 2] rfl) h
  · replace h := (if_neg cn1).symm.trans h
    refine lv_iload_n hx hb d_Md_hole_7 rfl (lv_at hl 1 rfl) ?_
    refine lv_bipush (v := 7) hx hb d_Md_hole_8 (by decide) ?_
    refine lv_icmp_gt (tgt := 22) hx hb d_Md_hole_10 (by decide) (fun cn2 => ?_) (fun cn2 => ?_)
    · replace h := (if_pos cn2).symm.trans h
      exact B_Md_hole_22 C0 _ _ _ _ _ H locs ls hP hD hS (lv_sub hl [0, 1, 2] rfl) h
    · replace h := (if_neg cn2).symm.trans h
      refine lv_iload_n hx hb d_Md_hole_13 rfl (lv_at hl 2 rfl) ?_
      refine lv_if_lt (tgt := 22) hx hb d_Md_hole_14 (by decide) (fun cn3 => ?_) (fun cn3 => ?_)
      · replace h := (if_pos cn3).symm.trans h
        exact B_Md_hole_22 C0 _ _ _ _ _ H locs ls hP hD hS (lv_sub hl [0, 1, 2] rfl) h
      · replace h := (if_neg cn3).symm.trans h
        refine lv_iload_n hx hb d_Md_hole_17 rfl (lv_at hl 2 rfl) ?_
        refine lv_iconst (v := 3) hx hb d_Md_hole_18 (by decide) ?_
        refine lv_icmp_le (tgt := 26) hx hb d_Md_hole_19 (by decide) (fun cn4 => ?_) (fun cn4 => ?_)
        · replace h := (if_pos cn4).symm.trans h
          refine lv_iconst (v := 0) hx hb d_Md_hole_26 (by decide) ?_
          exact B_Md_hole_27 C0 _ _ _ _ _ _ H locs ls hP hD hS (lv_sub hl [0, 1, 2] rfl) h
        · replace h := (if_neg cn4).symm.trans h
          exact B_Md_hole_22 C0 _ _ _ _ _ H locs ls hP hD hS (lv_sub hl [0, 1, 2] rfl) h
theorem K_Md_hole (l : Launch) (D : va_G) (a : Nat → Nat) (c9 : Nat → ClassId) (sz : Nat) {σ : kS} {x1 x2 : Int32} {r9 : Int32} {σo : kS} (h : M_Md_hole σ x1 x2 = some (r9, σo)) : Met l y_Md_hole (Cond.code y_Md_hole c_Md_hole 4 (some .int) :: kG) rm_Md_hole (k_Pc D a c9 sz σ [.ref (a 6), .int x1, .int x2]) (k_Qi D a c9 r9 σo (k_A a c9 σ sz)) 0 0 (k_A a c9 σ sz) :=
  k_met (Qf := k_Qi D a c9 r9 σo) (by decide) (Nat.le_of_ble_eq_true rfl) (fun p e s m args below meth c A ls C0 hP hD hS hl => B_Md_hole_0 C0 σ x1 x2 s.heap [] ls hP hD hS hl h)
def rm_Md_more : Room := { frames := 1, cells := 0, slots := 0, locals := 26 }
def M_Md_more_326 (σ : kS) (x1 x2 x3 x4 : Int32) : Option (Int32 × kS) := k_st σ 32 240 (x2) (vp_nar .boolean (1)) fun σ1 => some (1, σ1)
set_option maxHeartbeats 4000000 in
set_option maxRecDepth 100000 in
theorem B_Md_more_326 {p : Program} {l : Launch} {e : Env} {s : State} {m : MethodId} {args : Array Value} {below : List Frame} {meth : Method} {c : Code} {D : va_G} {a : Nat → Nat} {c9 : Nat → ClassId} {A : Nat → Prop} {r9 : Int32} {σo : kS} (C0 : k_Cx D c9 p s m args meth c R_Md c_Md_more 5 (some .boolean) A) (σ : kS) (x1 x2 x3 x4 : Int32) (H : Heap) (locs : List Loc) (ls : Array Slot) (hP : va_P D kcl (kw a c9 σ) H) (hD : va_D A (kw a c9 σ)) (hS : va_S A s.heap H locs) (hl : lv_has ls 5 [(0, .ref (a 6)), (1, .int x1), (2, .int x2), (3, .int x3), (4, .int x4)]) (h : M_Md_more_326 σ x1 x2 x3 x4 = some (r9, σo)) : W p l e rm_Md_more s m args below meth c H locs 0 0 (MQ below (k_Qi D a c9 r9 σo A) args s 0 0 A) (F0 m 326 ls []) := by
  obtain ⟨hx, hb, hml, hown, hts, hr, hlk, hK, hN, hA⟩ := id C0
  unfold M_Md_more_326 at h
  refine lv_aload_n hx hb d_Md_more_326 rfl (lv_at hl 0 rfl) ?_
  refine va_get (ci := 1) (C := R_Md) (T := T_Md) (N := 44) hx hb hts in_Md hown hK hP 6 kw_6 rfl 8 (by decide) (hts _ q_721) (fun _ h9 => h9) rfl d_Md_more_327 ?_
  refine lv_iload_n hx hb d_Md_more_330 rfl (lv_at hl 2 rfl) ?_
  refine lv_iconst (v := 1) hx hb d_Md_more_331 (by decide) ?_
  obtain ⟨σ1, eσ1, hiσ1, h⟩ := k_st_e h
  refine va_zast hx hb hK hP hD hS 39 1 kw_39 rfl hiσ1 d_Md_more_332 (fun H locs hP hD hS => ?_)
  replace hP := k_mvP (kw_s39.trans (congrArg _ eσ1.symm)) hP
  replace hD := k_mvD (kw_s39.trans (congrArg _ eσ1.symm)) hD
  refine lv_iconst (v := 1) hx hb d_Md_more_333 (by decide) ?_
  cases h
  exact k_zret (Or.inr rfl) hx hb hr hlk hP hS d_Md_more_334
def M_Md_more_275 (σ : kS) (x1 x2 x3 x4 y0 y1 : Int32) : Option (Int32 × kS) := k_st σ 31 240 (y1) (vp_nar .boolean (y0)) fun σ1 => k_ld (σ1.2.1 34) 240 (x1) fun v2 => k_ld (σ1.2.1 34) 240 (x2) fun v3 => k_st σ1 34 240 (x1) ((v2 + v3)) fun σ4 => k_ld (σ4.2.1 33) 240 (x2) fun v5 => k_ld (σ4.2.1 33) 240 (x1) fun v6 => if (v5 + 1) ≤ v6 then (M_Md_more_326 σ4 x1 x2 x3 x4) else (k_ld (σ4.2.1 33) 240 (x2) fun v8 => k_st σ4 33 240 (x1) ((v8 + 1)) fun σ9 => M_Md_more_326 σ9 x1 x2 x3 x4)
set_option maxHeartbeats 4000000 in
set_option maxRecDepth 100000 in
theorem B_Md_more_275 {p : Program} {l : Launch} {e : Env} {s : State} {m : MethodId} {args : Array Value} {below : List Frame} {meth : Method} {c : Code} {D : va_G} {a : Nat → Nat} {c9 : Nat → ClassId} {A : Nat → Prop} {r9 : Int32} {σo : kS} (C0 : k_Cx D c9 p s m args meth c R_Md c_Md_more 5 (some .boolean) A) (σ : kS) (x1 x2 x3 x4 y0 y1 : Int32) (H : Heap) (locs : List Loc) (ls : Array Slot) (hP : va_P D kcl (kw a c9 σ) H) (hD : va_D A (kw a c9 σ)) (hS : va_S A s.heap H locs) (hl : lv_has ls 5 [(0, .ref (a 6)), (1, .int x1), (2, .int x2), (3, .int x3), (4, .int x4)]) (h : M_Md_more_275 σ x1 x2 x3 x4 y0 y1 = some (r9, σo)) : W p l e rm_Md_more s m args below meth c H locs 0 0 (MQ below (k_Qi D a c9 r9 σo A) args s 0 0 A) (F0 m 275 ls [.int y0, .int y1, .ref (a 38)]) := by
  obtain ⟨hx, hb, hml, hown, hts, hr, hlk, hK, hN, hA⟩ := id C0
  unfold M_Md_more_275 at h
  obtain ⟨σ1, eσ1, hiσ1, h⟩ := k_st_e h
  refine va_zast hx hb hK hP hD hS 38 1 kw_38 rfl hiσ1 d_Md_more_275 (fun H locs hP hD hS => ?_)
  replace hP := k_mvP (kw_s38.trans (congrArg _ eσ1.symm)) hP
  replace hD := k_mvD (kw_s38.trans (congrArg _ eσ1.symm)) hD
  refine lv_aload_n hx hb d_Md_more_276 rfl (lv_at hl 0 rfl) ?_
  refine va_get (ci := 1) (C := R_Md) (T := T_Md) (N := 44) hx hb hts in_Md hown hK hP 6 kw_6 rfl 10 (by decide) (hts _ q_723) (fun _ h9 => h9) rfl d_Md_more_277 ?_
  refine lv_iload_n hx hb d_Md_more_280 rfl (lv_at hl 1 rfl) ?_
  refine lv_aload_n hx hb d_Md_more_281 rfl (lv_at hl 0 rfl) ?_
  refine va_get (ci := 1) (C := R_Md) (T := T_Md) (N := 44) hx hb hts in_Md hown hK hP 6 kw_6 rfl 10 (by decide) (hts _ q_723) (fun _ h9 => h9) rfl d_Md_more_282 ?_
  refine lv_iload_n hx hb d_Md_more_285 rfl (lv_at hl 1 rfl) ?_
  obtain ⟨v2, ev2, hv2, h⟩ := k_ld_e h
  refine va_iald hx hb hK hP 41 0 kw_41 rfl hv2 d_Md_more_286 (k_top ev2 ?_)
  refine lv_aload_n hx hb d_Md_more_287 rfl (lv_at hl 0 rfl) ?_
  refine va_get (ci := 1) (C := R_Md) (T := T_Md) (N := 44) hx hb hts in_Md hown hK hP 6 kw_6 rfl 10 (by decide) (hts _ q_723) (fun _ h9 => h9) rfl d_Md_more_288 ?_
  refine lv_iload_n hx hb d_Md_more_291 rfl (lv_at hl 2 rfl) ?_
  obtain ⟨v3, ev3, hv3, h⟩ := k_ld_e h
  refine va_iald hx hb hK hP 41 0 kw_41 rfl hv3 d_Md_more_292 (k_top ev3 ?_)
  refine lv_iadd hx hb d_Md_more_293 ?_
  obtain ⟨σ4, eσ4, hiσ4, h⟩ := k_st_e h
  refine va_iast hx hb hK hP hD hS 41 0 kw_41 rfl hiσ4 d_Md_more_294 (fun H locs hP hD hS => ?_)
  replace hP := k_mvP (kw_s41.trans (congrArg _ eσ4.symm)) hP
  replace hD := k_mvD (kw_s41.trans (congrArg _ eσ4.symm)) hD
  refine lv_aload_n hx hb d_Md_more_295 rfl (lv_at hl 0 rfl) ?_
  refine va_get (ci := 1) (C := R_Md) (T := T_Md) (N := 44) hx hb hts in_Md hown hK hP 6 kw_6 rfl 9 (by decide) (hts _ q_722) (fun _ h9 => h9) rfl d_Md_more_296 ?_
  refine lv_iload_n hx hb d_Md_more_299 rfl (lv_at hl 2 rfl) ?_
  obtain ⟨v5, ev5, hv5, h⟩ := k_ld_e h
  refine va_iald hx hb hK hP 40 0 kw_40 rfl hv5 d_Md_more_300 (k_top ev5 ?_)
  refine lv_iconst (v := 1) hx hb d_Md_more_301 (by decide) ?_
  refine lv_iadd hx hb d_Md_more_302 ?_
  refine lv_aload_n hx hb d_Md_more_303 rfl (lv_at hl 0 rfl) ?_
  refine va_get (ci := 1) (C := R_Md) (T := T_Md) (N := 44) hx hb hts in_Md hown hK hP 6 kw_6 rfl 9 (by decide) (hts _ q_722) (fun _ h9 => h9) rfl d_Md_more_304 ?_
  refine lv_iload_n hx hb d_Md_more_307 rfl (lv_at hl 1 rfl) ?_
  obtain ⟨v6, ev6, hv6, h⟩ := k_ld_e h
  refine va_iald hx hb hK hP 40 0 kw_40 rfl hv6 d_Md_more_308 (k_top ev6 ?_)
  refine lv_icmp_le (tgt := 326) hx hb d_Md_more_309 (by decide) (fun cn7 => ?_) (fun cn7 => ?_)
  · replace h := (if_pos cn7).symm.trans h
    exact B_Md_more_326 C0 _ _ _ _ _ H locs ls hP hD hS (lv_sub hl [0, 1, 2, 3, 4] rfl) h
  · replace h := (if_neg cn7).symm.trans h
    refine lv_aload_n hx hb d_Md_more_312 rfl (lv_at hl 0 rfl) ?_
    refine va_get (ci := 1) (C := R_Md) (T := T_Md) (N := 44) hx hb hts in_Md hown hK hP 6 kw_6 rfl 9 (by decide) (hts _ q_722) (fun _ h9 => h9) rfl d_Md_more_313 ?_
    refine lv_iload_n hx hb d_Md_more_316 rfl (lv_at hl 1 rfl) ?_
    refine lv_aload_n hx hb d_Md_more_317 rfl (lv_at hl 0 rfl) ?_
    refine va_get (ci := 1) (C := R_Md) (T := T_Md) (N := 44) hx hb hts in_Md hown hK hP 6 kw_6 rfl 9 (by decide) (hts _ q_722) (fun _ h9 => h9) rfl d_Md_more_318 ?_
    refine lv_iload_n hx hb d_Md_more_321 rfl (lv_at hl 2 rfl) ?_
    obtain ⟨v8, ev8, hv8, h⟩ := k_ld_e h
    refine va_iald hx hb hK hP 40 0 kw_40 rfl hv8 d_Md_more_322 (k_top ev8 ?_)
    refine lv_iconst (v := 1) hx hb d_Md_more_323 (by decide) ?_
    refine lv_iadd hx hb d_Md_more_324 ?_
    obtain ⟨σ9, eσ9, hiσ9, h⟩ := k_st_e h
    refine va_iast hx hb hK hP hD hS 40 0 kw_40 rfl hiσ9 d_Md_more_325 (fun H locs hP hD hS => ?_)
    replace hP := k_mvP (kw_s40.trans (congrArg _ eσ9.symm)) hP
    replace hD := k_mvD (kw_s40.trans (congrArg _ eσ9.symm)) hD
    exact B_Md_more_326 C0 _ _ _ _ _ H locs ls hP hD hS (lv_sub hl [0, 1, 2, 3, 4] rfl) h
def M_Md_more_274 (σ : kS) (x1 x2 x3 x4 y0 : Int32) : Option (Int32 × kS) := M_Md_more_275 σ x1 x2 x3 x4 0 y0
set_option maxHeartbeats 4000000 in
set_option maxRecDepth 100000 in
theorem B_Md_more_274 {p : Program} {l : Launch} {e : Env} {s : State} {m : MethodId} {args : Array Value} {below : List Frame} {meth : Method} {c : Code} {D : va_G} {a : Nat → Nat} {c9 : Nat → ClassId} {A : Nat → Prop} {r9 : Int32} {σo : kS} (C0 : k_Cx D c9 p s m args meth c R_Md c_Md_more 5 (some .boolean) A) (σ : kS) (x1 x2 x3 x4 y0 : Int32) (H : Heap) (locs : List Loc) (ls : Array Slot) (hP : va_P D kcl (kw a c9 σ) H) (hD : va_D A (kw a c9 σ)) (hS : va_S A s.heap H locs) (hl : lv_has ls 5 [(0, .ref (a 6)), (1, .int x1), (2, .int x2), (3, .int x3), (4, .int x4)]) (h : M_Md_more_274 σ x1 x2 x3 x4 y0 = some (r9, σo)) : W p l e rm_Md_more s m args below meth c H locs 0 0 (MQ below (k_Qi D a c9 r9 σo A) args s 0 0 A) (F0 m 274 ls [.int y0, .ref (a 38)]) := by
  obtain ⟨hx, hb, hml, hown, hts, hr, hlk, hK, hN, hA⟩ := id C0
  unfold M_Md_more_274 at h
  refine lv_iconst (v := 0) hx hb d_Md_more_274 (by decide) ?_
  exact B_Md_more_275 C0 _ _ _ _ _ _ _ H locs ls hP hD hS (lv_sub hl [0, 1, 2, 3, 4] rfl) h
def M_Md_more_220 (σ : kS) (x1 x2 x3 x4 : Int32) : Option (Int32 × kS) := k_st σ 30 2880 (((12 * x1) + x4)) (x2) fun σ1 => k_ld (σ1.2.1 29) 240 (x1) fun v2 => k_st σ1 29 240 (x1) ((v2 + 1)) fun σ3 => k_ld (σ3.2.1 31) 240 (x1) fun v4 => if v4 = 0 then (M_Md_more_274 σ3 x1 x2 x3 x4 x1) else (k_ld (σ3.2.1 31) 240 (x2) fun v6 => if v6 = 0 then (M_Md_more_274 σ3 x1 x2 x3 x4 x1) else (M_Md_more_275 σ3 x1 x2 x3 x4 1 x1))
set_option maxHeartbeats 4000000 in
set_option maxRecDepth 100000 in
theorem B_Md_more_220 {p : Program} {l : Launch} {e : Env} {s : State} {m : MethodId} {args : Array Value} {below : List Frame} {meth : Method} {c : Code} {D : va_G} {a : Nat → Nat} {c9 : Nat → ClassId} {A : Nat → Prop} {r9 : Int32} {σo : kS} (C0 : k_Cx D c9 p s m args meth c R_Md c_Md_more 5 (some .boolean) A) (σ : kS) (x1 x2 x3 x4 : Int32) (H : Heap) (locs : List Loc) (ls : Array Slot) (hP : va_P D kcl (kw a c9 σ) H) (hD : va_D A (kw a c9 σ)) (hS : va_S A s.heap H locs) (hl : lv_has ls 5 [(0, .ref (a 6)), (1, .int x1), (2, .int x2), (3, .int x3), (4, .int x4)]) (h : M_Md_more_220 σ x1 x2 x3 x4 = some (r9, σo)) : W p l e rm_Md_more s m args below meth c H locs 0 0 (MQ below (k_Qi D a c9 r9 σo A) args s 0 0 A) (F0 m 220 ls []) := by
  obtain ⟨hx, hb, hml, hown, hts, hr, hlk, hK, hN, hA⟩ := id C0
  unfold M_Md_more_220 at h
  refine lv_aload_n hx hb d_Md_more_220 rfl (lv_at hl 0 rfl) ?_
  refine va_get (ci := 1) (C := R_Md) (T := T_Md) (N := 44) hx hb hts in_Md hown hK hP 6 kw_6 rfl 6 (by decide) (hts _ q_719) (fun _ h9 => h9) rfl d_Md_more_221 ?_
  refine lv_bipush (v := 12) hx hb d_Md_more_224 (by decide) ?_
  refine lv_iload_n hx hb d_Md_more_226 rfl (lv_at hl 1 rfl) ?_
  refine lv_imul hx hb d_Md_more_227 ?_
  refine lv_iload hx hb d_Md_more_228 (lv_at hl 4 rfl) ?_
  refine lv_iadd hx hb d_Md_more_230 ?_
  refine lv_iload_n hx hb d_Md_more_231 rfl (lv_at hl 2 rfl) ?_
  obtain ⟨σ1, eσ1, hiσ1, h⟩ := k_st_e h
  refine va_iast hx hb hK hP hD hS 37 0 kw_37 rfl hiσ1 d_Md_more_232 (fun H locs hP hD hS => ?_)
  replace hP := k_mvP (kw_s37.trans (congrArg _ eσ1.symm)) hP
  replace hD := k_mvD (kw_s37.trans (congrArg _ eσ1.symm)) hD
  refine lv_aload_n hx hb d_Md_more_233 rfl (lv_at hl 0 rfl) ?_
  refine va_get (ci := 1) (C := R_Md) (T := T_Md) (N := 44) hx hb hts in_Md hown hK hP 6 kw_6 rfl 5 (by decide) (hts _ q_718) (fun _ h9 => h9) rfl d_Md_more_234 ?_
  refine lv_iload_n hx hb d_Md_more_237 rfl (lv_at hl 1 rfl) ?_
  refine lv_aload_n hx hb d_Md_more_238 rfl (lv_at hl 0 rfl) ?_
  refine va_get (ci := 1) (C := R_Md) (T := T_Md) (N := 44) hx hb hts in_Md hown hK hP 6 kw_6 rfl 5 (by decide) (hts _ q_718) (fun _ h9 => h9) rfl d_Md_more_239 ?_
  refine lv_iload_n hx hb d_Md_more_242 rfl (lv_at hl 1 rfl) ?_
  obtain ⟨v2, ev2, hv2, h⟩ := k_ld_e h
  refine va_iald hx hb hK hP 36 0 kw_36 rfl hv2 d_Md_more_243 (k_top ev2 ?_)
  refine lv_iconst (v := 1) hx hb d_Md_more_244 (by decide) ?_
  refine lv_iadd hx hb d_Md_more_245 ?_
  obtain ⟨σ3, eσ3, hiσ3, h⟩ := k_st_e h
  refine va_iast hx hb hK hP hD hS 36 0 kw_36 rfl hiσ3 d_Md_more_246 (fun H locs hP hD hS => ?_)
  replace hP := k_mvP (kw_s36.trans (congrArg _ eσ3.symm)) hP
  replace hD := k_mvD (kw_s36.trans (congrArg _ eσ3.symm)) hD
  refine lv_aload_n hx hb d_Md_more_247 rfl (lv_at hl 0 rfl) ?_
  refine va_get (ci := 1) (C := R_Md) (T := T_Md) (N := 44) hx hb hts in_Md hown hK hP 6 kw_6 rfl 7 (by decide) (hts _ q_720) (fun _ h9 => h9) rfl d_Md_more_248 ?_
  refine lv_iload_n hx hb d_Md_more_251 rfl (lv_at hl 1 rfl) ?_
  refine lv_aload_n hx hb d_Md_more_252 rfl (lv_at hl 0 rfl) ?_
  refine va_get (ci := 1) (C := R_Md) (T := T_Md) (N := 44) hx hb hts in_Md hown hK hP 6 kw_6 rfl 7 (by decide) (hts _ q_720) (fun _ h9 => h9) rfl d_Md_more_253 ?_
  refine lv_iload_n hx hb d_Md_more_256 rfl (lv_at hl 1 rfl) ?_
  obtain ⟨v4, ev4, hv4, h⟩ := k_ld_e h
  refine va_zald hx hb hK hP 38 1 kw_38 rfl hv4 d_Md_more_257 (k_top ev4 ?_)
  refine lv_if_eq (tgt := 274) hx hb d_Md_more_258 (by decide) (fun cn5 => ?_) (fun cn5 => ?_)
  · replace h := (if_pos cn5).symm.trans h
    exact B_Md_more_274 C0 _ _ _ _ _ _ H locs ls hP hD hS (lv_sub hl [0, 1, 2, 3, 4] rfl) h
  · replace h := (if_neg cn5).symm.trans h
    refine lv_aload_n hx hb d_Md_more_261 rfl (lv_at hl 0 rfl) ?_
    refine va_get (ci := 1) (C := R_Md) (T := T_Md) (N := 44) hx hb hts in_Md hown hK hP 6 kw_6 rfl 7 (by decide) (hts _ q_720) (fun _ h9 => h9) rfl d_Md_more_262 ?_
    refine lv_iload_n hx hb d_Md_more_265 rfl (lv_at hl 2 rfl) ?_
    obtain ⟨v6, ev6, hv6, h⟩ := k_ld_e h
    refine va_zald hx hb hK hP 38 1 kw_38 rfl hv6 d_Md_more_266 (k_top ev6 ?_)
    refine lv_if_eq (tgt := 274) hx hb d_Md_more_267 (by decide) (fun cn7 => ?_) (fun cn7 => ?_)
    · replace h := (if_pos cn7).symm.trans h
      exact B_Md_more_274 C0 _ _ _ _ _ _ H locs ls hP hD hS (lv_sub hl [0, 1, 2, 3, 4] rfl) h
    · replace h := (if_neg cn7).symm.trans h
      refine lv_iconst (v := 1) hx hb d_Md_more_270 (by decide) ?_
      refine lv_goto (tgt := 275) hx hb d_Md_more_271 (by decide) ?_
      exact B_Md_more_275 C0 _ _ _ _ _ _ _ H locs ls hP hD hS (lv_sub hl [0, 1, 2, 3, 4] rfl) h
def M_Md_more_161_b (self9 : kS → Int32 → Int32 → Int32 → Int32 → Option (Int32 × kS)) (σ : kS) (x1 x2 x3 x4 : Int32) : Option (Int32 × kS) := if x4 ≤ 0 then (M_Md_more_220 σ x1 x2 x3 x4) else (k_ld (σ.2.1 30) 2880 ((((12 * x1) + x4) - 1)) fun v2 => k_call (M_Md_compare σ v2 x2) fun v3 σ4 => if v3 ≤ 0 then (M_Md_more_220 σ4 x1 x2 x3 x4) else (k_ld (σ4.2.1 30) 2880 ((((12 * x1) + x4) - 1)) fun v7 => k_st σ4 30 2880 (((12 * x1) + x4)) (v7) fun σ8 => k_let (x4 + (-1)) fun v9 => self9 σ8 x1 x2 x3 v9))
def M_Md_more_161 : Nat → kS → Int32 → Int32 → Int32 → Int32 → Option (Int32 × kS)
  | 0 => fun _ _ _ _ _ => none
  | n + 1 => M_Md_more_161_b (M_Md_more_161 n)
set_option maxHeartbeats 4000000 in
set_option maxRecDepth 100000 in
theorem B_Md_more_161 {p : Program} {l : Launch} {e : Env} {s : State} {m : MethodId} {args : Array Value} {below : List Frame} {meth : Method} {c : Code} {D : va_G} {a : Nat → Nat} {c9 : Nat → ClassId} {A : Nat → Prop} {r9 : Int32} {σo : kS} (C0 : k_Cx D c9 p s m args meth c R_Md c_Md_more 5 (some .boolean) A) : ∀ (n : Nat) (σ : kS) (x1 x2 x3 x4 : Int32) (H : Heap) (locs : List Loc) (ls : Array Slot), va_P D kcl (kw a c9 σ) H → va_D A (kw a c9 σ) → va_S A s.heap H locs → lv_has ls 5 [(0, .ref (a 6)), (1, .int x1), (2, .int x2), (3, .int x3), (4, .int x4)] → M_Md_more_161 n σ x1 x2 x3 x4 = some (r9, σo) → W p l e rm_Md_more s m args below meth c H locs 0 0 (MQ below (k_Qi D a c9 r9 σo A) args s 0 0 A) (F0 m 161 ls []) := by
  obtain ⟨hx, hb, hml, hown, hts, hr, hlk, hK, hN, hA⟩ := id C0
  intro n
  induction n with
  | zero =>
    intro σ x1 x2 x3 x4 H locs ls hP hD hS hl h
    replace h : (none : Option (Int32 × kS)) = some (r9, σo) := h
    cases h
  | succ n ih =>
    intro σ x1 x2 x3 x4 H locs ls hP hD hS hl h
    replace h : M_Md_more_161_b (M_Md_more_161 n) σ x1 x2 x3 x4 = some (r9, σo) := h
    unfold M_Md_more_161_b at h
    refine lv_iload hx hb d_Md_more_161 (lv_at hl 4 rfl) ?_
    refine lv_if_le (tgt := 220) hx hb d_Md_more_163 (by decide) (fun cn1 => ?_) (fun cn1 => ?_)
    · replace h := (if_pos cn1).symm.trans h
      exact B_Md_more_220 C0 _ _ _ _ _ H locs ls hP hD hS (lv_sub hl [0, 1, 2, 3, 4] rfl) h
    · replace h := (if_neg cn1).symm.trans h
      refine lv_aload_n hx hb d_Md_more_166 rfl (lv_at hl 0 rfl) ?_
      refine lv_aload_n hx hb d_Md_more_167 rfl (lv_at hl 0 rfl) ?_
      refine va_get (ci := 1) (C := R_Md) (T := T_Md) (N := 44) hx hb hts in_Md hown hK hP 6 kw_6 rfl 6 (by decide) (hts _ q_719) (fun _ h9 => h9) rfl d_Md_more_168 ?_
      refine lv_bipush (v := 12) hx hb d_Md_more_171 (by decide) ?_
      refine lv_iload_n hx hb d_Md_more_173 rfl (lv_at hl 1 rfl) ?_
      refine lv_imul hx hb d_Md_more_174 ?_
      refine lv_iload hx hb d_Md_more_175 (lv_at hl 4 rfl) ?_
      refine lv_iadd hx hb d_Md_more_177 ?_
      refine lv_iconst (v := 1) hx hb d_Md_more_178 (by decide) ?_
      refine lv_isub hx hb d_Md_more_179 ?_
      obtain ⟨v2, ev2, hv2, h⟩ := k_ld_e h
      refine va_iald hx hb hK hP 37 0 kw_37 rfl hv2 d_Md_more_180 (k_top ev2 ?_)
      refine lv_iload_n hx hb d_Md_more_181 rfl (lv_at hl 2 rfl) ?_
      obtain ⟨v3, σ4, hc5, h⟩ := k_call_e h
      refine k_calli (va_runV (As := [.int v2, .int x2]) (rest := []) ⟨hx, hb, hml, hown, hts⟩ (K_Md_compare l D a c9 H.size hc5) (cwV 2 hts (k_gV q_877 q_879 s_20 q_7 q_880) rfl rfl rfl h_Md_compare ⟨Nat.le_of_ble_eq_true rfl, Nat.le_of_ble_eq_true rfl⟩) (k_preV (ci := 1) (q0 := 6) rfl kw_6 hP hK hN hD) rfl rfl hl.1 rfl (lv_room (Nat.le_of_ble_eq_true rfl)) d_Md_more_182 ⟨Nat.zero_le _, Nat.zero_le _⟩) hD hS hA (fun H locs hP hD hS => ?_)
      refine lv_if_le (tgt := 220) hx hb d_Md_more_185 (by decide) (fun cn6 => ?_) (fun cn6 => ?_)
      · replace h := (if_pos cn6).symm.trans h
        exact B_Md_more_220 C0 _ _ _ _ _ H locs ls hP hD hS (lv_sub hl [0, 1, 2, 3, 4] rfl) h
      · replace h := (if_neg cn6).symm.trans h
        refine lv_aload_n hx hb d_Md_more_188 rfl (lv_at hl 0 rfl) ?_
        refine va_get (ci := 1) (C := R_Md) (T := T_Md) (N := 44) hx hb hts in_Md hown hK hP 6 kw_6 rfl 6 (by decide) (hts _ q_719) (fun _ h9 => h9) rfl d_Md_more_189 ?_
        refine lv_bipush (v := 12) hx hb d_Md_more_192 (by decide) ?_
        refine lv_iload_n hx hb d_Md_more_194 rfl (lv_at hl 1 rfl) ?_
        refine lv_imul hx hb d_Md_more_195 ?_
        refine lv_iload hx hb d_Md_more_196 (lv_at hl 4 rfl) ?_
        refine lv_iadd hx hb d_Md_more_198 ?_
        refine lv_aload_n hx hb d_Md_more_199 rfl (lv_at hl 0 rfl) ?_
        refine va_get (ci := 1) (C := R_Md) (T := T_Md) (N := 44) hx hb hts in_Md hown hK hP 6 kw_6 rfl 6 (by decide) (hts _ q_719) (fun _ h9 => h9) rfl d_Md_more_200 ?_
        refine lv_bipush (v := 12) hx hb d_Md_more_203 (by decide) ?_
        refine lv_iload_n hx hb d_Md_more_205 rfl (lv_at hl 1 rfl) ?_
        refine lv_imul hx hb d_Md_more_206 ?_
        refine lv_iload hx hb d_Md_more_207 (lv_at hl 4 rfl) ?_
        refine lv_iadd hx hb d_Md_more_209 ?_
        refine lv_iconst (v := 1) hx hb d_Md_more_210 (by decide) ?_
        refine lv_isub hx hb d_Md_more_211 ?_
        obtain ⟨v7, ev7, hv7, h⟩ := k_ld_e h
        refine va_iald hx hb hK hP 37 0 kw_37 rfl hv7 d_Md_more_212 (k_top ev7 ?_)
        obtain ⟨σ8, eσ8, hiσ8, h⟩ := k_st_e h
        refine va_iast hx hb hK hP hD hS 37 0 kw_37 rfl hiσ8 d_Md_more_213 (fun H locs hP hD hS => ?_)
        replace hP := k_mvP (kw_s37.trans (congrArg _ eσ8.symm)) hP
        replace hD := k_mvD (kw_s37.trans (congrArg _ eσ8.symm)) hD
        obtain ⟨v9, ev9, h⟩ := k_let_e h
        refine lv_iinc (v := v9) (lv' := [(4, .int v9), (0, .ref (a 6)), (1, .int x1), (2, .int x2), (3, .int x3)]) hx hb d_Md_more_214 hl (k := 4) rfl (by rw [ev9]; rfl) (by decide) rfl (fun ls hl => ?_)
        refine lv_goto (tgt := 161) hx hb d_Md_more_217 (by decide) ?_
        exact ih _ _ _ _ _ H locs ls hP hD hS (lv_sub hl [1, 2, 3, 4, 0] rfl) h
def M_Md_more_103 (σ : kS) (x1 x2 x3 y0 : Int32) : Option (Int32 × kS) := k_set σ 10 (y0) fun σ1 => if x3 = 0 then (k_ld (σ1.2.1 29) 240 (x1) fun v3 => if v3 = 12 then (some (0, σ1)) else (k_ld (σ1.2.1 29) 240 (x1) fun v5 => k_ld (σ1.2.1 27) 240 (x1) fun v6 => k_call (M_Md_anyOrder σ1 v6) fun v7 σ8 => if v7 = 0 then (M_Md_more_220 σ8 x1 x2 x3 v5) else (k_ld (σ8.2.1 31) 240 (x1) fun v11 => if v11 = 0 then (M_Md_more_220 σ8 x1 x2 x3 v5) else (k_ld (σ8.2.1 31) 240 (x2) fun v13 => if v13 = 0 then (M_Md_more_220 σ8 x1 x2 x3 v5) else (M_Md_more_161 k_fu σ8 x1 x2 x3 v5))))) else (some (0, σ1))
set_option maxHeartbeats 4000000 in
set_option maxRecDepth 100000 in
theorem B_Md_more_103 {p : Program} {l : Launch} {e : Env} {s : State} {m : MethodId} {args : Array Value} {below : List Frame} {meth : Method} {c : Code} {D : va_G} {a : Nat → Nat} {c9 : Nat → ClassId} {A : Nat → Prop} {r9 : Int32} {σo : kS} (C0 : k_Cx D c9 p s m args meth c R_Md c_Md_more 5 (some .boolean) A) (σ : kS) (x1 x2 x3 y0 : Int32) (H : Heap) (locs : List Loc) (ls : Array Slot) (hP : va_P D kcl (kw a c9 σ) H) (hD : va_D A (kw a c9 σ)) (hS : va_S A s.heap H locs) (hl : lv_has ls 5 [(0, .ref (a 6)), (1, .int x1), (2, .int x2), (3, .int x3)]) (h : M_Md_more_103 σ x1 x2 x3 y0 = some (r9, σo)) : W p l e rm_Md_more s m args below meth c H locs 0 0 (MQ below (k_Qi D a c9 r9 σo A) args s 0 0 A) (F0 m 103 ls [.int y0, .ref (a 6)]) := by
  obtain ⟨hx, hb, hml, hown, hts, hr, hlk, hK, hN, hA⟩ := id C0
  unfold M_Md_more_103 at h
  obtain ⟨σ1, eσ1, h⟩ := k_set_e h
  refine va_put (ci := 1) (v := .int y0) (ty := .int) (C := R_Md) (T := T_Md) (N := 44) hx hb hts in_Md t_Md t_Md_ok n_Md hown hK hP hD hS 6 kw_6 rfl 0 (by decide) (hts _ q_713) (fun _ h9 => h9) rfl (by decide +kernel) rfl rfl (Nat.le_of_ble_eq_true rfl) d_Md_more_103 (fun H locs hP hD hS => ?_)
  replace hP := k_mvP (kw_f6_0.trans (congrArg _ eσ1.symm)) hP
  replace hD := k_mvD (kw_f6_0.trans (congrArg _ eσ1.symm)) hD
  refine lv_iload_n hx hb d_Md_more_106 rfl (lv_at hl 3 rfl) ?_
  refine lv_if_ne (tgt := 121) hx hb d_Md_more_107 (by decide) (fun cn2 => ?_) (fun cn2 => ?_)
  · replace h := (if_neg cn2).symm.trans h
    refine lv_iconst (v := 0) hx hb d_Md_more_121 (by decide) ?_
    cases h
    exact k_zret (Or.inl rfl) hx hb hr hlk hP hS d_Md_more_122
  · replace h := (if_pos cn2).symm.trans h
    refine lv_aload_n hx hb d_Md_more_110 rfl (lv_at hl 0 rfl) ?_
    refine va_get (ci := 1) (C := R_Md) (T := T_Md) (N := 44) hx hb hts in_Md hown hK hP 6 kw_6 rfl 5 (by decide) (hts _ q_718) (fun _ h9 => h9) rfl d_Md_more_111 ?_
    refine lv_iload_n hx hb d_Md_more_114 rfl (lv_at hl 1 rfl) ?_
    obtain ⟨v3, ev3, hv3, h⟩ := k_ld_e h
    refine va_iald hx hb hK hP 36 0 kw_36 rfl hv3 d_Md_more_115 (k_top ev3 ?_)
    refine lv_bipush (v := 12) hx hb d_Md_more_116 (by decide) ?_
    refine lv_icmp_ne (tgt := 123) hx hb d_Md_more_118 (by decide) (fun cn4 => ?_) (fun cn4 => ?_)
    · replace h := (if_neg cn4).symm.trans h
      refine lv_aload_n hx hb d_Md_more_123 rfl (lv_at hl 0 rfl) ?_
      refine va_get (ci := 1) (C := R_Md) (T := T_Md) (N := 44) hx hb hts in_Md hown hK hP 6 kw_6 rfl 5 (by decide) (hts _ q_718) (fun _ h9 => h9) rfl d_Md_more_124 ?_
      refine lv_iload_n hx hb d_Md_more_127 rfl (lv_at hl 1 rfl) ?_
      obtain ⟨v5, ev5, hv5, h⟩ := k_ld_e h
      refine va_iald hx hb hK hP 36 0 kw_36 rfl hv5 d_Md_more_128 (k_top ev5 ?_)
      refine lv_istore (lv' := [(4, .int v5), (0, .ref (a 6)), (1, .int x1), (2, .int x2), (3, .int x3)]) hx hb d_Md_more_129 hl (by decide) rfl (fun ls hl => ?_)
      refine lv_aload_n hx hb d_Md_more_131 rfl (lv_at hl 1 rfl) ?_
      refine va_get (ci := 1) (C := R_Md) (T := T_Md) (N := 44) hx hb hts in_Md hown hK hP 6 kw_6 rfl 3 (by decide) (hts _ q_716) (fun _ h9 => h9) rfl d_Md_more_132 ?_
      refine lv_iload_n hx hb d_Md_more_135 rfl (lv_at hl 2 rfl) ?_
      obtain ⟨v6, ev6, hv6, h⟩ := k_ld_e h
      refine va_iald hx hb hK hP 34 0 kw_34 rfl hv6 d_Md_more_136 (k_top ev6 ?_)
      obtain ⟨v7, σ8, hc9, h⟩ := k_call_e h
      refine k_calli (va_runS (As := [.int v6]) (rest := []) ⟨hx, hb, hml, hown, hts⟩ (K_Md_anyOrder l D a c9 H.size hc9) (va_cwS 1 hts (k_gS q_874 q_875 q_7 q_876) rfl rfl rfl h_Md_anyOrder.2 ⟨Nat.le_of_ble_eq_true rfl, Nat.le_of_ble_eq_true rfl⟩) (k_preS hP hK hN hD) rfl rfl hl.1 rfl (lv_room (Nat.le_of_ble_eq_true rfl)) d_Md_more_137 ⟨Nat.zero_le _, Nat.zero_le _⟩) hD hS hA (fun H locs hP hD hS => ?_)
      refine lv_if_eq (tgt := 220) hx hb d_Md_more_140 (by decide) (fun cn10 => ?_) (fun cn10 => ?_)
      · replace h := (if_pos cn10).symm.trans h
        exact B_Md_more_220 C0 _ _ _ _ _ H locs ls hP hD hS (lv_sub hl [1, 2, 3, 4, 0] rfl) h
      · replace h := (if_neg cn10).symm.trans h
        refine lv_aload_n hx hb d_Md_more_143 rfl (lv_at hl 1 rfl) ?_
        refine va_get (ci := 1) (C := R_Md) (T := T_Md) (N := 44) hx hb hts in_Md hown hK hP 6 kw_6 rfl 7 (by decide) (hts _ q_720) (fun _ h9 => h9) rfl d_Md_more_144 ?_
        refine lv_iload_n hx hb d_Md_more_147 rfl (lv_at hl 2 rfl) ?_
        obtain ⟨v11, ev11, hv11, h⟩ := k_ld_e h
        refine va_zald hx hb hK hP 38 1 kw_38 rfl hv11 d_Md_more_148 (k_top ev11 ?_)
        refine lv_if_eq (tgt := 220) hx hb d_Md_more_149 (by decide) (fun cn12 => ?_) (fun cn12 => ?_)
        · replace h := (if_pos cn12).symm.trans h
          exact B_Md_more_220 C0 _ _ _ _ _ H locs ls hP hD hS (lv_sub hl [1, 2, 3, 4, 0] rfl) h
        · replace h := (if_neg cn12).symm.trans h
          refine lv_aload_n hx hb d_Md_more_152 rfl (lv_at hl 1 rfl) ?_
          refine va_get (ci := 1) (C := R_Md) (T := T_Md) (N := 44) hx hb hts in_Md hown hK hP 6 kw_6 rfl 7 (by decide) (hts _ q_720) (fun _ h9 => h9) rfl d_Md_more_153 ?_
          refine lv_iload_n hx hb d_Md_more_156 rfl (lv_at hl 3 rfl) ?_
          obtain ⟨v13, ev13, hv13, h⟩ := k_ld_e h
          refine va_zald hx hb hK hP 38 1 kw_38 rfl hv13 d_Md_more_157 (k_top ev13 ?_)
          refine lv_if_eq (tgt := 220) hx hb d_Md_more_158 (by decide) (fun cn14 => ?_) (fun cn14 => ?_)
          · replace h := (if_pos cn14).symm.trans h
            exact B_Md_more_220 C0 _ _ _ _ _ H locs ls hP hD hS (lv_sub hl [1, 2, 3, 4, 0] rfl) h
          · replace h := (if_neg cn14).symm.trans h
            exact B_Md_more_161 C0 k_fu _ _ _ _ _ H locs ls hP hD hS (lv_sub hl [1, 2, 3, 4, 0] rfl) h
    · replace h := (if_pos cn4).symm.trans h
      refine lv_iconst (v := 0) hx hb d_Md_more_121 (by decide) ?_
      cases h
      exact k_zret (Or.inl rfl) hx hb hr hlk hP hS d_Md_more_122
def M_Md_more_92 (σ : kS) (x1 x2 y0 : Int32) : Option (Int32 × kS) := if y0 = 0 then (M_Md_more_103 σ x1 x2 y0 0) else (M_Md_more_103 σ x1 x2 y0 2)
set_option maxHeartbeats 4000000 in
set_option maxRecDepth 100000 in
theorem B_Md_more_92 {p : Program} {l : Launch} {e : Env} {s : State} {m : MethodId} {args : Array Value} {below : List Frame} {meth : Method} {c : Code} {D : va_G} {a : Nat → Nat} {c9 : Nat → ClassId} {A : Nat → Prop} {r9 : Int32} {σo : kS} (C0 : k_Cx D c9 p s m args meth c R_Md c_Md_more 5 (some .boolean) A) (σ : kS) (x1 x2 y0 : Int32) (H : Heap) (locs : List Loc) (ls : Array Slot) (hP : va_P D kcl (kw a c9 σ) H) (hD : va_D A (kw a c9 σ)) (hS : va_S A s.heap H locs) (hl : lv_has ls 5 [(0, .ref (a 6)), (1, .int x1), (2, .int x2)]) (h : M_Md_more_92 σ x1 x2 y0 = some (r9, σo)) : W p l e rm_Md_more s m args below meth c H locs 0 0 (MQ below (k_Qi D a c9 r9 σo A) args s 0 0 A) (F0 m 92 ls [.int y0]) := by
  obtain ⟨hx, hb, hml, hown, hts, hr, hlk, hK, hN, hA⟩ := id C0
  unfold M_Md_more_92 at h
  refine lv_istore_n (lv' := [(3, .int y0), (0, .ref (a 6)), (1, .int x1), (2, .int x2)]) hx hb d_Md_more_92 rfl hl (by decide) rfl (fun ls hl => ?_)
  refine lv_aload_n hx hb d_Md_more_93 rfl (lv_at hl 1 rfl) ?_
  refine lv_iload_n hx hb d_Md_more_94 rfl (lv_at hl 0 rfl) ?_
  refine lv_if_eq (tgt := 102) hx hb d_Md_more_95 (by decide) (fun cn1 => ?_) (fun cn1 => ?_)
  · replace h := (if_pos cn1).symm.trans h
    refine lv_iconst (v := 0) hx hb d_Md_more_102 (by decide) ?_
    exact B_Md_more_103 C0 _ _ _ _ _ H locs ls hP hD hS (lv_sub hl [1, 2, 3, 0] rfl) h
  · replace h := (if_neg cn1).symm.trans h
    refine lv_iconst (v := 2) hx hb d_Md_more_98 (by decide) ?_
    refine lv_goto (tgt := 103) hx hb d_Md_more_99 (by decide) ?_
    exact B_Md_more_103 C0 _ _ _ _ _ H locs ls hP hD hS (lv_sub hl [1, 2, 3, 0] rfl) h
def M_Md_more_87 (σ : kS) (x1 x2 : Int32) : Option (Int32 × kS) := M_Md_more_92 σ x1 x2 1
set_option maxHeartbeats 4000000 in
set_option maxRecDepth 100000 in
theorem B_Md_more_87 {p : Program} {l : Launch} {e : Env} {s : State} {m : MethodId} {args : Array Value} {below : List Frame} {meth : Method} {c : Code} {D : va_G} {a : Nat → Nat} {c9 : Nat → ClassId} {A : Nat → Prop} {r9 : Int32} {σo : kS} (C0 : k_Cx D c9 p s m args meth c R_Md c_Md_more 5 (some .boolean) A) (σ : kS) (x1 x2 : Int32) (H : Heap) (locs : List Loc) (ls : Array Slot) (hP : va_P D kcl (kw a c9 σ) H) (hD : va_D A (kw a c9 σ)) (hS : va_S A s.heap H locs) (hl : lv_has ls 5 [(0, .ref (a 6)), (1, .int x1), (2, .int x2)]) (h : M_Md_more_87 σ x1 x2 = some (r9, σo)) : W p l e rm_Md_more s m args below meth c H locs 0 0 (MQ below (k_Qi D a c9 r9 σo A) args s 0 0 A) (F0 m 87 ls []) := by
  obtain ⟨hx, hb, hml, hown, hts, hr, hlk, hK, hN, hA⟩ := id C0
  unfold M_Md_more_87 at h
  refine lv_iconst (v := 1) hx hb d_Md_more_87 (by decide) ?_
  refine lv_goto (tgt := 92) hx hb d_Md_more_88 (by decide) ?_
  exact B_Md_more_92 C0 _ _ _ _ H locs ls hP hD hS (lv_sub hl [0, 1, 2] rfl) h
def M_Md_more_22 (σ : kS) (x1 x2 y0 : Int32) : Option (Int32 × kS) := k_set σ 10 (y0) fun σ1 => if σ1.1 10 = 0 then (k_ld (σ1.2.1 26) 240 (x1) fun v3 => if v3 = 1 then (k_ld (σ1.2.1 32) 240 (x1) fun v5 => if v5 = 0 then (if x2 = x1 then (M_Md_more_87 σ1 x1 x2) else (k_ld (σ1.2.1 33) 240 (x2) fun v8 => if 20 ≤ v8 then (M_Md_more_87 σ1 x1 x2) else (k_ld (σ1.2.1 34) 240 (x1) fun v10 => k_ld (σ1.2.1 34) 240 (x2) fun v11 => if (v10 + v11) ≤ 70 then (M_Md_more_92 σ1 x1 x2 0) else (M_Md_more_87 σ1 x1 x2)))) else (M_Md_more_87 σ1 x1 x2)) else (M_Md_more_87 σ1 x1 x2)) else (some (0, σ1))
set_option maxHeartbeats 4000000 in
set_option maxRecDepth 100000 in
theorem B_Md_more_22 {p : Program} {l : Launch} {e : Env} {s : State} {m : MethodId} {args : Array Value} {below : List Frame} {meth : Method} {c : Code} {D : va_G} {a : Nat → Nat} {c9 : Nat → ClassId} {A : Nat → Prop} {r9 : Int32} {σo : kS} (C0 : k_Cx D c9 p s m args meth c R_Md c_Md_more 5 (some .boolean) A) (σ : kS) (x1 x2 y0 : Int32) (H : Heap) (locs : List Loc) (ls : Array Slot) (hP : va_P D kcl (kw a c9 σ) H) (hD : va_D A (kw a c9 σ)) (hS : va_S A s.heap H locs) (hl : lv_has ls 5 [(0, .ref (a 6)), (1, .int x1), (2, .int x2)]) (h : M_Md_more_22 σ x1 x2 y0 = some (r9, σo)) : W p l e rm_Md_more s m args below meth c H locs 0 0 (MQ below (k_Qi D a c9 r9 σo A) args s 0 0 A) (F0 m 22 ls [.int y0, .ref (a 6)]) := by
  obtain ⟨hx, hb, hml, hown, hts, hr, hlk, hK, hN, hA⟩ := id C0
  unfold M_Md_more_22 at h
  obtain ⟨σ1, eσ1, h⟩ := k_set_e h
  refine va_put (ci := 1) (v := .int y0) (ty := .int) (C := R_Md) (T := T_Md) (N := 44) hx hb hts in_Md t_Md t_Md_ok n_Md hown hK hP hD hS 6 kw_6 rfl 0 (by decide) (hts _ q_713) (fun _ h9 => h9) rfl (by decide +kernel) rfl rfl (Nat.le_of_ble_eq_true rfl) d_Md_more_22 (fun H locs hP hD hS => ?_)
  replace hP := k_mvP (kw_f6_0.trans (congrArg _ eσ1.symm)) hP
  replace hD := k_mvD (kw_f6_0.trans (congrArg _ eσ1.symm)) hD
  refine lv_aload_n hx hb d_Md_more_25 rfl (lv_at hl 0 rfl) ?_
  refine va_get (ci := 1) (C := R_Md) (T := T_Md) (N := 44) hx hb hts in_Md hown hK hP 6 kw_6 rfl 0 (by decide) (hts _ q_713) (fun _ h9 => h9) rfl d_Md_more_26 ?_
  refine lv_if_eq (tgt := 34) hx hb d_Md_more_29 (by decide) (fun cn2 => ?_) (fun cn2 => ?_)
  · replace h := (if_pos cn2).symm.trans h
    refine lv_aload_n hx hb d_Md_more_34 rfl (lv_at hl 0 rfl) ?_
    refine va_get (ci := 1) (C := R_Md) (T := T_Md) (N := 44) hx hb hts in_Md hown hK hP 6 kw_6 rfl 2 (by decide) (hts _ q_715) (fun _ h9 => h9) rfl d_Md_more_35 ?_
    refine lv_iload_n hx hb d_Md_more_38 rfl (lv_at hl 1 rfl) ?_
    obtain ⟨v3, ev3, hv3, h⟩ := k_ld_e h
    refine va_iald hx hb hK hP 33 0 kw_33 rfl hv3 d_Md_more_39 (k_top ev3 ?_)
    refine lv_iconst (v := 1) hx hb d_Md_more_40 (by decide) ?_
    refine lv_icmp_ne (tgt := 87) hx hb d_Md_more_41 (by decide) (fun cn4 => ?_) (fun cn4 => ?_)
    · replace h := (if_neg cn4).symm.trans h
      exact B_Md_more_87 C0 _ _ _ H locs ls hP hD hS (lv_sub hl [0, 1, 2] rfl) h
    · replace h := (if_pos cn4).symm.trans h
      refine lv_aload_n hx hb d_Md_more_44 rfl (lv_at hl 0 rfl) ?_
      refine va_get (ci := 1) (C := R_Md) (T := T_Md) (N := 44) hx hb hts in_Md hown hK hP 6 kw_6 rfl 8 (by decide) (hts _ q_721) (fun _ h9 => h9) rfl d_Md_more_45 ?_
      refine lv_iload_n hx hb d_Md_more_48 rfl (lv_at hl 1 rfl) ?_
      obtain ⟨v5, ev5, hv5, h⟩ := k_ld_e h
      refine va_zald hx hb hK hP 39 1 kw_39 rfl hv5 d_Md_more_49 (k_top ev5 ?_)
      refine lv_if_ne (tgt := 87) hx hb d_Md_more_50 (by decide) (fun cn6 => ?_) (fun cn6 => ?_)
      · replace h := (if_neg cn6).symm.trans h
        exact B_Md_more_87 C0 _ _ _ H locs ls hP hD hS (lv_sub hl [0, 1, 2] rfl) h
      · replace h := (if_pos cn6).symm.trans h
        refine lv_iload_n hx hb d_Md_more_53 rfl (lv_at hl 2 rfl) ?_
        refine lv_iload_n hx hb d_Md_more_54 rfl (lv_at hl 1 rfl) ?_
        refine lv_icmp_eq (tgt := 87) hx hb d_Md_more_55 (by decide) (fun cn7 => ?_) (fun cn7 => ?_)
        · replace h := (if_pos cn7).symm.trans h
          exact B_Md_more_87 C0 _ _ _ H locs ls hP hD hS (lv_sub hl [0, 1, 2] rfl) h
        · replace h := (if_neg cn7).symm.trans h
          refine lv_aload_n hx hb d_Md_more_58 rfl (lv_at hl 0 rfl) ?_
          refine va_get (ci := 1) (C := R_Md) (T := T_Md) (N := 44) hx hb hts in_Md hown hK hP 6 kw_6 rfl 9 (by decide) (hts _ q_722) (fun _ h9 => h9) rfl d_Md_more_59 ?_
          refine lv_iload_n hx hb d_Md_more_62 rfl (lv_at hl 2 rfl) ?_
          obtain ⟨v8, ev8, hv8, h⟩ := k_ld_e h
          refine va_iald hx hb hK hP 40 0 kw_40 rfl hv8 d_Md_more_63 (k_top ev8 ?_)
          refine lv_bipush (v := 20) hx hb d_Md_more_64 (by decide) ?_
          refine lv_icmp_ge (tgt := 87) hx hb d_Md_more_66 (by decide) (fun cn9 => ?_) (fun cn9 => ?_)
          · replace h := (if_pos cn9).symm.trans h
            exact B_Md_more_87 C0 _ _ _ H locs ls hP hD hS (lv_sub hl [0, 1, 2] rfl) h
          · replace h := (if_neg cn9).symm.trans h
            refine lv_aload_n hx hb d_Md_more_69 rfl (lv_at hl 0 rfl) ?_
            refine va_get (ci := 1) (C := R_Md) (T := T_Md) (N := 44) hx hb hts in_Md hown hK hP 6 kw_6 rfl 10 (by decide) (hts _ q_723) (fun _ h9 => h9) rfl d_Md_more_70 ?_
            refine lv_iload_n hx hb d_Md_more_73 rfl (lv_at hl 1 rfl) ?_
            obtain ⟨v10, ev10, hv10, h⟩ := k_ld_e h
            refine va_iald hx hb hK hP 41 0 kw_41 rfl hv10 d_Md_more_74 (k_top ev10 ?_)
            refine lv_aload_n hx hb d_Md_more_75 rfl (lv_at hl 0 rfl) ?_
            refine va_get (ci := 1) (C := R_Md) (T := T_Md) (N := 44) hx hb hts in_Md hown hK hP 6 kw_6 rfl 10 (by decide) (hts _ q_723) (fun _ h9 => h9) rfl d_Md_more_76 ?_
            refine lv_iload_n hx hb d_Md_more_79 rfl (lv_at hl 2 rfl) ?_
            obtain ⟨v11, ev11, hv11, h⟩ := k_ld_e h
            refine va_iald hx hb hK hP 41 0 kw_41 rfl hv11 d_Md_more_80 (k_top ev11 ?_)
            refine lv_iadd hx hb d_Md_more_81 ?_
            refine lv_bipush (v := 70) hx hb d_Md_more_82 (by decide) ?_
            refine lv_icmp_le (tgt := 91) hx hb d_Md_more_84 (by decide) (fun cn12 => ?_) (fun cn12 => ?_)
            · replace h := (if_pos cn12).symm.trans h
              refine lv_iconst (v := 0) hx hb d_Md_more_91 (by decide) ?_
              exact B_Md_more_92 C0 _ _ _ _ H locs ls hP hD hS (lv_sub hl [0, 1, 2] rfl) h
            · replace h := (if_neg cn12).symm.trans h
              exact B_Md_more_87 C0 _ _ _ H locs ls hP hD hS (lv_sub hl [0, 1, 2] rfl) h
  · replace h := (if_neg cn2).symm.trans h
    refine lv_iconst (v := 0) hx hb d_Md_more_32 (by decide) ?_
    cases h
    exact k_zret (Or.inl rfl) hx hb hr hlk hP hS d_Md_more_33
def M_Md_more_17 (σ : kS) (x1 x2 : Int32) : Option (Int32 × kS) := M_Md_more_22 σ x1 x2 1
set_option maxHeartbeats 4000000 in
set_option maxRecDepth 100000 in
theorem B_Md_more_17 {p : Program} {l : Launch} {e : Env} {s : State} {m : MethodId} {args : Array Value} {below : List Frame} {meth : Method} {c : Code} {D : va_G} {a : Nat → Nat} {c9 : Nat → ClassId} {A : Nat → Prop} {r9 : Int32} {σo : kS} (C0 : k_Cx D c9 p s m args meth c R_Md c_Md_more 5 (some .boolean) A) (σ : kS) (x1 x2 : Int32) (H : Heap) (locs : List Loc) (ls : Array Slot) (hP : va_P D kcl (kw a c9 σ) H) (hD : va_D A (kw a c9 σ)) (hS : va_S A s.heap H locs) (hl : lv_has ls 5 [(0, .ref (a 6)), (1, .int x1), (2, .int x2)]) (h : M_Md_more_17 σ x1 x2 = some (r9, σo)) : W p l e rm_Md_more s m args below meth c H locs 0 0 (MQ below (k_Qi D a c9 r9 σo A) args s 0 0 A) (F0 m 17 ls [.ref (a 6)]) := by
  obtain ⟨hx, hb, hml, hown, hts, hr, hlk, hK, hN, hA⟩ := id C0
  unfold M_Md_more_17 at h
  refine lv_iconst (v := 1) hx hb d_Md_more_17 (by decide) ?_
  refine lv_goto (tgt := 22) hx hb d_Md_more_18 (by decide) ?_
  exact B_Md_more_22 C0 _ _ _ _ H locs ls hP hD hS (lv_sub hl [0, 1, 2] rfl) h
def M_Md_more (σ : kS) (x1 x2 : Int32) : Option (Int32 × kS) := k_call (M_Md_noTree σ x1) fun v1 σ2 => if v1 = 0 then (k_call (M_Md_noTree σ2 x2) fun v5 σ6 => if v5 = 0 then (M_Md_more_22 σ6 x1 x2 0) else (M_Md_more_17 σ6 x1 x2)) else (M_Md_more_17 σ2 x1 x2)
set_option maxHeartbeats 4000000 in
set_option maxRecDepth 100000 in
theorem B_Md_more_0 {p : Program} {l : Launch} {e : Env} {s : State} {m : MethodId} {args : Array Value} {below : List Frame} {meth : Method} {c : Code} {D : va_G} {a : Nat → Nat} {c9 : Nat → ClassId} {A : Nat → Prop} {r9 : Int32} {σo : kS} (C0 : k_Cx D c9 p s m args meth c R_Md c_Md_more 5 (some .boolean) A) (σ : kS) (x1 x2 : Int32) (H : Heap) (locs : List Loc) (ls : Array Slot) (hP : va_P D kcl (kw a c9 σ) H) (hD : va_D A (kw a c9 σ)) (hS : va_S A s.heap H locs) (hl : lv_has ls 5 [(0, .ref (a 6)), (1, .int x1), (2, .int x2)]) (h : M_Md_more σ x1 x2 = some (r9, σo)) : W p l e rm_Md_more s m args below meth c H locs 0 0 (MQ below (k_Qi D a c9 r9 σo A) args s 0 0 A) (F0 m 0 ls []) := by
  obtain ⟨hx, hb, hml, hown, hts, hr, hlk, hK, hN, hA⟩ := id C0
  unfold M_Md_more at h
  refine lv_aload_n hx hb d_Md_more_0 rfl (lv_at hl 0 rfl) ?_
  refine lv_aload_n hx hb d_Md_more_1 rfl (lv_at hl 0 rfl) ?_
  refine lv_iload_n hx hb d_Md_more_2 rfl (lv_at hl 1 rfl) ?_
  obtain ⟨v1, σ2, hc3, h⟩ := k_call_e h
  refine k_calli (va_runV (As := [.int x1]) (rest := [.ref (a 6)]) ⟨hx, hb, hml, hown, hts⟩ (K_Md_noTree l D a c9 H.size hc3) (cwV 1 hts (k_gV q_870 q_872 s_19 q_7 q_873) rfl rfl rfl h_Md_noTree ⟨Nat.le_of_ble_eq_true rfl, Nat.le_of_ble_eq_true rfl⟩) (k_preV (ci := 1) (q0 := 6) rfl kw_6 hP hK hN hD) rfl rfl hl.1 rfl (lv_room (Nat.le_of_ble_eq_true rfl)) d_Md_more_3 ⟨Nat.zero_le _, Nat.zero_le _⟩) hD hS hA (fun H locs hP hD hS => ?_)
  refine lv_if_ne (tgt := 17) hx hb d_Md_more_6 (by decide) (fun cn4 => ?_) (fun cn4 => ?_)
  · replace h := (if_neg cn4).symm.trans h
    exact B_Md_more_17 C0 _ _ _ H locs ls hP hD hS (lv_sub hl [0, 1, 2] rfl) h
  · replace h := (if_pos cn4).symm.trans h
    refine lv_aload_n hx hb d_Md_more_9 rfl (lv_at hl 0 rfl) ?_
    refine lv_iload_n hx hb d_Md_more_10 rfl (lv_at hl 2 rfl) ?_
    obtain ⟨v5, σ6, hc7, h⟩ := k_call_e h
    refine k_calli (va_runV (As := [.int x2]) (rest := [.ref (a 6)]) ⟨hx, hb, hml, hown, hts⟩ (K_Md_noTree l D a c9 H.size hc7) (cwV 1 hts (k_gV q_870 q_872 s_19 q_7 q_873) rfl rfl rfl h_Md_noTree ⟨Nat.le_of_ble_eq_true rfl, Nat.le_of_ble_eq_true rfl⟩) (k_preV (ci := 1) (q0 := 6) rfl kw_6 hP hK hN hD) rfl rfl hl.1 rfl (lv_room (Nat.le_of_ble_eq_true rfl)) d_Md_more_11 ⟨Nat.zero_le _, Nat.zero_le _⟩) hD hS hA (fun H locs hP hD hS => ?_)
    refine lv_if_eq (tgt := 21) hx hb d_Md_more_14 (by decide) (fun cn8 => ?_) (fun cn8 => ?_)
    · replace h := (if_pos cn8).symm.trans h
      refine lv_iconst (v := 0) hx hb d_Md_more_21 (by decide) ?_
      exact B_Md_more_22 C0 _ _ _ _ H locs ls hP hD hS (lv_sub hl [0, 1, 2] rfl) h
    · replace h := (if_neg cn8).symm.trans h
      exact B_Md_more_17 C0 _ _ _ H locs ls hP hD hS (lv_sub hl [0, 1, 2] rfl) h
theorem K_Md_more (l : Launch) (D : va_G) (a : Nat → Nat) (c9 : Nat → ClassId) (sz : Nat) {σ : kS} {x1 x2 : Int32} {r9 : Int32} {σo : kS} (h : M_Md_more σ x1 x2 = some (r9, σo)) : Met l y_Md_more (Cond.code y_Md_more c_Md_more 5 (some .boolean) :: kG) rm_Md_more (k_Pc D a c9 sz σ [.ref (a 6), .int x1, .int x2]) (k_Qi D a c9 r9 σo (k_A a c9 σ sz)) 0 0 (k_A a c9 σ sz) :=
  k_met (Qf := k_Qi D a c9 r9 σo) (by decide) (Nat.le_of_ble_eq_true rfl) (fun p e s m args below meth c A ls C0 hP hD hS hl => B_Md_more_0 C0 σ x1 x2 s.heap [] ls hP hD hS hl h)
def rm_Md_test : Room := { frames := 1, cells := 0, slots := 0, locals := 21 }
def M_Md_test_37 (σ : kS) (x1 x2 x3 y0 : Int32) : Option (Int32 × kS) := k_set σ 10 (y0) fun σ1 => if σ1.1 10 = 0 then (k_ld (σ1.2.1 35) 240 (x1) fun v3 => if v3 = 3 then (some (0, σ1)) else (k_ld (σ1.2.1 35) 240 (x1) fun v5 => k_st σ1 36 720 (((3 * x1) + v5)) (x2) fun σ6 => k_ld (σ6.2.1 35) 240 (x1) fun v7 => k_st σ6 37 720 (((3 * x1) + v7)) (x3) fun σ8 => k_ld (σ8.2.1 35) 240 (x1) fun v9 => k_st σ8 35 240 (x1) ((v9 + 1)) fun σ10 => some (1, σ10))) else (some (0, σ1))
set_option maxHeartbeats 4000000 in
set_option maxRecDepth 100000 in
theorem B_Md_test_37 {p : Program} {l : Launch} {e : Env} {s : State} {m : MethodId} {args : Array Value} {below : List Frame} {meth : Method} {c : Code} {D : va_G} {a : Nat → Nat} {c9 : Nat → ClassId} {A : Nat → Prop} {r9 : Int32} {σo : kS} (C0 : k_Cx D c9 p s m args meth c R_Md c_Md_test 4 (some .boolean) A) (σ : kS) (x1 x2 x3 y0 : Int32) (H : Heap) (locs : List Loc) (ls : Array Slot) (hP : va_P D kcl (kw a c9 σ) H) (hD : va_D A (kw a c9 σ)) (hS : va_S A s.heap H locs) (hl : lv_has ls 4 [(0, .ref (a 6)), (1, .int x1), (2, .int x2), (3, .int x3)]) (h : M_Md_test_37 σ x1 x2 x3 y0 = some (r9, σo)) : W p l e rm_Md_test s m args below meth c H locs 0 0 (MQ below (k_Qi D a c9 r9 σo A) args s 0 0 A) (F0 m 37 ls [.int y0, .ref (a 6)]) := by
  obtain ⟨hx, hb, hml, hown, hts, hr, hlk, hK, hN, hA⟩ := id C0
  unfold M_Md_test_37 at h
  obtain ⟨σ1, eσ1, h⟩ := k_set_e h
  refine va_put (ci := 1) (v := .int y0) (ty := .int) (C := R_Md) (T := T_Md) (N := 44) hx hb hts in_Md t_Md t_Md_ok n_Md hown hK hP hD hS 6 kw_6 rfl 0 (by decide) (hts _ q_713) (fun _ h9 => h9) rfl (by decide +kernel) rfl rfl (Nat.le_of_ble_eq_true rfl) d_Md_test_37 (fun H locs hP hD hS => ?_)
  replace hP := k_mvP (kw_f6_0.trans (congrArg _ eσ1.symm)) hP
  replace hD := k_mvD (kw_f6_0.trans (congrArg _ eσ1.symm)) hD
  refine lv_aload_n hx hb d_Md_test_40 rfl (lv_at hl 0 rfl) ?_
  refine va_get (ci := 1) (C := R_Md) (T := T_Md) (N := 44) hx hb hts in_Md hown hK hP 6 kw_6 rfl 0 (by decide) (hts _ q_713) (fun _ h9 => h9) rfl d_Md_test_41 ?_
  refine lv_if_ne (tgt := 57) hx hb d_Md_test_44 (by decide) (fun cn2 => ?_) (fun cn2 => ?_)
  · replace h := (if_neg cn2).symm.trans h
    refine lv_iconst (v := 0) hx hb d_Md_test_57 (by decide) ?_
    cases h
    exact k_zret (Or.inl rfl) hx hb hr hlk hP hS d_Md_test_58
  · replace h := (if_pos cn2).symm.trans h
    refine lv_aload_n hx hb d_Md_test_47 rfl (lv_at hl 0 rfl) ?_
    refine va_get (ci := 1) (C := R_Md) (T := T_Md) (N := 44) hx hb hts in_Md hown hK hP 6 kw_6 rfl 11 (by decide) (hts _ q_724) (fun _ h9 => h9) rfl d_Md_test_48 ?_
    refine lv_iload_n hx hb d_Md_test_51 rfl (lv_at hl 1 rfl) ?_
    obtain ⟨v3, ev3, hv3, h⟩ := k_ld_e h
    refine va_iald hx hb hK hP 42 0 kw_42 rfl hv3 d_Md_test_52 (k_top ev3 ?_)
    refine lv_iconst (v := 3) hx hb d_Md_test_53 (by decide) ?_
    refine lv_icmp_ne (tgt := 59) hx hb d_Md_test_54 (by decide) (fun cn4 => ?_) (fun cn4 => ?_)
    · replace h := (if_neg cn4).symm.trans h
      refine lv_aload_n hx hb d_Md_test_59 rfl (lv_at hl 0 rfl) ?_
      refine va_get (ci := 1) (C := R_Md) (T := T_Md) (N := 44) hx hb hts in_Md hown hK hP 6 kw_6 rfl 12 (by decide) (hts _ q_725) (fun _ h9 => h9) rfl d_Md_test_60 ?_
      refine lv_iconst (v := 3) hx hb d_Md_test_63 (by decide) ?_
      refine lv_iload_n hx hb d_Md_test_64 rfl (lv_at hl 1 rfl) ?_
      refine lv_imul hx hb d_Md_test_65 ?_
      refine lv_aload_n hx hb d_Md_test_66 rfl (lv_at hl 0 rfl) ?_
      refine va_get (ci := 1) (C := R_Md) (T := T_Md) (N := 44) hx hb hts in_Md hown hK hP 6 kw_6 rfl 11 (by decide) (hts _ q_724) (fun _ h9 => h9) rfl d_Md_test_67 ?_
      refine lv_iload_n hx hb d_Md_test_70 rfl (lv_at hl 1 rfl) ?_
      obtain ⟨v5, ev5, hv5, h⟩ := k_ld_e h
      refine va_iald hx hb hK hP 42 0 kw_42 rfl hv5 d_Md_test_71 (k_top ev5 ?_)
      refine lv_iadd hx hb d_Md_test_72 ?_
      refine lv_iload_n hx hb d_Md_test_73 rfl (lv_at hl 2 rfl) ?_
      obtain ⟨σ6, eσ6, hiσ6, h⟩ := k_st_e h
      refine va_iast hx hb hK hP hD hS 43 0 kw_43 rfl hiσ6 d_Md_test_74 (fun H locs hP hD hS => ?_)
      replace hP := k_mvP (kw_s43.trans (congrArg _ eσ6.symm)) hP
      replace hD := k_mvD (kw_s43.trans (congrArg _ eσ6.symm)) hD
      refine lv_aload_n hx hb d_Md_test_75 rfl (lv_at hl 0 rfl) ?_
      refine va_get (ci := 1) (C := R_Md) (T := T_Md) (N := 44) hx hb hts in_Md hown hK hP 6 kw_6 rfl 13 (by decide) (hts _ q_726) (fun _ h9 => h9) rfl d_Md_test_76 ?_
      refine lv_iconst (v := 3) hx hb d_Md_test_79 (by decide) ?_
      refine lv_iload_n hx hb d_Md_test_80 rfl (lv_at hl 1 rfl) ?_
      refine lv_imul hx hb d_Md_test_81 ?_
      refine lv_aload_n hx hb d_Md_test_82 rfl (lv_at hl 0 rfl) ?_
      refine va_get (ci := 1) (C := R_Md) (T := T_Md) (N := 44) hx hb hts in_Md hown hK hP 6 kw_6 rfl 11 (by decide) (hts _ q_724) (fun _ h9 => h9) rfl d_Md_test_83 ?_
      refine lv_iload_n hx hb d_Md_test_86 rfl (lv_at hl 1 rfl) ?_
      obtain ⟨v7, ev7, hv7, h⟩ := k_ld_e h
      refine va_iald hx hb hK hP 42 0 kw_42 rfl hv7 d_Md_test_87 (k_top ev7 ?_)
      refine lv_iadd hx hb d_Md_test_88 ?_
      refine lv_iload_n hx hb d_Md_test_89 rfl (lv_at hl 3 rfl) ?_
      obtain ⟨σ8, eσ8, hiσ8, h⟩ := k_st_e h
      refine va_iast hx hb hK hP hD hS 44 0 kw_44 rfl hiσ8 d_Md_test_90 (fun H locs hP hD hS => ?_)
      replace hP := k_mvP (kw_s44.trans (congrArg _ eσ8.symm)) hP
      replace hD := k_mvD (kw_s44.trans (congrArg _ eσ8.symm)) hD
      refine lv_aload_n hx hb d_Md_test_91 rfl (lv_at hl 0 rfl) ?_
      refine va_get (ci := 1) (C := R_Md) (T := T_Md) (N := 44) hx hb hts in_Md hown hK hP 6 kw_6 rfl 11 (by decide) (hts _ q_724) (fun _ h9 => h9) rfl d_Md_test_92 ?_
      refine lv_iload_n hx hb d_Md_test_95 rfl (lv_at hl 1 rfl) ?_
      refine lv_aload_n hx hb d_Md_test_96 rfl (lv_at hl 0 rfl) ?_
      refine va_get (ci := 1) (C := R_Md) (T := T_Md) (N := 44) hx hb hts in_Md hown hK hP 6 kw_6 rfl 11 (by decide) (hts _ q_724) (fun _ h9 => h9) rfl d_Md_test_97 ?_
      refine lv_iload_n hx hb d_Md_test_100 rfl (lv_at hl 1 rfl) ?_
      obtain ⟨v9, ev9, hv9, h⟩ := k_ld_e h
      refine va_iald hx hb hK hP 42 0 kw_42 rfl hv9 d_Md_test_101 (k_top ev9 ?_)
      refine lv_iconst (v := 1) hx hb d_Md_test_102 (by decide) ?_
      refine lv_iadd hx hb d_Md_test_103 ?_
      obtain ⟨σ10, eσ10, hiσ10, h⟩ := k_st_e h
      refine va_iast hx hb hK hP hD hS 42 0 kw_42 rfl hiσ10 d_Md_test_104 (fun H locs hP hD hS => ?_)
      replace hP := k_mvP (kw_s42.trans (congrArg _ eσ10.symm)) hP
      replace hD := k_mvD (kw_s42.trans (congrArg _ eσ10.symm)) hD
      refine lv_iconst (v := 1) hx hb d_Md_test_105 (by decide) ?_
      cases h
      exact k_zret (Or.inr rfl) hx hb hr hlk hP hS d_Md_test_106
    · replace h := (if_pos cn4).symm.trans h
      refine lv_iconst (v := 0) hx hb d_Md_test_57 (by decide) ?_
      cases h
      exact k_zret (Or.inl rfl) hx hb hr hlk hP hS d_Md_test_58
def M_Md_test_32 (σ : kS) (x1 x2 x3 : Int32) : Option (Int32 × kS) := M_Md_test_37 σ x1 x2 x3 2
set_option maxHeartbeats 4000000 in
set_option maxRecDepth 100000 in
theorem B_Md_test_32 {p : Program} {l : Launch} {e : Env} {s : State} {m : MethodId} {args : Array Value} {below : List Frame} {meth : Method} {c : Code} {D : va_G} {a : Nat → Nat} {c9 : Nat → ClassId} {A : Nat → Prop} {r9 : Int32} {σo : kS} (C0 : k_Cx D c9 p s m args meth c R_Md c_Md_test 4 (some .boolean) A) (σ : kS) (x1 x2 x3 : Int32) (H : Heap) (locs : List Loc) (ls : Array Slot) (hP : va_P D kcl (kw a c9 σ) H) (hD : va_D A (kw a c9 σ)) (hS : va_S A s.heap H locs) (hl : lv_has ls 4 [(0, .ref (a 6)), (1, .int x1), (2, .int x2), (3, .int x3)]) (h : M_Md_test_32 σ x1 x2 x3 = some (r9, σo)) : W p l e rm_Md_test s m args below meth c H locs 0 0 (MQ below (k_Qi D a c9 r9 σo A) args s 0 0 A) (F0 m 32 ls [.ref (a 6)]) := by
  obtain ⟨hx, hb, hml, hown, hts, hr, hlk, hK, hN, hA⟩ := id C0
  unfold M_Md_test_32 at h
  refine lv_iconst (v := 2) hx hb d_Md_test_32 (by decide) ?_
  refine lv_goto (tgt := 37) hx hb d_Md_test_33 (by decide) ?_
  exact B_Md_test_37 C0 _ _ _ _ _ H locs ls hP hD hS (lv_sub hl [0, 1, 2, 3] rfl) h
def M_Md_test (σ : kS) (x1 x2 x3 : Int32) : Option (Int32 × kS) := k_call (M_Md_noTree σ x1) fun v1 σ2 => if v1 = 0 then (k_ld (σ2.2.1 26) 240 (x1) fun v5 => if v5 = 2 then (if x2 < 0 then (M_Md_test_32 σ2 x1 x2 x3) else (if x2 ≤ 4 then (M_Md_test_37 σ2 x1 x2 x3 0) else (M_Md_test_32 σ2 x1 x2 x3))) else (M_Md_test_32 σ2 x1 x2 x3)) else (M_Md_test_37 σ2 x1 x2 x3 1)
set_option maxHeartbeats 4000000 in
set_option maxRecDepth 100000 in
theorem B_Md_test_0 {p : Program} {l : Launch} {e : Env} {s : State} {m : MethodId} {args : Array Value} {below : List Frame} {meth : Method} {c : Code} {D : va_G} {a : Nat → Nat} {c9 : Nat → ClassId} {A : Nat → Prop} {r9 : Int32} {σo : kS} (C0 : k_Cx D c9 p s m args meth c R_Md c_Md_test 4 (some .boolean) A) (σ : kS) (x1 x2 x3 : Int32) (H : Heap) (locs : List Loc) (ls : Array Slot) (hP : va_P D kcl (kw a c9 σ) H) (hD : va_D A (kw a c9 σ)) (hS : va_S A s.heap H locs) (hl : lv_has ls 4 [(0, .ref (a 6)), (1, .int x1), (2, .int x2), (3, .int x3)]) (h : M_Md_test σ x1 x2 x3 = some (r9, σo)) : W p l e rm_Md_test s m args below meth c H locs 0 0 (MQ below (k_Qi D a c9 r9 σo A) args s 0 0 A) (F0 m 0 ls []) := by
  obtain ⟨hx, hb, hml, hown, hts, hr, hlk, hK, hN, hA⟩ := id C0
  unfold M_Md_test at h
  refine lv_aload_n hx hb d_Md_test_0 rfl (lv_at hl 0 rfl) ?_
  refine lv_aload_n hx hb d_Md_test_1 rfl (lv_at hl 0 rfl) ?_
  refine lv_iload_n hx hb d_Md_test_2 rfl (lv_at hl 1 rfl) ?_
  obtain ⟨v1, σ2, hc3, h⟩ := k_call_e h
  refine k_calli (va_runV (As := [.int x1]) (rest := [.ref (a 6)]) ⟨hx, hb, hml, hown, hts⟩ (K_Md_noTree l D a c9 H.size hc3) (cwV 1 hts (k_gV q_870 q_872 s_19 q_7 q_873) rfl rfl rfl h_Md_noTree ⟨Nat.le_of_ble_eq_true rfl, Nat.le_of_ble_eq_true rfl⟩) (k_preV (ci := 1) (q0 := 6) rfl kw_6 hP hK hN hD) rfl rfl hl.1 rfl (lv_room (Nat.le_of_ble_eq_true rfl)) d_Md_test_3 ⟨Nat.zero_le _, Nat.zero_le _⟩) hD hS hA (fun H locs hP hD hS => ?_)
  refine lv_if_eq (tgt := 13) hx hb d_Md_test_6 (by decide) (fun cn4 => ?_) (fun cn4 => ?_)
  · replace h := (if_pos cn4).symm.trans h
    refine lv_aload_n hx hb d_Md_test_13 rfl (lv_at hl 0 rfl) ?_
    refine va_get (ci := 1) (C := R_Md) (T := T_Md) (N := 44) hx hb hts in_Md hown hK hP 6 kw_6 rfl 2 (by decide) (hts _ q_715) (fun _ h9 => h9) rfl d_Md_test_14 ?_
    refine lv_iload_n hx hb d_Md_test_17 rfl (lv_at hl 1 rfl) ?_
    obtain ⟨v5, ev5, hv5, h⟩ := k_ld_e h
    refine va_iald hx hb hK hP 33 0 kw_33 rfl hv5 d_Md_test_18 (k_top ev5 ?_)
    refine lv_iconst (v := 2) hx hb d_Md_test_19 (by decide) ?_
    refine lv_icmp_ne (tgt := 32) hx hb d_Md_test_20 (by decide) (fun cn6 => ?_) (fun cn6 => ?_)
    · replace h := (if_neg cn6).symm.trans h
      exact B_Md_test_32 C0 _ _ _ _ H locs ls hP hD hS (lv_sub hl [0, 1, 2, 3] rfl) h
    · replace h := (if_pos cn6).symm.trans h
      refine lv_iload_n hx hb d_Md_test_23 rfl (lv_at hl 2 rfl) ?_
      refine lv_if_lt (tgt := 32) hx hb d_Md_test_24 (by decide) (fun cn7 => ?_) (fun cn7 => ?_)
      · replace h := (if_pos cn7).symm.trans h
        exact B_Md_test_32 C0 _ _ _ _ H locs ls hP hD hS (lv_sub hl [0, 1, 2, 3] rfl) h
      · replace h := (if_neg cn7).symm.trans h
        refine lv_iload_n hx hb d_Md_test_27 rfl (lv_at hl 2 rfl) ?_
        refine lv_iconst (v := 4) hx hb d_Md_test_28 (by decide) ?_
        refine lv_icmp_le (tgt := 36) hx hb d_Md_test_29 (by decide) (fun cn8 => ?_) (fun cn8 => ?_)
        · replace h := (if_pos cn8).symm.trans h
          refine lv_iconst (v := 0) hx hb d_Md_test_36 (by decide) ?_
          exact B_Md_test_37 C0 _ _ _ _ _ H locs ls hP hD hS (lv_sub hl [0, 1, 2, 3] rfl) h
        · replace h := (if_neg cn8).symm.trans h
          exact B_Md_test_32 C0 _ _ _ _ H locs ls hP hD hS (lv_sub hl [0, 1, 2, 3] rfl) h
  · replace h := (if_neg cn4).symm.trans h
    refine lv_iconst (v := 1) hx hb d_Md_test_9 (by decide) ?_
    refine lv_goto (tgt := 37) hx hb d_Md_test_10 (by decide) ?_
    exact B_Md_test_37 C0 _ _ _ _ _ H locs ls hP hD hS (lv_sub hl [0, 1, 2, 3] rfl) h
theorem K_Md_test (l : Launch) (D : va_G) (a : Nat → Nat) (c9 : Nat → ClassId) (sz : Nat) {σ : kS} {x1 x2 x3 : Int32} {r9 : Int32} {σo : kS} (h : M_Md_test σ x1 x2 x3 = some (r9, σo)) : Met l y_Md_test (Cond.code y_Md_test c_Md_test 4 (some .boolean) :: kG) rm_Md_test (k_Pc D a c9 sz σ [.ref (a 6), .int x1, .int x2, .int x3]) (k_Qi D a c9 r9 σo (k_A a c9 σ sz)) 0 0 (k_A a c9 σ sz) :=
  k_met (Qf := k_Qi D a c9 r9 σo) (by decide) (Nat.le_of_ble_eq_true rfl) (fun p e s m args below meth c A ls C0 hP hD hS hl => B_Md_test_0 C0 σ x1 x2 x3 s.heap [] ls hP hD hS hl h)
def rm_Md_match : Room := { frames := 5, cells := 0, slots := 0, locals := 124 }
def M_Md_match_46 (σ : kS) (x1 x2 x3 y0 : Int32) : Option (Int32 × kS) := k_set σ 10 (y0) fun σ1 => if σ1.1 10 = 0 then (k_call (M_Md_search σ1 x1 x2 x3) fun _ σ4 => if σ4.1 19 = 0 then (some (σ4.1 18, σ4)) else (some ((-1), σ4))) else (some (0, σ1))
set_option maxHeartbeats 4000000 in
set_option maxRecDepth 100000 in
theorem B_Md_match_46 {p : Program} {l : Launch} {e : Env} {s : State} {m : MethodId} {args : Array Value} {below : List Frame} {meth : Method} {c : Code} {D : va_G} {a : Nat → Nat} {c9 : Nat → ClassId} {A : Nat → Prop} {r9 : Int32} {σo : kS} (C0 : k_Cx D c9 p s m args meth c R_Md c_Md_match 4 (some .int) A) (σ : kS) (x1 x2 x3 y0 : Int32) (H : Heap) (locs : List Loc) (ls : Array Slot) (hP : va_P D kcl (kw a c9 σ) H) (hD : va_D A (kw a c9 σ)) (hS : va_S A s.heap H locs) (hl : lv_has ls 4 [(0, .ref (a 6)), (1, .int x1), (2, .int x2), (3, .int x3)]) (h : M_Md_match_46 σ x1 x2 x3 y0 = some (r9, σo)) : W p l e rm_Md_match s m args below meth c H locs 0 0 (MQ below (k_Qi D a c9 r9 σo A) args s 0 0 A) (F0 m 46 ls [.int y0, .ref (a 6)]) := by
  obtain ⟨hx, hb, hml, hown, hts, hr, hlk, hK, hN, hA⟩ := id C0
  unfold M_Md_match_46 at h
  obtain ⟨σ1, eσ1, h⟩ := k_set_e h
  refine va_put (ci := 1) (v := .int y0) (ty := .int) (C := R_Md) (T := T_Md) (N := 44) hx hb hts in_Md t_Md t_Md_ok n_Md hown hK hP hD hS 6 kw_6 rfl 0 (by decide) (hts _ q_713) (fun _ h9 => h9) rfl (by decide +kernel) rfl rfl (Nat.le_of_ble_eq_true rfl) d_Md_match_46 (fun H locs hP hD hS => ?_)
  replace hP := k_mvP (kw_f6_0.trans (congrArg _ eσ1.symm)) hP
  replace hD := k_mvD (kw_f6_0.trans (congrArg _ eσ1.symm)) hD
  refine lv_aload_n hx hb d_Md_match_49 rfl (lv_at hl 0 rfl) ?_
  refine va_get (ci := 1) (C := R_Md) (T := T_Md) (N := 44) hx hb hts in_Md hown hK hP 6 kw_6 rfl 0 (by decide) (hts _ q_713) (fun _ h9 => h9) rfl d_Md_match_50 ?_
  refine lv_if_eq (tgt := 58) hx hb d_Md_match_53 (by decide) (fun cn2 => ?_) (fun cn2 => ?_)
  · replace h := (if_pos cn2).symm.trans h
    refine lv_aload_n hx hb d_Md_match_58 rfl (lv_at hl 0 rfl) ?_
    refine lv_iload_n hx hb d_Md_match_59 rfl (lv_at hl 1 rfl) ?_
    refine lv_iload_n hx hb d_Md_match_60 rfl (lv_at hl 2 rfl) ?_
    refine lv_iload_n hx hb d_Md_match_61 rfl (lv_at hl 3 rfl) ?_
    obtain ⟨v3, σ4, hc5, h⟩ := k_call_e h
    refine k_callv (va_runV (As := [.int x1, .int x2, .int x3]) (rest := []) ⟨hx, hb, hml, hown, hts⟩ (K_Md_search l D a c9 H.size hc5) (cwV 3 hts (k_gV q_889 q_891 s_21 q_7 q_892) rfl rfl rfl h_Md_search ⟨Nat.le_of_ble_eq_true rfl, Nat.le_of_ble_eq_true rfl⟩) (k_preV (ci := 1) (q0 := 6) rfl kw_6 hP hK hN hD) rfl rfl hl.1 rfl (lv_room (Nat.le_of_ble_eq_true rfl)) d_Md_match_62 ⟨Nat.zero_le _, Nat.zero_le _⟩) hD hS hA (fun H locs hP hD hS => ?_)
    refine lv_aload_n hx hb d_Md_match_65 rfl (lv_at hl 0 rfl) ?_
    refine va_get (ci := 1) (C := R_Md) (T := T_Md) (N := 44) hx hb hts in_Md hown hK hP 6 kw_6 rfl 28 (by decide) (hts _ q_741) (fun _ h9 => h9) rfl d_Md_match_66 ?_
    refine lv_if_eq (tgt := 76) hx hb d_Md_match_69 (by decide) (fun cn6 => ?_) (fun cn6 => ?_)
    · replace h := (if_pos cn6).symm.trans h
      refine lv_aload_n hx hb d_Md_match_76 rfl (lv_at hl 0 rfl) ?_
      refine va_get (ci := 1) (C := R_Md) (T := T_Md) (N := 44) hx hb hts in_Md hown hK hP 6 kw_6 rfl 27 (by decide) (hts _ q_740) (fun _ h9 => h9) rfl d_Md_match_77 ?_
      cases h
      exact k_iret hx hb hr hlk hP hS d_Md_match_80
    · replace h := (if_neg cn6).symm.trans h
      refine lv_iconst (v := (-1)) hx hb d_Md_match_72 (by decide) ?_
      refine lv_goto (tgt := 80) hx hb d_Md_match_73 (by decide) ?_
      cases h
      exact k_iret hx hb hr hlk hP hS d_Md_match_80
  · replace h := (if_neg cn2).symm.trans h
    refine lv_iconst (v := 0) hx hb d_Md_match_56 (by decide) ?_
    cases h
    exact k_iret hx hb hr hlk hP hS d_Md_match_57
def M_Md_match_17 (σ : kS) (x1 x2 x3 : Int32) : Option (Int32 × kS) := M_Md_match_46 σ x1 x2 x3 1
set_option maxHeartbeats 4000000 in
set_option maxRecDepth 100000 in
theorem B_Md_match_17 {p : Program} {l : Launch} {e : Env} {s : State} {m : MethodId} {args : Array Value} {below : List Frame} {meth : Method} {c : Code} {D : va_G} {a : Nat → Nat} {c9 : Nat → ClassId} {A : Nat → Prop} {r9 : Int32} {σo : kS} (C0 : k_Cx D c9 p s m args meth c R_Md c_Md_match 4 (some .int) A) (σ : kS) (x1 x2 x3 : Int32) (H : Heap) (locs : List Loc) (ls : Array Slot) (hP : va_P D kcl (kw a c9 σ) H) (hD : va_D A (kw a c9 σ)) (hS : va_S A s.heap H locs) (hl : lv_has ls 4 [(0, .ref (a 6)), (1, .int x1), (2, .int x2), (3, .int x3)]) (h : M_Md_match_17 σ x1 x2 x3 = some (r9, σo)) : W p l e rm_Md_match s m args below meth c H locs 0 0 (MQ below (k_Qi D a c9 r9 σo A) args s 0 0 A) (F0 m 17 ls [.ref (a 6)]) := by
  obtain ⟨hx, hb, hml, hown, hts, hr, hlk, hK, hN, hA⟩ := id C0
  unfold M_Md_match_17 at h
  refine lv_iconst (v := 1) hx hb d_Md_match_17 (by decide) ?_
  refine lv_goto (tgt := 46) hx hb d_Md_match_18 (by decide) ?_
  exact B_Md_match_46 C0 _ _ _ _ _ H locs ls hP hD hS (lv_sub hl [0, 1, 2, 3] rfl) h
def M_Md_match_41 (σ : kS) (x1 x2 x3 : Int32) : Option (Int32 × kS) := M_Md_match_46 σ x1 x2 x3 2
set_option maxHeartbeats 4000000 in
set_option maxRecDepth 100000 in
theorem B_Md_match_41 {p : Program} {l : Launch} {e : Env} {s : State} {m : MethodId} {args : Array Value} {below : List Frame} {meth : Method} {c : Code} {D : va_G} {a : Nat → Nat} {c9 : Nat → ClassId} {A : Nat → Prop} {r9 : Int32} {σo : kS} (C0 : k_Cx D c9 p s m args meth c R_Md c_Md_match 4 (some .int) A) (σ : kS) (x1 x2 x3 : Int32) (H : Heap) (locs : List Loc) (ls : Array Slot) (hP : va_P D kcl (kw a c9 σ) H) (hD : va_D A (kw a c9 σ)) (hS : va_S A s.heap H locs) (hl : lv_has ls 4 [(0, .ref (a 6)), (1, .int x1), (2, .int x2), (3, .int x3)]) (h : M_Md_match_41 σ x1 x2 x3 = some (r9, σo)) : W p l e rm_Md_match s m args below meth c H locs 0 0 (MQ below (k_Qi D a c9 r9 σo A) args s 0 0 A) (F0 m 41 ls [.ref (a 6)]) := by
  obtain ⟨hx, hb, hml, hown, hts, hr, hlk, hK, hN, hA⟩ := id C0
  unfold M_Md_match_41 at h
  refine lv_iconst (v := 2) hx hb d_Md_match_41 (by decide) ?_
  refine lv_goto (tgt := 46) hx hb d_Md_match_42 (by decide) ?_
  exact B_Md_match_46 C0 _ _ _ _ _ H locs ls hP hD hS (lv_sub hl [0, 1, 2, 3] rfl) h
def M_Md_match (σ : kS) (x1 x2 x3 : Int32) : Option (Int32 × kS) := k_call (M_Md_noTree σ x1) fun v1 σ2 => if v1 = 0 then (k_call (M_Md_noTree σ2 x2) fun v5 σ6 => if v5 = 0 then (k_ld (σ6.2.1 31) 240 (x2) fun v9 => if v9 = 0 then (M_Md_match_41 σ6 x1 x2 x3) else (if x3 < 0 then (M_Md_match_41 σ6 x1 x2 x3) else (if x3 ≤ 400 then (M_Md_match_46 σ6 x1 x2 x3 0) else (M_Md_match_41 σ6 x1 x2 x3)))) else (M_Md_match_17 σ6 x1 x2 x3)) else (M_Md_match_17 σ2 x1 x2 x3)
set_option maxHeartbeats 4000000 in
set_option maxRecDepth 100000 in
theorem B_Md_match_0 {p : Program} {l : Launch} {e : Env} {s : State} {m : MethodId} {args : Array Value} {below : List Frame} {meth : Method} {c : Code} {D : va_G} {a : Nat → Nat} {c9 : Nat → ClassId} {A : Nat → Prop} {r9 : Int32} {σo : kS} (C0 : k_Cx D c9 p s m args meth c R_Md c_Md_match 4 (some .int) A) (σ : kS) (x1 x2 x3 : Int32) (H : Heap) (locs : List Loc) (ls : Array Slot) (hP : va_P D kcl (kw a c9 σ) H) (hD : va_D A (kw a c9 σ)) (hS : va_S A s.heap H locs) (hl : lv_has ls 4 [(0, .ref (a 6)), (1, .int x1), (2, .int x2), (3, .int x3)]) (h : M_Md_match σ x1 x2 x3 = some (r9, σo)) : W p l e rm_Md_match s m args below meth c H locs 0 0 (MQ below (k_Qi D a c9 r9 σo A) args s 0 0 A) (F0 m 0 ls []) := by
  obtain ⟨hx, hb, hml, hown, hts, hr, hlk, hK, hN, hA⟩ := id C0
  unfold M_Md_match at h
  refine lv_aload_n hx hb d_Md_match_0 rfl (lv_at hl 0 rfl) ?_
  refine lv_aload_n hx hb d_Md_match_1 rfl (lv_at hl 0 rfl) ?_
  refine lv_iload_n hx hb d_Md_match_2 rfl (lv_at hl 1 rfl) ?_
  obtain ⟨v1, σ2, hc3, h⟩ := k_call_e h
  refine k_calli (va_runV (As := [.int x1]) (rest := [.ref (a 6)]) ⟨hx, hb, hml, hown, hts⟩ (K_Md_noTree l D a c9 H.size hc3) (cwV 1 hts (k_gV q_870 q_872 s_19 q_7 q_873) rfl rfl rfl h_Md_noTree ⟨Nat.le_of_ble_eq_true rfl, Nat.le_of_ble_eq_true rfl⟩) (k_preV (ci := 1) (q0 := 6) rfl kw_6 hP hK hN hD) rfl rfl hl.1 rfl (lv_room (Nat.le_of_ble_eq_true rfl)) d_Md_match_3 ⟨Nat.zero_le _, Nat.zero_le _⟩) hD hS hA (fun H locs hP hD hS => ?_)
  refine lv_if_ne (tgt := 17) hx hb d_Md_match_6 (by decide) (fun cn4 => ?_) (fun cn4 => ?_)
  · replace h := (if_neg cn4).symm.trans h
    exact B_Md_match_17 C0 _ _ _ _ H locs ls hP hD hS (lv_sub hl [0, 1, 2, 3] rfl) h
  · replace h := (if_pos cn4).symm.trans h
    refine lv_aload_n hx hb d_Md_match_9 rfl (lv_at hl 0 rfl) ?_
    refine lv_iload_n hx hb d_Md_match_10 rfl (lv_at hl 2 rfl) ?_
    obtain ⟨v5, σ6, hc7, h⟩ := k_call_e h
    refine k_calli (va_runV (As := [.int x2]) (rest := [.ref (a 6)]) ⟨hx, hb, hml, hown, hts⟩ (K_Md_noTree l D a c9 H.size hc7) (cwV 1 hts (k_gV q_870 q_872 s_19 q_7 q_873) rfl rfl rfl h_Md_noTree ⟨Nat.le_of_ble_eq_true rfl, Nat.le_of_ble_eq_true rfl⟩) (k_preV (ci := 1) (q0 := 6) rfl kw_6 hP hK hN hD) rfl rfl hl.1 rfl (lv_room (Nat.le_of_ble_eq_true rfl)) d_Md_match_11 ⟨Nat.zero_le _, Nat.zero_le _⟩) hD hS hA (fun H locs hP hD hS => ?_)
    refine lv_if_eq (tgt := 21) hx hb d_Md_match_14 (by decide) (fun cn8 => ?_) (fun cn8 => ?_)
    · replace h := (if_pos cn8).symm.trans h
      refine lv_aload_n hx hb d_Md_match_21 rfl (lv_at hl 0 rfl) ?_
      refine va_get (ci := 1) (C := R_Md) (T := T_Md) (N := 44) hx hb hts in_Md hown hK hP 6 kw_6 rfl 7 (by decide) (hts _ q_720) (fun _ h9 => h9) rfl d_Md_match_22 ?_
      refine lv_iload_n hx hb d_Md_match_25 rfl (lv_at hl 2 rfl) ?_
      obtain ⟨v9, ev9, hv9, h⟩ := k_ld_e h
      refine va_zald hx hb hK hP 38 1 kw_38 rfl hv9 d_Md_match_26 (k_top ev9 ?_)
      refine lv_if_eq (tgt := 41) hx hb d_Md_match_27 (by decide) (fun cn10 => ?_) (fun cn10 => ?_)
      · replace h := (if_pos cn10).symm.trans h
        exact B_Md_match_41 C0 _ _ _ _ H locs ls hP hD hS (lv_sub hl [0, 1, 2, 3] rfl) h
      · replace h := (if_neg cn10).symm.trans h
        refine lv_iload_n hx hb d_Md_match_30 rfl (lv_at hl 3 rfl) ?_
        refine lv_if_lt (tgt := 41) hx hb d_Md_match_31 (by decide) (fun cn11 => ?_) (fun cn11 => ?_)
        · replace h := (if_pos cn11).symm.trans h
          exact B_Md_match_41 C0 _ _ _ _ H locs ls hP hD hS (lv_sub hl [0, 1, 2, 3] rfl) h
        · replace h := (if_neg cn11).symm.trans h
          refine lv_iload_n hx hb d_Md_match_34 rfl (lv_at hl 3 rfl) ?_
          refine lv_sipush (v := 400) hx hb d_Md_match_35 (by decide) ?_
          refine lv_icmp_le (tgt := 45) hx hb d_Md_match_38 (by decide) (fun cn12 => ?_) (fun cn12 => ?_)
          · replace h := (if_pos cn12).symm.trans h
            refine lv_iconst (v := 0) hx hb d_Md_match_45 (by decide) ?_
            exact B_Md_match_46 C0 _ _ _ _ _ H locs ls hP hD hS (lv_sub hl [0, 1, 2, 3] rfl) h
          · replace h := (if_neg cn12).symm.trans h
            exact B_Md_match_41 C0 _ _ _ _ H locs ls hP hD hS (lv_sub hl [0, 1, 2, 3] rfl) h
    · replace h := (if_neg cn8).symm.trans h
      exact B_Md_match_17 C0 _ _ _ _ H locs ls hP hD hS (lv_sub hl [0, 1, 2, 3] rfl) h
theorem K_Md_match (l : Launch) (D : va_G) (a : Nat → Nat) (c9 : Nat → ClassId) (sz : Nat) {σ : kS} {x1 x2 x3 : Int32} {r9 : Int32} {σo : kS} (h : M_Md_match σ x1 x2 x3 = some (r9, σo)) : Met l y_Md_match (Cond.code y_Md_match c_Md_match 4 (some .int) :: kG) rm_Md_match (k_Pc D a c9 sz σ [.ref (a 6), .int x1, .int x2, .int x3]) (k_Qi D a c9 r9 σo (k_A a c9 σ sz)) 0 0 (k_A a c9 σ sz) :=
  k_met (Qf := k_Qi D a c9 r9 σo) (by decide) (Nat.le_of_ble_eq_true rfl) (fun p e s m args below meth c A ls C0 hP hD hS hl => B_Md_match_0 C0 σ x1 x2 x3 s.heap [] ls hP hD hS hl h)
def rm_Md_tried : Room := { frames := 0, cells := 0, slots := 0, locals := 0 }
def M_Md_tried (σ : kS) : Option (Int32 × kS) := k_set σ 10 (0) fun σ1 => some (σ1.1 16, σ1)
set_option maxHeartbeats 4000000 in
set_option maxRecDepth 100000 in
theorem B_Md_tried_0 {p : Program} {l : Launch} {e : Env} {s : State} {m : MethodId} {args : Array Value} {below : List Frame} {meth : Method} {c : Code} {D : va_G} {a : Nat → Nat} {c9 : Nat → ClassId} {A : Nat → Prop} {r9 : Int32} {σo : kS} (C0 : k_Cx D c9 p s m args meth c R_Md c_Md_tried 1 (some .int) A) (σ : kS) (H : Heap) (locs : List Loc) (ls : Array Slot) (hP : va_P D kcl (kw a c9 σ) H) (hD : va_D A (kw a c9 σ)) (hS : va_S A s.heap H locs) (hl : lv_has ls 1 [(0, .ref (a 6))]) (h : M_Md_tried σ  = some (r9, σo)) : W p l e rm_Md_tried s m args below meth c H locs 0 0 (MQ below (k_Qi D a c9 r9 σo A) args s 0 0 A) (F0 m 0 ls []) := by
  obtain ⟨hx, hb, hml, hown, hts, hr, hlk, hK, hN, hA⟩ := id C0
  unfold M_Md_tried at h
  refine lv_aload_n hx hb d_Md_tried_0 rfl (lv_at hl 0 rfl) ?_
  refine lv_iconst (v := 0) hx hb d_Md_tried_1 (by decide) ?_
  obtain ⟨σ1, eσ1, h⟩ := k_set_e h
  refine va_put (ci := 1) (v := .int 0) (ty := .int) (C := R_Md) (T := T_Md) (N := 44) hx hb hts in_Md t_Md t_Md_ok n_Md hown hK hP hD hS 6 kw_6 rfl 0 (by decide) (hts _ q_713) (fun _ h9 => h9) rfl (by decide +kernel) rfl rfl (Nat.le_of_ble_eq_true rfl) d_Md_tried_2 (fun H locs hP hD hS => ?_)
  replace hP := k_mvP (kw_f6_0.trans (congrArg _ eσ1.symm)) hP
  replace hD := k_mvD (kw_f6_0.trans (congrArg _ eσ1.symm)) hD
  refine lv_aload_n hx hb d_Md_tried_5 rfl (lv_at hl 0 rfl) ?_
  refine va_get (ci := 1) (C := R_Md) (T := T_Md) (N := 44) hx hb hts in_Md hown hK hP 6 kw_6 rfl 25 (by decide) (hts _ q_738) (fun _ h9 => h9) rfl d_Md_tried_6 ?_
  cases h
  exact k_iret hx hb hr hlk hP hS d_Md_tried_9
theorem K_Md_tried (l : Launch) (D : va_G) (a : Nat → Nat) (c9 : Nat → ClassId) (sz : Nat) {σ : kS} {r9 : Int32} {σo : kS} (h : M_Md_tried σ  = some (r9, σo)) : Met l y_Md_tried (Cond.code y_Md_tried c_Md_tried 1 (some .int) :: kG) rm_Md_tried (k_Pc D a c9 sz σ [.ref (a 6)]) (k_Qi D a c9 r9 σo (k_A a c9 σ sz)) 0 0 (k_A a c9 σ sz) :=
  k_met (Qf := k_Qi D a c9 r9 σo) (by decide) (Nat.le_of_ble_eq_true rfl) (fun p e s m args below meth c A ls C0 hP hD hS hl => B_Md_tried_0 C0 σ  s.heap [] ls hP hD hS hl h)
def rm_Md_bound : Room := { frames := 0, cells := 0, slots := 0, locals := 0 }
def M_Md_bound_32 (σ : kS) (x1 x2 x3 y0 : Int32) : Option (Int32 × kS) := k_set σ 10 (y0) fun σ1 => if σ1.1 10 = 0 then (if x3 < 0 then (some ((-1), σ1)) else (k_ld (σ1.2.1 40) 160 (((8 * x1) + x2)) fun v4 => if x3 < v4 then (k_ld (σ1.2.1 41) 1920 ((((96 * x1) + (12 * x2)) + x3)) fun v6 => some (v6, σ1)) else (some ((-1), σ1)))) else (some (0, σ1))
set_option maxHeartbeats 4000000 in
set_option maxRecDepth 100000 in
theorem B_Md_bound_32 {p : Program} {l : Launch} {e : Env} {s : State} {m : MethodId} {args : Array Value} {below : List Frame} {meth : Method} {c : Code} {D : va_G} {a : Nat → Nat} {c9 : Nat → ClassId} {A : Nat → Prop} {r9 : Int32} {σo : kS} (C0 : k_Cx D c9 p s m args meth c R_Md c_Md_bound 4 (some .int) A) (σ : kS) (x1 x2 x3 y0 : Int32) (H : Heap) (locs : List Loc) (ls : Array Slot) (hP : va_P D kcl (kw a c9 σ) H) (hD : va_D A (kw a c9 σ)) (hS : va_S A s.heap H locs) (hl : lv_has ls 4 [(0, .ref (a 6)), (1, .int x1), (2, .int x2), (3, .int x3)]) (h : M_Md_bound_32 σ x1 x2 x3 y0 = some (r9, σo)) : W p l e rm_Md_bound s m args below meth c H locs 0 0 (MQ below (k_Qi D a c9 r9 σo A) args s 0 0 A) (F0 m 32 ls [.int y0, .ref (a 6)]) := by
  obtain ⟨hx, hb, hml, hown, hts, hr, hlk, hK, hN, hA⟩ := id C0
  unfold M_Md_bound_32 at h
  obtain ⟨σ1, eσ1, h⟩ := k_set_e h
  refine va_put (ci := 1) (v := .int y0) (ty := .int) (C := R_Md) (T := T_Md) (N := 44) hx hb hts in_Md t_Md t_Md_ok n_Md hown hK hP hD hS 6 kw_6 rfl 0 (by decide) (hts _ q_713) (fun _ h9 => h9) rfl (by decide +kernel) rfl rfl (Nat.le_of_ble_eq_true rfl) d_Md_bound_32 (fun H locs hP hD hS => ?_)
  replace hP := k_mvP (kw_f6_0.trans (congrArg _ eσ1.symm)) hP
  replace hD := k_mvD (kw_f6_0.trans (congrArg _ eσ1.symm)) hD
  refine lv_aload_n hx hb d_Md_bound_35 rfl (lv_at hl 0 rfl) ?_
  refine va_get (ci := 1) (C := R_Md) (T := T_Md) (N := 44) hx hb hts in_Md hown hK hP 6 kw_6 rfl 0 (by decide) (hts _ q_713) (fun _ h9 => h9) rfl d_Md_bound_36 ?_
  refine lv_if_eq (tgt := 44) hx hb d_Md_bound_39 (by decide) (fun cn2 => ?_) (fun cn2 => ?_)
  · replace h := (if_pos cn2).symm.trans h
    refine lv_iload_n hx hb d_Md_bound_44 rfl (lv_at hl 3 rfl) ?_
    refine lv_if_lt (tgt := 63) hx hb d_Md_bound_45 (by decide) (fun cn3 => ?_) (fun cn3 => ?_)
    · replace h := (if_pos cn3).symm.trans h
      refine lv_iconst (v := (-1)) hx hb d_Md_bound_63 (by decide) ?_
      refine lv_goto (tgt := 83) hx hb d_Md_bound_64 (by decide) ?_
      cases h
      exact k_iret hx hb hr hlk hP hS d_Md_bound_83
    · replace h := (if_neg cn3).symm.trans h
      refine lv_iload_n hx hb d_Md_bound_48 rfl (lv_at hl 3 rfl) ?_
      refine lv_aload_n hx hb d_Md_bound_49 rfl (lv_at hl 0 rfl) ?_
      refine va_get (ci := 1) (C := R_Md) (T := T_Md) (N := 44) hx hb hts in_Md hown hK hP 6 kw_6 rfl 19 (by decide) (hts _ q_732) (fun _ h9 => h9) rfl d_Md_bound_50 ?_
      refine lv_bipush (v := 8) hx hb d_Md_bound_53 (by decide) ?_
      refine lv_iload_n hx hb d_Md_bound_55 rfl (lv_at hl 1 rfl) ?_
      refine lv_imul hx hb d_Md_bound_56 ?_
      refine lv_iload_n hx hb d_Md_bound_57 rfl (lv_at hl 2 rfl) ?_
      refine lv_iadd hx hb d_Md_bound_58 ?_
      obtain ⟨v4, ev4, hv4, h⟩ := k_ld_e h
      refine va_iald hx hb hK hP 47 0 kw_47 rfl hv4 d_Md_bound_59 (k_top ev4 ?_)
      refine lv_icmp_lt (tgt := 67) hx hb d_Md_bound_60 (by decide) (fun cn5 => ?_) (fun cn5 => ?_)
      · replace h := (if_pos cn5).symm.trans h
        refine lv_aload_n hx hb d_Md_bound_67 rfl (lv_at hl 0 rfl) ?_
        refine va_get (ci := 1) (C := R_Md) (T := T_Md) (N := 44) hx hb hts in_Md hown hK hP 6 kw_6 rfl 20 (by decide) (hts _ q_733) (fun _ h9 => h9) rfl d_Md_bound_68 ?_
        refine lv_bipush (v := 96) hx hb d_Md_bound_71 (by decide) ?_
        refine lv_iload_n hx hb d_Md_bound_73 rfl (lv_at hl 1 rfl) ?_
        refine lv_imul hx hb d_Md_bound_74 ?_
        refine lv_bipush (v := 12) hx hb d_Md_bound_75 (by decide) ?_
        refine lv_iload_n hx hb d_Md_bound_77 rfl (lv_at hl 2 rfl) ?_
        refine lv_imul hx hb d_Md_bound_78 ?_
        refine lv_iadd hx hb d_Md_bound_79 ?_
        refine lv_iload_n hx hb d_Md_bound_80 rfl (lv_at hl 3 rfl) ?_
        refine lv_iadd hx hb d_Md_bound_81 ?_
        obtain ⟨v6, ev6, hv6, h⟩ := k_ld_e h
        refine va_iald hx hb hK hP 48 0 kw_48 rfl hv6 d_Md_bound_82 (k_top ev6 ?_)
        cases h
        exact k_iret hx hb hr hlk hP hS d_Md_bound_83
      · replace h := (if_neg cn5).symm.trans h
        refine lv_iconst (v := (-1)) hx hb d_Md_bound_63 (by decide) ?_
        refine lv_goto (tgt := 83) hx hb d_Md_bound_64 (by decide) ?_
        cases h
        exact k_iret hx hb hr hlk hP hS d_Md_bound_83
  · replace h := (if_neg cn2).symm.trans h
    refine lv_iconst (v := 0) hx hb d_Md_bound_42 (by decide) ?_
    cases h
    exact k_iret hx hb hr hlk hP hS d_Md_bound_43
def M_Md_bound_13 (σ : kS) (x1 x2 x3 : Int32) : Option (Int32 × kS) := M_Md_bound_32 σ x1 x2 x3 1
set_option maxHeartbeats 4000000 in
set_option maxRecDepth 100000 in
theorem B_Md_bound_13 {p : Program} {l : Launch} {e : Env} {s : State} {m : MethodId} {args : Array Value} {below : List Frame} {meth : Method} {c : Code} {D : va_G} {a : Nat → Nat} {c9 : Nat → ClassId} {A : Nat → Prop} {r9 : Int32} {σo : kS} (C0 : k_Cx D c9 p s m args meth c R_Md c_Md_bound 4 (some .int) A) (σ : kS) (x1 x2 x3 : Int32) (H : Heap) (locs : List Loc) (ls : Array Slot) (hP : va_P D kcl (kw a c9 σ) H) (hD : va_D A (kw a c9 σ)) (hS : va_S A s.heap H locs) (hl : lv_has ls 4 [(0, .ref (a 6)), (1, .int x1), (2, .int x2), (3, .int x3)]) (h : M_Md_bound_13 σ x1 x2 x3 = some (r9, σo)) : W p l e rm_Md_bound s m args below meth c H locs 0 0 (MQ below (k_Qi D a c9 r9 σo A) args s 0 0 A) (F0 m 13 ls [.ref (a 6)]) := by
  obtain ⟨hx, hb, hml, hown, hts, hr, hlk, hK, hN, hA⟩ := id C0
  unfold M_Md_bound_13 at h
  refine lv_iconst (v := 1) hx hb d_Md_bound_13 (by decide) ?_
  refine lv_goto (tgt := 32) hx hb d_Md_bound_14 (by decide) ?_
  exact B_Md_bound_32 C0 _ _ _ _ _ H locs ls hP hD hS (lv_sub hl [0, 1, 2, 3] rfl) h
def M_Md_bound_27 (σ : kS) (x1 x2 x3 : Int32) : Option (Int32 × kS) := M_Md_bound_32 σ x1 x2 x3 2
set_option maxHeartbeats 4000000 in
set_option maxRecDepth 100000 in
theorem B_Md_bound_27 {p : Program} {l : Launch} {e : Env} {s : State} {m : MethodId} {args : Array Value} {below : List Frame} {meth : Method} {c : Code} {D : va_G} {a : Nat → Nat} {c9 : Nat → ClassId} {A : Nat → Prop} {r9 : Int32} {σo : kS} (C0 : k_Cx D c9 p s m args meth c R_Md c_Md_bound 4 (some .int) A) (σ : kS) (x1 x2 x3 : Int32) (H : Heap) (locs : List Loc) (ls : Array Slot) (hP : va_P D kcl (kw a c9 σ) H) (hD : va_D A (kw a c9 σ)) (hS : va_S A s.heap H locs) (hl : lv_has ls 4 [(0, .ref (a 6)), (1, .int x1), (2, .int x2), (3, .int x3)]) (h : M_Md_bound_27 σ x1 x2 x3 = some (r9, σo)) : W p l e rm_Md_bound s m args below meth c H locs 0 0 (MQ below (k_Qi D a c9 r9 σo A) args s 0 0 A) (F0 m 27 ls [.ref (a 6)]) := by
  obtain ⟨hx, hb, hml, hown, hts, hr, hlk, hK, hN, hA⟩ := id C0
  unfold M_Md_bound_27 at h
  refine lv_iconst (v := 2) hx hb d_Md_bound_27 (by decide) ?_
  refine lv_goto (tgt := 32) hx hb d_Md_bound_28 (by decide) ?_
  exact B_Md_bound_32 C0 _ _ _ _ _ H locs ls hP hD hS (lv_sub hl [0, 1, 2, 3] rfl) h
def M_Md_bound (σ : kS) (x1 x2 x3 : Int32) : Option (Int32 × kS) := if x1 < 0 then (M_Md_bound_13 σ x1 x2 x3) else (if x1 < σ.1 14 then (if x2 < 0 then (M_Md_bound_27 σ x1 x2 x3) else (if x2 ≤ 7 then (M_Md_bound_32 σ x1 x2 x3 0) else (M_Md_bound_27 σ x1 x2 x3))) else (M_Md_bound_13 σ x1 x2 x3))
set_option maxHeartbeats 4000000 in
set_option maxRecDepth 100000 in
theorem B_Md_bound_0 {p : Program} {l : Launch} {e : Env} {s : State} {m : MethodId} {args : Array Value} {below : List Frame} {meth : Method} {c : Code} {D : va_G} {a : Nat → Nat} {c9 : Nat → ClassId} {A : Nat → Prop} {r9 : Int32} {σo : kS} (C0 : k_Cx D c9 p s m args meth c R_Md c_Md_bound 4 (some .int) A) (σ : kS) (x1 x2 x3 : Int32) (H : Heap) (locs : List Loc) (ls : Array Slot) (hP : va_P D kcl (kw a c9 σ) H) (hD : va_D A (kw a c9 σ)) (hS : va_S A s.heap H locs) (hl : lv_has ls 4 [(0, .ref (a 6)), (1, .int x1), (2, .int x2), (3, .int x3)]) (h : M_Md_bound σ x1 x2 x3 = some (r9, σo)) : W p l e rm_Md_bound s m args below meth c H locs 0 0 (MQ below (k_Qi D a c9 r9 σo A) args s 0 0 A) (F0 m 0 ls []) := by
  obtain ⟨hx, hb, hml, hown, hts, hr, hlk, hK, hN, hA⟩ := id C0
  unfold M_Md_bound at h
  refine lv_aload_n hx hb d_Md_bound_0 rfl (lv_at hl 0 rfl) ?_
  refine lv_iload_n hx hb d_Md_bound_1 rfl (lv_at hl 1 rfl) ?_
  refine lv_if_lt (tgt := 13) hx hb d_Md_bound_2 (by decide) (fun cn1 => ?_) (fun cn1 => ?_)
  · replace h := (if_pos cn1).symm.trans h
    exact B_Md_bound_13 C0 _ _ _ _ H locs ls hP hD hS (lv_sub hl [0, 1, 2, 3] rfl) h
  · replace h := (if_neg cn1).symm.trans h
    refine lv_iload_n hx hb d_Md_bound_5 rfl (lv_at hl 1 rfl) ?_
    refine lv_aload_n hx hb d_Md_bound_6 rfl (lv_at hl 0 rfl) ?_
    refine va_get (ci := 1) (C := R_Md) (T := T_Md) (N := 44) hx hb hts in_Md hown hK hP 6 kw_6 rfl 18 (by decide) (hts _ q_731) (fun _ h9 => h9) rfl d_Md_bound_7 ?_
    refine lv_icmp_lt (tgt := 17) hx hb d_Md_bound_10 (by decide) (fun cn2 => ?_) (fun cn2 => ?_)
    · replace h := (if_pos cn2).symm.trans h
      refine lv_iload_n hx hb d_Md_bound_17 rfl (lv_at hl 2 rfl) ?_
      refine lv_if_lt (tgt := 27) hx hb d_Md_bound_18 (by decide) (fun cn3 => ?_) (fun cn3 => ?_)
      · replace h := (if_pos cn3).symm.trans h
        exact B_Md_bound_27 C0 _ _ _ _ H locs ls hP hD hS (lv_sub hl [0, 1, 2, 3] rfl) h
      · replace h := (if_neg cn3).symm.trans h
        refine lv_iload_n hx hb d_Md_bound_21 rfl (lv_at hl 2 rfl) ?_
        refine lv_bipush (v := 7) hx hb d_Md_bound_22 (by decide) ?_
        refine lv_icmp_le (tgt := 31) hx hb d_Md_bound_24 (by decide) (fun cn4 => ?_) (fun cn4 => ?_)
        · replace h := (if_pos cn4).symm.trans h
          refine lv_iconst (v := 0) hx hb d_Md_bound_31 (by decide) ?_
          exact B_Md_bound_32 C0 _ _ _ _ _ H locs ls hP hD hS (lv_sub hl [0, 1, 2, 3] rfl) h
        · replace h := (if_neg cn4).symm.trans h
          exact B_Md_bound_27 C0 _ _ _ _ H locs ls hP hD hS (lv_sub hl [0, 1, 2, 3] rfl) h
    · replace h := (if_neg cn2).symm.trans h
      exact B_Md_bound_13 C0 _ _ _ _ H locs ls hP hD hS (lv_sub hl [0, 1, 2, 3] rfl) h
theorem K_Md_bound (l : Launch) (D : va_G) (a : Nat → Nat) (c9 : Nat → ClassId) (sz : Nat) {σ : kS} {x1 x2 x3 : Int32} {r9 : Int32} {σo : kS} (h : M_Md_bound σ x1 x2 x3 = some (r9, σo)) : Met l y_Md_bound (Cond.code y_Md_bound c_Md_bound 4 (some .int) :: kG) rm_Md_bound (k_Pc D a c9 sz σ [.ref (a 6), .int x1, .int x2, .int x3]) (k_Qi D a c9 r9 σo (k_A a c9 σ sz)) 0 0 (k_A a c9 σ sz) :=
  k_met (Qf := k_Qi D a c9 r9 σo) (by decide) (Nat.le_of_ble_eq_true rfl) (fun p e s m args below meth c A ls C0 hP hD hS hl => B_Md_bound_0 C0 σ x1 x2 x3 s.heap [] ls hP hD hS hl h)
def rm_Md_many : Room := { frames := 0, cells := 0, slots := 0, locals := 0 }
def M_Md_many_32 (σ : kS) (x1 x2 y0 : Int32) : Option (Int32 × kS) := k_set σ 10 (y0) fun σ1 => if σ1.1 10 = 0 then (k_ld (σ1.2.1 40) 160 (((8 * x1) + x2)) fun v3 => some (v3, σ1)) else (some (0, σ1))
set_option maxHeartbeats 4000000 in
set_option maxRecDepth 100000 in
theorem B_Md_many_32 {p : Program} {l : Launch} {e : Env} {s : State} {m : MethodId} {args : Array Value} {below : List Frame} {meth : Method} {c : Code} {D : va_G} {a : Nat → Nat} {c9 : Nat → ClassId} {A : Nat → Prop} {r9 : Int32} {σo : kS} (C0 : k_Cx D c9 p s m args meth c R_Md c_Md_many 3 (some .int) A) (σ : kS) (x1 x2 y0 : Int32) (H : Heap) (locs : List Loc) (ls : Array Slot) (hP : va_P D kcl (kw a c9 σ) H) (hD : va_D A (kw a c9 σ)) (hS : va_S A s.heap H locs) (hl : lv_has ls 3 [(0, .ref (a 6)), (1, .int x1), (2, .int x2)]) (h : M_Md_many_32 σ x1 x2 y0 = some (r9, σo)) : W p l e rm_Md_many s m args below meth c H locs 0 0 (MQ below (k_Qi D a c9 r9 σo A) args s 0 0 A) (F0 m 32 ls [.int y0, .ref (a 6)]) := by
  obtain ⟨hx, hb, hml, hown, hts, hr, hlk, hK, hN, hA⟩ := id C0
  unfold M_Md_many_32 at h
  obtain ⟨σ1, eσ1, h⟩ := k_set_e h
  refine va_put (ci := 1) (v := .int y0) (ty := .int) (C := R_Md) (T := T_Md) (N := 44) hx hb hts in_Md t_Md t_Md_ok n_Md hown hK hP hD hS 6 kw_6 rfl 0 (by decide) (hts _ q_713) (fun _ h9 => h9) rfl (by decide +kernel) rfl rfl (Nat.le_of_ble_eq_true rfl) d_Md_many_32 (fun H locs hP hD hS => ?_)
  replace hP := k_mvP (kw_f6_0.trans (congrArg _ eσ1.symm)) hP
  replace hD := k_mvD (kw_f6_0.trans (congrArg _ eσ1.symm)) hD
  refine lv_aload_n hx hb d_Md_many_35 rfl (lv_at hl 0 rfl) ?_
  refine va_get (ci := 1) (C := R_Md) (T := T_Md) (N := 44) hx hb hts in_Md hown hK hP 6 kw_6 rfl 0 (by decide) (hts _ q_713) (fun _ h9 => h9) rfl d_Md_many_36 ?_
  refine lv_if_eq (tgt := 46) hx hb d_Md_many_39 (by decide) (fun cn2 => ?_) (fun cn2 => ?_)
  · replace h := (if_pos cn2).symm.trans h
    refine lv_aload_n hx hb d_Md_many_46 rfl (lv_at hl 0 rfl) ?_
    refine va_get (ci := 1) (C := R_Md) (T := T_Md) (N := 44) hx hb hts in_Md hown hK hP 6 kw_6 rfl 19 (by decide) (hts _ q_732) (fun _ h9 => h9) rfl d_Md_many_47 ?_
    refine lv_bipush (v := 8) hx hb d_Md_many_50 (by decide) ?_
    refine lv_iload_n hx hb d_Md_many_52 rfl (lv_at hl 1 rfl) ?_
    refine lv_imul hx hb d_Md_many_53 ?_
    refine lv_iload_n hx hb d_Md_many_54 rfl (lv_at hl 2 rfl) ?_
    refine lv_iadd hx hb d_Md_many_55 ?_
    obtain ⟨v3, ev3, hv3, h⟩ := k_ld_e h
    refine va_iald hx hb hK hP 47 0 kw_47 rfl hv3 d_Md_many_56 (k_top ev3 ?_)
    cases h
    exact k_iret hx hb hr hlk hP hS d_Md_many_57
  · replace h := (if_neg cn2).symm.trans h
    refine lv_iconst (v := 0) hx hb d_Md_many_42 (by decide) ?_
    refine lv_goto (tgt := 57) hx hb d_Md_many_43 (by decide) ?_
    cases h
    exact k_iret hx hb hr hlk hP hS d_Md_many_57
def M_Md_many_13 (σ : kS) (x1 x2 : Int32) : Option (Int32 × kS) := M_Md_many_32 σ x1 x2 1
set_option maxHeartbeats 4000000 in
set_option maxRecDepth 100000 in
theorem B_Md_many_13 {p : Program} {l : Launch} {e : Env} {s : State} {m : MethodId} {args : Array Value} {below : List Frame} {meth : Method} {c : Code} {D : va_G} {a : Nat → Nat} {c9 : Nat → ClassId} {A : Nat → Prop} {r9 : Int32} {σo : kS} (C0 : k_Cx D c9 p s m args meth c R_Md c_Md_many 3 (some .int) A) (σ : kS) (x1 x2 : Int32) (H : Heap) (locs : List Loc) (ls : Array Slot) (hP : va_P D kcl (kw a c9 σ) H) (hD : va_D A (kw a c9 σ)) (hS : va_S A s.heap H locs) (hl : lv_has ls 3 [(0, .ref (a 6)), (1, .int x1), (2, .int x2)]) (h : M_Md_many_13 σ x1 x2 = some (r9, σo)) : W p l e rm_Md_many s m args below meth c H locs 0 0 (MQ below (k_Qi D a c9 r9 σo A) args s 0 0 A) (F0 m 13 ls [.ref (a 6)]) := by
  obtain ⟨hx, hb, hml, hown, hts, hr, hlk, hK, hN, hA⟩ := id C0
  unfold M_Md_many_13 at h
  refine lv_iconst (v := 1) hx hb d_Md_many_13 (by decide) ?_
  refine lv_goto (tgt := 32) hx hb d_Md_many_14 (by decide) ?_
  exact B_Md_many_32 C0 _ _ _ _ H locs ls hP hD hS (lv_sub hl [0, 1, 2] rfl) h
def M_Md_many_27 (σ : kS) (x1 x2 : Int32) : Option (Int32 × kS) := M_Md_many_32 σ x1 x2 2
set_option maxHeartbeats 4000000 in
set_option maxRecDepth 100000 in
theorem B_Md_many_27 {p : Program} {l : Launch} {e : Env} {s : State} {m : MethodId} {args : Array Value} {below : List Frame} {meth : Method} {c : Code} {D : va_G} {a : Nat → Nat} {c9 : Nat → ClassId} {A : Nat → Prop} {r9 : Int32} {σo : kS} (C0 : k_Cx D c9 p s m args meth c R_Md c_Md_many 3 (some .int) A) (σ : kS) (x1 x2 : Int32) (H : Heap) (locs : List Loc) (ls : Array Slot) (hP : va_P D kcl (kw a c9 σ) H) (hD : va_D A (kw a c9 σ)) (hS : va_S A s.heap H locs) (hl : lv_has ls 3 [(0, .ref (a 6)), (1, .int x1), (2, .int x2)]) (h : M_Md_many_27 σ x1 x2 = some (r9, σo)) : W p l e rm_Md_many s m args below meth c H locs 0 0 (MQ below (k_Qi D a c9 r9 σo A) args s 0 0 A) (F0 m 27 ls [.ref (a 6)]) := by
  obtain ⟨hx, hb, hml, hown, hts, hr, hlk, hK, hN, hA⟩ := id C0
  unfold M_Md_many_27 at h
  refine lv_iconst (v := 2) hx hb d_Md_many_27 (by decide) ?_
  refine lv_goto (tgt := 32) hx hb d_Md_many_28 (by decide) ?_
  exact B_Md_many_32 C0 _ _ _ _ H locs ls hP hD hS (lv_sub hl [0, 1, 2] rfl) h
def M_Md_many (σ : kS) (x1 x2 : Int32) : Option (Int32 × kS) := if x1 < 0 then (M_Md_many_13 σ x1 x2) else (if x1 < σ.1 14 then (if x2 < 0 then (M_Md_many_27 σ x1 x2) else (if x2 ≤ 7 then (M_Md_many_32 σ x1 x2 0) else (M_Md_many_27 σ x1 x2))) else (M_Md_many_13 σ x1 x2))
set_option maxHeartbeats 4000000 in
set_option maxRecDepth 100000 in
theorem B_Md_many_0 {p : Program} {l : Launch} {e : Env} {s : State} {m : MethodId} {args : Array Value} {below : List Frame} {meth : Method} {c : Code} {D : va_G} {a : Nat → Nat} {c9 : Nat → ClassId} {A : Nat → Prop} {r9 : Int32} {σo : kS} (C0 : k_Cx D c9 p s m args meth c R_Md c_Md_many 3 (some .int) A) (σ : kS) (x1 x2 : Int32) (H : Heap) (locs : List Loc) (ls : Array Slot) (hP : va_P D kcl (kw a c9 σ) H) (hD : va_D A (kw a c9 σ)) (hS : va_S A s.heap H locs) (hl : lv_has ls 3 [(0, .ref (a 6)), (1, .int x1), (2, .int x2)]) (h : M_Md_many σ x1 x2 = some (r9, σo)) : W p l e rm_Md_many s m args below meth c H locs 0 0 (MQ below (k_Qi D a c9 r9 σo A) args s 0 0 A) (F0 m 0 ls []) := by
  obtain ⟨hx, hb, hml, hown, hts, hr, hlk, hK, hN, hA⟩ := id C0
  unfold M_Md_many at h
  refine lv_aload_n hx hb d_Md_many_0 rfl (lv_at hl 0 rfl) ?_
  refine lv_iload_n hx hb d_Md_many_1 rfl (lv_at hl 1 rfl) ?_
  refine lv_if_lt (tgt := 13) hx hb d_Md_many_2 (by decide) (fun cn1 => ?_) (fun cn1 => ?_)
  · replace h := (if_pos cn1).symm.trans h
    exact B_Md_many_13 C0 _ _ _ H locs ls hP hD hS (lv_sub hl [0, 1, 2] rfl) h
  · replace h := (if_neg cn1).symm.trans h
    refine lv_iload_n hx hb d_Md_many_5 rfl (lv_at hl 1 rfl) ?_
    refine lv_aload_n hx hb d_Md_many_6 rfl (lv_at hl 0 rfl) ?_
    refine va_get (ci := 1) (C := R_Md) (T := T_Md) (N := 44) hx hb hts in_Md hown hK hP 6 kw_6 rfl 18 (by decide) (hts _ q_731) (fun _ h9 => h9) rfl d_Md_many_7 ?_
    refine lv_icmp_lt (tgt := 17) hx hb d_Md_many_10 (by decide) (fun cn2 => ?_) (fun cn2 => ?_)
    · replace h := (if_pos cn2).symm.trans h
      refine lv_iload_n hx hb d_Md_many_17 rfl (lv_at hl 2 rfl) ?_
      refine lv_if_lt (tgt := 27) hx hb d_Md_many_18 (by decide) (fun cn3 => ?_) (fun cn3 => ?_)
      · replace h := (if_pos cn3).symm.trans h
        exact B_Md_many_27 C0 _ _ _ H locs ls hP hD hS (lv_sub hl [0, 1, 2] rfl) h
      · replace h := (if_neg cn3).symm.trans h
        refine lv_iload_n hx hb d_Md_many_21 rfl (lv_at hl 2 rfl) ?_
        refine lv_bipush (v := 7) hx hb d_Md_many_22 (by decide) ?_
        refine lv_icmp_le (tgt := 31) hx hb d_Md_many_24 (by decide) (fun cn4 => ?_) (fun cn4 => ?_)
        · replace h := (if_pos cn4).symm.trans h
          refine lv_iconst (v := 0) hx hb d_Md_many_31 (by decide) ?_
          exact B_Md_many_32 C0 _ _ _ _ H locs ls hP hD hS (lv_sub hl [0, 1, 2] rfl) h
        · replace h := (if_neg cn4).symm.trans h
          exact B_Md_many_27 C0 _ _ _ H locs ls hP hD hS (lv_sub hl [0, 1, 2] rfl) h
    · replace h := (if_neg cn2).symm.trans h
      exact B_Md_many_13 C0 _ _ _ H locs ls hP hD hS (lv_sub hl [0, 1, 2] rfl) h
theorem K_Md_many (l : Launch) (D : va_G) (a : Nat → Nat) (c9 : Nat → ClassId) (sz : Nat) {σ : kS} {x1 x2 : Int32} {r9 : Int32} {σo : kS} (h : M_Md_many σ x1 x2 = some (r9, σo)) : Met l y_Md_many (Cond.code y_Md_many c_Md_many 3 (some .int) :: kG) rm_Md_many (k_Pc D a c9 sz σ [.ref (a 6), .int x1, .int x2]) (k_Qi D a c9 r9 σo (k_A a c9 σ sz)) 0 0 (k_A a c9 σ sz) :=
  k_met (Qf := k_Qi D a c9 r9 σo) (by decide) (Nat.le_of_ble_eq_true rfl) (fun p e s m args below meth c A ls C0 hP hD hS hl => B_Md_many_0 C0 σ x1 x2 s.heap [] ls hP hD hS hl h)
def rm_Md_rule : Room := { frames := 1, cells := 0, slots := 0, locals := 21 }
def M_Md_rule_27 (σ : kS) (x1 y0 : Int32) : Option (Int32 × kS) := k_set σ 10 (y0) fun σ1 => if σ1.1 10 = 0 then (k_st σ1 38 30 (σ1.1 12) (x1) fun σ3 => k_st σ3 32 240 (x1) (vp_nar .boolean (1)) fun σ4 => k_set σ4 12 ((σ4.1 12 + 1)) fun σ5 => some ((σ5.1 12 - 1), σ5)) else (some (0, σ1))
set_option maxHeartbeats 4000000 in
set_option maxRecDepth 100000 in
theorem B_Md_rule_27 {p : Program} {l : Launch} {e : Env} {s : State} {m : MethodId} {args : Array Value} {below : List Frame} {meth : Method} {c : Code} {D : va_G} {a : Nat → Nat} {c9 : Nat → ClassId} {A : Nat → Prop} {r9 : Int32} {σo : kS} (C0 : k_Cx D c9 p s m args meth c R_Md c_Md_rule 2 (some .int) A) (σ : kS) (x1 y0 : Int32) (H : Heap) (locs : List Loc) (ls : Array Slot) (hP : va_P D kcl (kw a c9 σ) H) (hD : va_D A (kw a c9 σ)) (hS : va_S A s.heap H locs) (hl : lv_has ls 2 [(0, .ref (a 6)), (1, .int x1)]) (h : M_Md_rule_27 σ x1 y0 = some (r9, σo)) : W p l e rm_Md_rule s m args below meth c H locs 0 0 (MQ below (k_Qi D a c9 r9 σo A) args s 0 0 A) (F0 m 27 ls [.int y0, .ref (a 6)]) := by
  obtain ⟨hx, hb, hml, hown, hts, hr, hlk, hK, hN, hA⟩ := id C0
  unfold M_Md_rule_27 at h
  obtain ⟨σ1, eσ1, h⟩ := k_set_e h
  refine va_put (ci := 1) (v := .int y0) (ty := .int) (C := R_Md) (T := T_Md) (N := 44) hx hb hts in_Md t_Md t_Md_ok n_Md hown hK hP hD hS 6 kw_6 rfl 0 (by decide) (hts _ q_713) (fun _ h9 => h9) rfl (by decide +kernel) rfl rfl (Nat.le_of_ble_eq_true rfl) d_Md_rule_27 (fun H locs hP hD hS => ?_)
  replace hP := k_mvP (kw_f6_0.trans (congrArg _ eσ1.symm)) hP
  replace hD := k_mvD (kw_f6_0.trans (congrArg _ eσ1.symm)) hD
  refine lv_aload_n hx hb d_Md_rule_30 rfl (lv_at hl 0 rfl) ?_
  refine va_get (ci := 1) (C := R_Md) (T := T_Md) (N := 44) hx hb hts in_Md hown hK hP 6 kw_6 rfl 0 (by decide) (hts _ q_713) (fun _ h9 => h9) rfl d_Md_rule_31 ?_
  refine lv_if_eq (tgt := 39) hx hb d_Md_rule_34 (by decide) (fun cn2 => ?_) (fun cn2 => ?_)
  · replace h := (if_pos cn2).symm.trans h
    refine lv_aload_n hx hb d_Md_rule_39 rfl (lv_at hl 0 rfl) ?_
    refine va_get (ci := 1) (C := R_Md) (T := T_Md) (N := 44) hx hb hts in_Md hown hK hP 6 kw_6 rfl 15 (by decide) (hts _ q_728) (fun _ h9 => h9) rfl d_Md_rule_40 ?_
    refine lv_aload_n hx hb d_Md_rule_43 rfl (lv_at hl 0 rfl) ?_
    refine va_get (ci := 1) (C := R_Md) (T := T_Md) (N := 44) hx hb hts in_Md hown hK hP 6 kw_6 rfl 14 (by decide) (hts _ q_727) (fun _ h9 => h9) rfl d_Md_rule_44 ?_
    refine lv_iload_n hx hb d_Md_rule_47 rfl (lv_at hl 1 rfl) ?_
    obtain ⟨σ3, eσ3, hiσ3, h⟩ := k_st_e h
    refine va_iast hx hb hK hP hD hS 45 0 kw_45 rfl hiσ3 d_Md_rule_48 (fun H locs hP hD hS => ?_)
    replace hP := k_mvP (kw_s45.trans (congrArg _ eσ3.symm)) hP
    replace hD := k_mvD (kw_s45.trans (congrArg _ eσ3.symm)) hD
    refine lv_aload_n hx hb d_Md_rule_49 rfl (lv_at hl 0 rfl) ?_
    refine va_get (ci := 1) (C := R_Md) (T := T_Md) (N := 44) hx hb hts in_Md hown hK hP 6 kw_6 rfl 8 (by decide) (hts _ q_721) (fun _ h9 => h9) rfl d_Md_rule_50 ?_
    refine lv_iload_n hx hb d_Md_rule_53 rfl (lv_at hl 1 rfl) ?_
    refine lv_iconst (v := 1) hx hb d_Md_rule_54 (by decide) ?_
    obtain ⟨σ4, eσ4, hiσ4, h⟩ := k_st_e h
    refine va_zast hx hb hK hP hD hS 39 1 kw_39 rfl hiσ4 d_Md_rule_55 (fun H locs hP hD hS => ?_)
    replace hP := k_mvP (kw_s39.trans (congrArg _ eσ4.symm)) hP
    replace hD := k_mvD (kw_s39.trans (congrArg _ eσ4.symm)) hD
    refine lv_aload_n hx hb d_Md_rule_56 rfl (lv_at hl 0 rfl) ?_
    refine lv_dup hx hb d_Md_rule_57 rfl ?_
    refine va_get (ci := 1) (C := R_Md) (T := T_Md) (N := 44) hx hb hts in_Md hown hK hP 6 kw_6 rfl 14 (by decide) (hts _ q_727) (fun _ h9 => h9) rfl d_Md_rule_58 ?_
    refine lv_iconst (v := 1) hx hb d_Md_rule_61 (by decide) ?_
    refine lv_iadd hx hb d_Md_rule_62 ?_
    obtain ⟨σ5, eσ5, h⟩ := k_set_e h
    refine va_put (ci := 1) (v := .int ((σ4.1 12 + 1))) (ty := .int) (C := R_Md) (T := T_Md) (N := 44) hx hb hts in_Md t_Md t_Md_ok n_Md hown hK hP hD hS 6 kw_6 rfl 14 (by decide) (hts _ q_727) (fun _ h9 => h9) rfl (by decide +kernel) rfl rfl (Nat.le_of_ble_eq_true rfl) d_Md_rule_63 (fun H locs hP hD hS => ?_)
    replace hP := k_mvP (kw_f6_14.trans (congrArg _ eσ5.symm)) hP
    replace hD := k_mvD (kw_f6_14.trans (congrArg _ eσ5.symm)) hD
    refine lv_aload_n hx hb d_Md_rule_66 rfl (lv_at hl 0 rfl) ?_
    refine va_get (ci := 1) (C := R_Md) (T := T_Md) (N := 44) hx hb hts in_Md hown hK hP 6 kw_6 rfl 14 (by decide) (hts _ q_727) (fun _ h9 => h9) rfl d_Md_rule_67 ?_
    refine lv_iconst (v := 1) hx hb d_Md_rule_70 (by decide) ?_
    refine lv_isub hx hb d_Md_rule_71 ?_
    cases h
    exact k_iret hx hb hr hlk hP hS d_Md_rule_72
  · replace h := (if_neg cn2).symm.trans h
    refine lv_iconst (v := 0) hx hb d_Md_rule_37 (by decide) ?_
    cases h
    exact k_iret hx hb hr hlk hP hS d_Md_rule_38
def M_Md_rule (σ : kS) (x1 : Int32) : Option (Int32 × kS) := k_call (M_Md_noTree σ x1) fun v1 σ2 => if v1 = 0 then (if σ2.1 12 = 30 then (M_Md_rule_27 σ2 x1 2) else (M_Md_rule_27 σ2 x1 0)) else (M_Md_rule_27 σ2 x1 1)
set_option maxHeartbeats 4000000 in
set_option maxRecDepth 100000 in
theorem B_Md_rule_0 {p : Program} {l : Launch} {e : Env} {s : State} {m : MethodId} {args : Array Value} {below : List Frame} {meth : Method} {c : Code} {D : va_G} {a : Nat → Nat} {c9 : Nat → ClassId} {A : Nat → Prop} {r9 : Int32} {σo : kS} (C0 : k_Cx D c9 p s m args meth c R_Md c_Md_rule 2 (some .int) A) (σ : kS) (x1 : Int32) (H : Heap) (locs : List Loc) (ls : Array Slot) (hP : va_P D kcl (kw a c9 σ) H) (hD : va_D A (kw a c9 σ)) (hS : va_S A s.heap H locs) (hl : lv_has ls 2 [(0, .ref (a 6)), (1, .int x1)]) (h : M_Md_rule σ x1 = some (r9, σo)) : W p l e rm_Md_rule s m args below meth c H locs 0 0 (MQ below (k_Qi D a c9 r9 σo A) args s 0 0 A) (F0 m 0 ls []) := by
  obtain ⟨hx, hb, hml, hown, hts, hr, hlk, hK, hN, hA⟩ := id C0
  unfold M_Md_rule at h
  refine lv_aload_n hx hb d_Md_rule_0 rfl (lv_at hl 0 rfl) ?_
  refine lv_aload_n hx hb d_Md_rule_1 rfl (lv_at hl 0 rfl) ?_
  refine lv_iload_n hx hb d_Md_rule_2 rfl (lv_at hl 1 rfl) ?_
  obtain ⟨v1, σ2, hc3, h⟩ := k_call_e h
  refine k_calli (va_runV (As := [.int x1]) (rest := [.ref (a 6)]) ⟨hx, hb, hml, hown, hts⟩ (K_Md_noTree l D a c9 H.size hc3) (cwV 1 hts (k_gV q_870 q_872 s_19 q_7 q_873) rfl rfl rfl h_Md_noTree ⟨Nat.le_of_ble_eq_true rfl, Nat.le_of_ble_eq_true rfl⟩) (k_preV (ci := 1) (q0 := 6) rfl kw_6 hP hK hN hD) rfl rfl hl.1 rfl (lv_room (Nat.le_of_ble_eq_true rfl)) d_Md_rule_3 ⟨Nat.zero_le _, Nat.zero_le _⟩) hD hS hA (fun H locs hP hD hS => ?_)
  refine lv_if_eq (tgt := 13) hx hb d_Md_rule_6 (by decide) (fun cn4 => ?_) (fun cn4 => ?_)
  · replace h := (if_pos cn4).symm.trans h
    refine lv_aload_n hx hb d_Md_rule_13 rfl (lv_at hl 0 rfl) ?_
    refine va_get (ci := 1) (C := R_Md) (T := T_Md) (N := 44) hx hb hts in_Md hown hK hP 6 kw_6 rfl 14 (by decide) (hts _ q_727) (fun _ h9 => h9) rfl d_Md_rule_14 ?_
    refine lv_bipush (v := 30) hx hb d_Md_rule_17 (by decide) ?_
    refine lv_icmp_ne (tgt := 26) hx hb d_Md_rule_19 (by decide) (fun cn5 => ?_) (fun cn5 => ?_)
    · replace h := (if_neg cn5).symm.trans h
      refine lv_iconst (v := 0) hx hb d_Md_rule_26 (by decide) ?_
      exact B_Md_rule_27 C0 _ _ _ H locs ls hP hD hS (lv_sub hl [0, 1] rfl) h
    · replace h := (if_pos cn5).symm.trans h
      refine lv_iconst (v := 2) hx hb d_Md_rule_22 (by decide) ?_
      refine lv_goto (tgt := 27) hx hb d_Md_rule_23 (by decide) ?_
      exact B_Md_rule_27 C0 _ _ _ H locs ls hP hD hS (lv_sub hl [0, 1] rfl) h
  · replace h := (if_neg cn4).symm.trans h
    refine lv_iconst (v := 1) hx hb d_Md_rule_9 (by decide) ?_
    refine lv_goto (tgt := 27) hx hb d_Md_rule_10 (by decide) ?_
    exact B_Md_rule_27 C0 _ _ _ H locs ls hP hD hS (lv_sub hl [0, 1] rfl) h
theorem K_Md_rule (l : Launch) (D : va_G) (a : Nat → Nat) (c9 : Nat → ClassId) (sz : Nat) {σ : kS} {x1 : Int32} {r9 : Int32} {σo : kS} (h : M_Md_rule σ x1 = some (r9, σo)) : Met l y_Md_rule (Cond.code y_Md_rule c_Md_rule 2 (some .int) :: kG) rm_Md_rule (k_Pc D a c9 sz σ [.ref (a 6), .int x1]) (k_Qi D a c9 r9 σo (k_A a c9 σ sz)) 0 0 (k_A a c9 σ sz) :=
  k_met (Qf := k_Qi D a c9 r9 σo) (by decide) (Nat.le_of_ble_eq_true rfl) (fun p e s m args below meth c A ls C0 hP hD hS hl => B_Md_rule_0 C0 σ x1 s.heap [] ls hP hD hS hl h)
def rm_Md_net : Room := { frames := 2, cells := 0, slots := 0, locals := 48 }
def M_Md_net_46_b (self9 : kS → Int32 → Int32 → Option (Int32 × kS)) (σ : kS) (x1 x2 : Int32) : Option (Int32 × kS) := if σ.1 12 ≤ x2 then (some (σ.1 13, σ)) else (k_call (M_Md_may σ x2 x1) fun v2 σ3 => if v2 = 0 then (k_let (x2 + 1) fun v6 => self9 σ3 x1 v6) else (k_st σ3 39 30 (σ3.1 13) (x2) fun σ7 => k_set σ7 13 ((σ7.1 13 + 1)) fun σ8 => k_let (x2 + 1) fun v9 => self9 σ8 x1 v9))
def M_Md_net_46 : Nat → kS → Int32 → Int32 → Option (Int32 × kS)
  | 0 => fun _ _ _ => none
  | n + 1 => M_Md_net_46_b (M_Md_net_46 n)
set_option maxHeartbeats 4000000 in
set_option maxRecDepth 100000 in
theorem B_Md_net_46 {p : Program} {l : Launch} {e : Env} {s : State} {m : MethodId} {args : Array Value} {below : List Frame} {meth : Method} {c : Code} {D : va_G} {a : Nat → Nat} {c9 : Nat → ClassId} {A : Nat → Prop} {r9 : Int32} {σo : kS} (C0 : k_Cx D c9 p s m args meth c R_Md c_Md_net 3 (some .int) A) : ∀ (n : Nat) (σ : kS) (x1 x2 : Int32) (H : Heap) (locs : List Loc) (ls : Array Slot), va_P D kcl (kw a c9 σ) H → va_D A (kw a c9 σ) → va_S A s.heap H locs → lv_has ls 3 [(0, .ref (a 6)), (1, .int x1), (2, .int x2)] → M_Md_net_46 n σ x1 x2 = some (r9, σo) → W p l e rm_Md_net s m args below meth c H locs 0 0 (MQ below (k_Qi D a c9 r9 σo A) args s 0 0 A) (F0 m 46 ls []) := by
  obtain ⟨hx, hb, hml, hown, hts, hr, hlk, hK, hN, hA⟩ := id C0
  intro n
  induction n with
  | zero =>
    intro σ x1 x2 H locs ls hP hD hS hl h
    replace h : (none : Option (Int32 × kS)) = some (r9, σo) := h
    cases h
  | succ n ih =>
    intro σ x1 x2 H locs ls hP hD hS hl h
    replace h : M_Md_net_46_b (M_Md_net_46 n) σ x1 x2 = some (r9, σo) := h
    unfold M_Md_net_46_b at h
    refine lv_iload_n hx hb d_Md_net_46 rfl (lv_at hl 2 rfl) ?_
    refine lv_aload_n hx hb d_Md_net_47 rfl (lv_at hl 0 rfl) ?_
    refine va_get (ci := 1) (C := R_Md) (T := T_Md) (N := 44) hx hb hts in_Md hown hK hP 6 kw_6 rfl 14 (by decide) (hts _ q_727) (fun _ h9 => h9) rfl d_Md_net_48 ?_
    refine lv_icmp_ge (tgt := 89) hx hb d_Md_net_51 (by decide) (fun cn1 => ?_) (fun cn1 => ?_)
    · replace h := (if_pos cn1).symm.trans h
      refine lv_aload_n hx hb d_Md_net_89 rfl (lv_at hl 0 rfl) ?_
      refine va_get (ci := 1) (C := R_Md) (T := T_Md) (N := 44) hx hb hts in_Md hown hK hP 6 kw_6 rfl 16 (by decide) (hts _ q_729) (fun _ h9 => h9) rfl d_Md_net_90 ?_
      cases h
      exact k_iret hx hb hr hlk hP hS d_Md_net_93
    · replace h := (if_neg cn1).symm.trans h
      refine lv_aload_n hx hb d_Md_net_54 rfl (lv_at hl 0 rfl) ?_
      refine lv_iload_n hx hb d_Md_net_55 rfl (lv_at hl 2 rfl) ?_
      refine lv_iload_n hx hb d_Md_net_56 rfl (lv_at hl 1 rfl) ?_
      obtain ⟨v2, σ3, hc4, h⟩ := k_call_e h
      refine k_calli (va_runV (As := [.int x2, .int x1]) (rest := []) ⟨hx, hb, hml, hown, hts⟩ (K_Md_may l D a c9 H.size hc4) (cwV 2 hts (k_gV q_966 q_968 s_33 q_7 q_969) rfl rfl rfl h_Md_may ⟨Nat.le_of_ble_eq_true rfl, Nat.le_of_ble_eq_true rfl⟩) (k_preV (ci := 1) (q0 := 6) rfl kw_6 hP hK hN hD) rfl rfl hl.1 rfl (lv_room (Nat.le_of_ble_eq_true rfl)) d_Md_net_57 ⟨Nat.zero_le _, Nat.zero_le _⟩) hD hS hA (fun H locs hP hD hS => ?_)
      refine lv_if_eq (tgt := 83) hx hb d_Md_net_60 (by decide) (fun cn5 => ?_) (fun cn5 => ?_)
      · replace h := (if_pos cn5).symm.trans h
        obtain ⟨v6, ev6, h⟩ := k_let_e h
        refine lv_iinc (v := v6) (lv' := [(2, .int v6), (0, .ref (a 6)), (1, .int x1)]) hx hb d_Md_net_83 hl (k := 2) rfl (by rw [ev6]; rfl) (by decide) rfl (fun ls hl => ?_)
        refine lv_goto (tgt := 46) hx hb d_Md_net_86 (by decide) ?_
        exact ih _ _ _ H locs ls hP hD hS (lv_sub hl [1, 2, 0] rfl) h
      · replace h := (if_neg cn5).symm.trans h
        refine lv_aload_n hx hb d_Md_net_63 rfl (lv_at hl 0 rfl) ?_
        refine va_get (ci := 1) (C := R_Md) (T := T_Md) (N := 44) hx hb hts in_Md hown hK hP 6 kw_6 rfl 17 (by decide) (hts _ q_730) (fun _ h9 => h9) rfl d_Md_net_64 ?_
        refine lv_aload_n hx hb d_Md_net_67 rfl (lv_at hl 0 rfl) ?_
        refine va_get (ci := 1) (C := R_Md) (T := T_Md) (N := 44) hx hb hts in_Md hown hK hP 6 kw_6 rfl 16 (by decide) (hts _ q_729) (fun _ h9 => h9) rfl d_Md_net_68 ?_
        refine lv_iload_n hx hb d_Md_net_71 rfl (lv_at hl 2 rfl) ?_
        obtain ⟨σ7, eσ7, hiσ7, h⟩ := k_st_e h
        refine va_iast hx hb hK hP hD hS 46 0 kw_46 rfl hiσ7 d_Md_net_72 (fun H locs hP hD hS => ?_)
        replace hP := k_mvP (kw_s46.trans (congrArg _ eσ7.symm)) hP
        replace hD := k_mvD (kw_s46.trans (congrArg _ eσ7.symm)) hD
        refine lv_aload_n hx hb d_Md_net_73 rfl (lv_at hl 0 rfl) ?_
        refine lv_dup hx hb d_Md_net_74 rfl ?_
        refine va_get (ci := 1) (C := R_Md) (T := T_Md) (N := 44) hx hb hts in_Md hown hK hP 6 kw_6 rfl 16 (by decide) (hts _ q_729) (fun _ h9 => h9) rfl d_Md_net_75 ?_
        refine lv_iconst (v := 1) hx hb d_Md_net_78 (by decide) ?_
        refine lv_iadd hx hb d_Md_net_79 ?_
        obtain ⟨σ8, eσ8, h⟩ := k_set_e h
        refine va_put (ci := 1) (v := .int ((σ7.1 13 + 1))) (ty := .int) (C := R_Md) (T := T_Md) (N := 44) hx hb hts in_Md t_Md t_Md_ok n_Md hown hK hP hD hS 6 kw_6 rfl 16 (by decide) (hts _ q_729) (fun _ h9 => h9) rfl (by decide +kernel) rfl rfl (Nat.le_of_ble_eq_true rfl) d_Md_net_80 (fun H locs hP hD hS => ?_)
        replace hP := k_mvP (kw_f6_16.trans (congrArg _ eσ8.symm)) hP
        replace hD := k_mvD (kw_f6_16.trans (congrArg _ eσ8.symm)) hD
        obtain ⟨v9, ev9, h⟩ := k_let_e h
        refine lv_iinc (v := v9) (lv' := [(2, .int v9), (0, .ref (a 6)), (1, .int x1)]) hx hb d_Md_net_83 hl (k := 2) rfl (by rw [ev9]; rfl) (by decide) rfl (fun ls hl => ?_)
        refine lv_goto (tgt := 46) hx hb d_Md_net_86 (by decide) ?_
        exact ih _ _ _ H locs ls hP hD hS (lv_sub hl [1, 2, 0] rfl) h
def M_Md_net_27 (σ : kS) (x1 y0 : Int32) : Option (Int32 × kS) := k_set σ 10 (y0) fun σ1 => if σ1.1 10 = 0 then (k_set σ1 13 (0) fun σ3 => M_Md_net_46 k_fu σ3 x1 0) else (some (0, σ1))
set_option maxHeartbeats 4000000 in
set_option maxRecDepth 100000 in
theorem B_Md_net_27 {p : Program} {l : Launch} {e : Env} {s : State} {m : MethodId} {args : Array Value} {below : List Frame} {meth : Method} {c : Code} {D : va_G} {a : Nat → Nat} {c9 : Nat → ClassId} {A : Nat → Prop} {r9 : Int32} {σo : kS} (C0 : k_Cx D c9 p s m args meth c R_Md c_Md_net 3 (some .int) A) (σ : kS) (x1 y0 : Int32) (H : Heap) (locs : List Loc) (ls : Array Slot) (hP : va_P D kcl (kw a c9 σ) H) (hD : va_D A (kw a c9 σ)) (hS : va_S A s.heap H locs) (hl : lv_has ls 3 [(0, .ref (a 6)), (1, .int x1)]) (h : M_Md_net_27 σ x1 y0 = some (r9, σo)) : W p l e rm_Md_net s m args below meth c H locs 0 0 (MQ below (k_Qi D a c9 r9 σo A) args s 0 0 A) (F0 m 27 ls [.int y0, .ref (a 6)]) := by
  obtain ⟨hx, hb, hml, hown, hts, hr, hlk, hK, hN, hA⟩ := id C0
  unfold M_Md_net_27 at h
  obtain ⟨σ1, eσ1, h⟩ := k_set_e h
  refine va_put (ci := 1) (v := .int y0) (ty := .int) (C := R_Md) (T := T_Md) (N := 44) hx hb hts in_Md t_Md t_Md_ok n_Md hown hK hP hD hS 6 kw_6 rfl 0 (by decide) (hts _ q_713) (fun _ h9 => h9) rfl (by decide +kernel) rfl rfl (Nat.le_of_ble_eq_true rfl) d_Md_net_27 (fun H locs hP hD hS => ?_)
  replace hP := k_mvP (kw_f6_0.trans (congrArg _ eσ1.symm)) hP
  replace hD := k_mvD (kw_f6_0.trans (congrArg _ eσ1.symm)) hD
  refine lv_aload_n hx hb d_Md_net_30 rfl (lv_at hl 0 rfl) ?_
  refine va_get (ci := 1) (C := R_Md) (T := T_Md) (N := 44) hx hb hts in_Md hown hK hP 6 kw_6 rfl 0 (by decide) (hts _ q_713) (fun _ h9 => h9) rfl d_Md_net_31 ?_
  refine lv_if_eq (tgt := 39) hx hb d_Md_net_34 (by decide) (fun cn2 => ?_) (fun cn2 => ?_)
  · replace h := (if_pos cn2).symm.trans h
    refine lv_aload_n hx hb d_Md_net_39 rfl (lv_at hl 0 rfl) ?_
    refine lv_iconst (v := 0) hx hb d_Md_net_40 (by decide) ?_
    obtain ⟨σ3, eσ3, h⟩ := k_set_e h
    refine va_put (ci := 1) (v := .int 0) (ty := .int) (C := R_Md) (T := T_Md) (N := 44) hx hb hts in_Md t_Md t_Md_ok n_Md hown hK hP hD hS 6 kw_6 rfl 16 (by decide) (hts _ q_729) (fun _ h9 => h9) rfl (by decide +kernel) rfl rfl (Nat.le_of_ble_eq_true rfl) d_Md_net_41 (fun H locs hP hD hS => ?_)
    replace hP := k_mvP (kw_f6_16.trans (congrArg _ eσ3.symm)) hP
    replace hD := k_mvD (kw_f6_16.trans (congrArg _ eσ3.symm)) hD
    refine lv_iconst (v := 0) hx hb d_Md_net_44 (by decide) ?_
    refine lv_istore_n (lv' := [(2, .int 0), (0, .ref (a 6)), (1, .int x1)]) hx hb d_Md_net_45 rfl hl (by decide) rfl (fun ls hl => ?_)
    exact B_Md_net_46 C0 k_fu _ _ _ H locs ls hP hD hS (lv_sub hl [1, 2, 0] rfl) h
  · replace h := (if_neg cn2).symm.trans h
    refine lv_iconst (v := 0) hx hb d_Md_net_37 (by decide) ?_
    cases h
    exact k_iret hx hb hr hlk hP hS d_Md_net_38
def M_Md_net (σ : kS) (x1 : Int32) : Option (Int32 × kS) := k_call (M_Md_noTree σ x1) fun v1 σ2 => if v1 = 0 then (k_ld (σ2.2.1 31) 240 (x1) fun v5 => if v5 = 0 then (M_Md_net_27 σ2 x1 2) else (M_Md_net_27 σ2 x1 0)) else (M_Md_net_27 σ2 x1 1)
set_option maxHeartbeats 4000000 in
set_option maxRecDepth 100000 in
theorem B_Md_net_0 {p : Program} {l : Launch} {e : Env} {s : State} {m : MethodId} {args : Array Value} {below : List Frame} {meth : Method} {c : Code} {D : va_G} {a : Nat → Nat} {c9 : Nat → ClassId} {A : Nat → Prop} {r9 : Int32} {σo : kS} (C0 : k_Cx D c9 p s m args meth c R_Md c_Md_net 3 (some .int) A) (σ : kS) (x1 : Int32) (H : Heap) (locs : List Loc) (ls : Array Slot) (hP : va_P D kcl (kw a c9 σ) H) (hD : va_D A (kw a c9 σ)) (hS : va_S A s.heap H locs) (hl : lv_has ls 3 [(0, .ref (a 6)), (1, .int x1)]) (h : M_Md_net σ x1 = some (r9, σo)) : W p l e rm_Md_net s m args below meth c H locs 0 0 (MQ below (k_Qi D a c9 r9 σo A) args s 0 0 A) (F0 m 0 ls []) := by
  obtain ⟨hx, hb, hml, hown, hts, hr, hlk, hK, hN, hA⟩ := id C0
  unfold M_Md_net at h
  refine lv_aload_n hx hb d_Md_net_0 rfl (lv_at hl 0 rfl) ?_
  refine lv_aload_n hx hb d_Md_net_1 rfl (lv_at hl 0 rfl) ?_
  refine lv_iload_n hx hb d_Md_net_2 rfl (lv_at hl 1 rfl) ?_
  obtain ⟨v1, σ2, hc3, h⟩ := k_call_e h
  refine k_calli (va_runV (As := [.int x1]) (rest := [.ref (a 6)]) ⟨hx, hb, hml, hown, hts⟩ (K_Md_noTree l D a c9 H.size hc3) (cwV 1 hts (k_gV q_870 q_872 s_19 q_7 q_873) rfl rfl rfl h_Md_noTree ⟨Nat.le_of_ble_eq_true rfl, Nat.le_of_ble_eq_true rfl⟩) (k_preV (ci := 1) (q0 := 6) rfl kw_6 hP hK hN hD) rfl rfl hl.1 rfl (lv_room (Nat.le_of_ble_eq_true rfl)) d_Md_net_3 ⟨Nat.zero_le _, Nat.zero_le _⟩) hD hS hA (fun H locs hP hD hS => ?_)
  refine lv_if_eq (tgt := 13) hx hb d_Md_net_6 (by decide) (fun cn4 => ?_) (fun cn4 => ?_)
  · replace h := (if_pos cn4).symm.trans h
    refine lv_aload_n hx hb d_Md_net_13 rfl (lv_at hl 0 rfl) ?_
    refine va_get (ci := 1) (C := R_Md) (T := T_Md) (N := 44) hx hb hts in_Md hown hK hP 6 kw_6 rfl 7 (by decide) (hts _ q_720) (fun _ h9 => h9) rfl d_Md_net_14 ?_
    refine lv_iload_n hx hb d_Md_net_17 rfl (lv_at hl 1 rfl) ?_
    obtain ⟨v5, ev5, hv5, h⟩ := k_ld_e h
    refine va_zald hx hb hK hP 38 1 kw_38 rfl hv5 d_Md_net_18 (k_top ev5 ?_)
    refine lv_if_ne (tgt := 26) hx hb d_Md_net_19 (by decide) (fun cn6 => ?_) (fun cn6 => ?_)
    · replace h := (if_neg cn6).symm.trans h
      refine lv_iconst (v := 0) hx hb d_Md_net_26 (by decide) ?_
      exact B_Md_net_27 C0 _ _ _ H locs ls hP hD hS (lv_sub hl [0, 1] rfl) h
    · replace h := (if_pos cn6).symm.trans h
      refine lv_iconst (v := 2) hx hb d_Md_net_22 (by decide) ?_
      refine lv_goto (tgt := 27) hx hb d_Md_net_23 (by decide) ?_
      exact B_Md_net_27 C0 _ _ _ H locs ls hP hD hS (lv_sub hl [0, 1] rfl) h
  · replace h := (if_neg cn4).symm.trans h
    refine lv_iconst (v := 1) hx hb d_Md_net_9 (by decide) ?_
    refine lv_goto (tgt := 27) hx hb d_Md_net_10 (by decide) ?_
    exact B_Md_net_27 C0 _ _ _ H locs ls hP hD hS (lv_sub hl [0, 1] rfl) h
theorem K_Md_net (l : Launch) (D : va_G) (a : Nat → Nat) (c9 : Nat → ClassId) (sz : Nat) {σ : kS} {x1 : Int32} {r9 : Int32} {σo : kS} (h : M_Md_net σ x1 = some (r9, σo)) : Met l y_Md_net (Cond.code y_Md_net c_Md_net 3 (some .int) :: kG) rm_Md_net (k_Pc D a c9 sz σ [.ref (a 6), .int x1]) (k_Qi D a c9 r9 σo (k_A a c9 σ sz)) 0 0 (k_A a c9 σ sz) :=
  k_met (Qf := k_Qi D a c9 r9 σo) (by decide) (Nat.le_of_ble_eq_true rfl) (fun p e s m args below meth c A ls C0 hP hD hS hl => B_Md_net_0 C0 σ x1 s.heap [] ls hP hD hS hl h)
def rm_Md_rules : Room := { frames := 0, cells := 0, slots := 0, locals := 0 }
def M_Md_rules (σ : kS) (x1 : Int32) : Option (Int32 × kS) := k_set σ 10 (0) fun σ1 => if x1 < 0 then (some ((-1), σ1)) else (if x1 < σ1.1 13 then (k_ld (σ1.2.1 39) 30 (x1) fun v4 => some (v4, σ1)) else (some ((-1), σ1)))
set_option maxHeartbeats 4000000 in
set_option maxRecDepth 100000 in
theorem B_Md_rules_0 {p : Program} {l : Launch} {e : Env} {s : State} {m : MethodId} {args : Array Value} {below : List Frame} {meth : Method} {c : Code} {D : va_G} {a : Nat → Nat} {c9 : Nat → ClassId} {A : Nat → Prop} {r9 : Int32} {σo : kS} (C0 : k_Cx D c9 p s m args meth c R_Md c_Md_rules 2 (some .int) A) (σ : kS) (x1 : Int32) (H : Heap) (locs : List Loc) (ls : Array Slot) (hP : va_P D kcl (kw a c9 σ) H) (hD : va_D A (kw a c9 σ)) (hS : va_S A s.heap H locs) (hl : lv_has ls 2 [(0, .ref (a 6)), (1, .int x1)]) (h : M_Md_rules σ x1 = some (r9, σo)) : W p l e rm_Md_rules s m args below meth c H locs 0 0 (MQ below (k_Qi D a c9 r9 σo A) args s 0 0 A) (F0 m 0 ls []) := by
  obtain ⟨hx, hb, hml, hown, hts, hr, hlk, hK, hN, hA⟩ := id C0
  unfold M_Md_rules at h
  refine lv_aload_n hx hb d_Md_rules_0 rfl (lv_at hl 0 rfl) ?_
  refine lv_iconst (v := 0) hx hb d_Md_rules_1 (by decide) ?_
  obtain ⟨σ1, eσ1, h⟩ := k_set_e h
  refine va_put (ci := 1) (v := .int 0) (ty := .int) (C := R_Md) (T := T_Md) (N := 44) hx hb hts in_Md t_Md t_Md_ok n_Md hown hK hP hD hS 6 kw_6 rfl 0 (by decide) (hts _ q_713) (fun _ h9 => h9) rfl (by decide +kernel) rfl rfl (Nat.le_of_ble_eq_true rfl) d_Md_rules_2 (fun H locs hP hD hS => ?_)
  replace hP := k_mvP (kw_f6_0.trans (congrArg _ eσ1.symm)) hP
  replace hD := k_mvD (kw_f6_0.trans (congrArg _ eσ1.symm)) hD
  refine lv_iload_n hx hb d_Md_rules_5 rfl (lv_at hl 1 rfl) ?_
  refine lv_if_lt (tgt := 17) hx hb d_Md_rules_6 (by decide) (fun cn2 => ?_) (fun cn2 => ?_)
  · replace h := (if_pos cn2).symm.trans h
    refine lv_iconst (v := (-1)) hx hb d_Md_rules_17 (by decide) ?_
    refine lv_goto (tgt := 27) hx hb d_Md_rules_18 (by decide) ?_
    cases h
    exact k_iret hx hb hr hlk hP hS d_Md_rules_27
  · replace h := (if_neg cn2).symm.trans h
    refine lv_iload_n hx hb d_Md_rules_9 rfl (lv_at hl 1 rfl) ?_
    refine lv_aload_n hx hb d_Md_rules_10 rfl (lv_at hl 0 rfl) ?_
    refine va_get (ci := 1) (C := R_Md) (T := T_Md) (N := 44) hx hb hts in_Md hown hK hP 6 kw_6 rfl 16 (by decide) (hts _ q_729) (fun _ h9 => h9) rfl d_Md_rules_11 ?_
    refine lv_icmp_lt (tgt := 21) hx hb d_Md_rules_14 (by decide) (fun cn3 => ?_) (fun cn3 => ?_)
    · replace h := (if_pos cn3).symm.trans h
      refine lv_aload_n hx hb d_Md_rules_21 rfl (lv_at hl 0 rfl) ?_
      refine va_get (ci := 1) (C := R_Md) (T := T_Md) (N := 44) hx hb hts in_Md hown hK hP 6 kw_6 rfl 17 (by decide) (hts _ q_730) (fun _ h9 => h9) rfl d_Md_rules_22 ?_
      refine lv_iload_n hx hb d_Md_rules_25 rfl (lv_at hl 1 rfl) ?_
      obtain ⟨v4, ev4, hv4, h⟩ := k_ld_e h
      refine va_iald hx hb hK hP 46 0 kw_46 rfl hv4 d_Md_rules_26 (k_top ev4 ?_)
      cases h
      exact k_iret hx hb hr hlk hP hS d_Md_rules_27
    · replace h := (if_neg cn3).symm.trans h
      refine lv_iconst (v := (-1)) hx hb d_Md_rules_17 (by decide) ?_
      refine lv_goto (tgt := 27) hx hb d_Md_rules_18 (by decide) ?_
      cases h
      exact k_iret hx hb hr hlk hP hS d_Md_rules_27
theorem K_Md_rules (l : Launch) (D : va_G) (a : Nat → Nat) (c9 : Nat → ClassId) (sz : Nat) {σ : kS} {x1 : Int32} {r9 : Int32} {σo : kS} (h : M_Md_rules σ x1 = some (r9, σo)) : Met l y_Md_rules (Cond.code y_Md_rules c_Md_rules 2 (some .int) :: kG) rm_Md_rules (k_Pc D a c9 sz σ [.ref (a 6), .int x1]) (k_Qi D a c9 r9 σo (k_A a c9 σ sz)) 0 0 (k_A a c9 σ sz) :=
  k_met (Qf := k_Qi D a c9 r9 σo) (by decide) (Nat.le_of_ble_eq_true rfl) (fun p e s m args below meth c A ls C0 hP hD hS hl => B_Md_rules_0 C0 σ x1 s.heap [] ls hP hD hS hl h)
def rm_Md_first : Room := { frames := 5, cells := 0, slots := 0, locals := 124 }
def M_Md_first_55_b (self9 : kS → Int32 → Int32 → Int32 → Option (Int32 × kS)) (σ : kS) (x1 x2 x3 : Int32) : Option (Int32 × kS) := if σ.1 12 ≤ x3 then (some ((-1), σ)) else (k_call (M_Md_may σ x3 x1) fun v2 σ3 => if v2 = 0 then (k_let (x3 + 1) fun v6 => self9 σ3 x1 x2 v6) else (k_ld (σ3.2.1 38) 30 (x3) fun v7 => k_call (M_Md_search σ3 v7 x1 x2) fun _ σ9 => if σ9.1 18 ≤ 0 then (k_let ((x2 - σ9.1 16)) fun v12 => k_let (x3 + 1) fun v13 => self9 σ9 x1 v12 v13) else (some (x3, σ9))))
def M_Md_first_55 : Nat → kS → Int32 → Int32 → Int32 → Option (Int32 × kS)
  | 0 => fun _ _ _ _ => none
  | n + 1 => M_Md_first_55_b (M_Md_first_55 n)
set_option maxHeartbeats 4000000 in
set_option maxRecDepth 100000 in
theorem B_Md_first_55 {p : Program} {l : Launch} {e : Env} {s : State} {m : MethodId} {args : Array Value} {below : List Frame} {meth : Method} {c : Code} {D : va_G} {a : Nat → Nat} {c9 : Nat → ClassId} {A : Nat → Prop} {r9 : Int32} {σo : kS} (C0 : k_Cx D c9 p s m args meth c R_Md c_Md_first 4 (some .int) A) : ∀ (n : Nat) (σ : kS) (x1 x2 x3 : Int32) (H : Heap) (locs : List Loc) (ls : Array Slot), va_P D kcl (kw a c9 σ) H → va_D A (kw a c9 σ) → va_S A s.heap H locs → lv_has ls 4 [(0, .ref (a 6)), (1, .int x1), (2, .int x2), (3, .int x3)] → M_Md_first_55 n σ x1 x2 x3 = some (r9, σo) → W p l e rm_Md_first s m args below meth c H locs 0 0 (MQ below (k_Qi D a c9 r9 σo A) args s 0 0 A) (F0 m 55 ls []) := by
  obtain ⟨hx, hb, hml, hown, hts, hr, hlk, hK, hN, hA⟩ := id C0
  intro n
  induction n with
  | zero =>
    intro σ x1 x2 x3 H locs ls hP hD hS hl h
    replace h : (none : Option (Int32 × kS)) = some (r9, σo) := h
    cases h
  | succ n ih =>
    intro σ x1 x2 x3 H locs ls hP hD hS hl h
    replace h : M_Md_first_55_b (M_Md_first_55 n) σ x1 x2 x3 = some (r9, σo) := h
    unfold M_Md_first_55_b at h
    refine lv_iload_n hx hb d_Md_first_55 rfl (lv_at hl 3 rfl) ?_
    refine lv_aload_n hx hb d_Md_first_56 rfl (lv_at hl 0 rfl) ?_
    refine va_get (ci := 1) (C := R_Md) (T := T_Md) (N := 44) hx hb hts in_Md hown hK hP 6 kw_6 rfl 14 (by decide) (hts _ q_727) (fun _ h9 => h9) rfl d_Md_first_57 ?_
    refine lv_icmp_ge (tgt := 106) hx hb d_Md_first_60 (by decide) (fun cn1 => ?_) (fun cn1 => ?_)
    · replace h := (if_pos cn1).symm.trans h
      refine lv_iconst (v := (-1)) hx hb d_Md_first_106 (by decide) ?_
      cases h
      exact k_iret hx hb hr hlk hP hS d_Md_first_107
    · replace h := (if_neg cn1).symm.trans h
      refine lv_aload_n hx hb d_Md_first_63 rfl (lv_at hl 0 rfl) ?_
      refine lv_iload_n hx hb d_Md_first_64 rfl (lv_at hl 3 rfl) ?_
      refine lv_iload_n hx hb d_Md_first_65 rfl (lv_at hl 1 rfl) ?_
      obtain ⟨v2, σ3, hc4, h⟩ := k_call_e h
      refine k_calli (va_runV (As := [.int x3, .int x1]) (rest := []) ⟨hx, hb, hml, hown, hts⟩ (K_Md_may l D a c9 H.size hc4) (cwV 2 hts (k_gV q_966 q_968 s_33 q_7 q_969) rfl rfl rfl h_Md_may ⟨Nat.le_of_ble_eq_true rfl, Nat.le_of_ble_eq_true rfl⟩) (k_preV (ci := 1) (q0 := 6) rfl kw_6 hP hK hN hD) rfl rfl hl.1 rfl (lv_room (Nat.le_of_ble_eq_true rfl)) d_Md_first_66 ⟨Nat.zero_le _, Nat.zero_le _⟩) hD hS hA (fun H locs hP hD hS => ?_)
      refine lv_if_eq (tgt := 100) hx hb d_Md_first_69 (by decide) (fun cn5 => ?_) (fun cn5 => ?_)
      · replace h := (if_pos cn5).symm.trans h
        obtain ⟨v6, ev6, h⟩ := k_let_e h
        refine lv_iinc (v := v6) (lv' := [(3, .int v6), (0, .ref (a 6)), (1, .int x1), (2, .int x2)]) hx hb d_Md_first_100 hl (k := 3) rfl (by rw [ev6]; rfl) (by decide) rfl (fun ls hl => ?_)
        refine lv_goto (tgt := 55) hx hb d_Md_first_103 (by decide) ?_
        exact ih _ _ _ _ H locs ls hP hD hS (lv_sub hl [1, 2, 3, 0] rfl) h
      · replace h := (if_neg cn5).symm.trans h
        refine lv_aload_n hx hb d_Md_first_72 rfl (lv_at hl 0 rfl) ?_
        refine lv_aload_n hx hb d_Md_first_73 rfl (lv_at hl 0 rfl) ?_
        refine va_get (ci := 1) (C := R_Md) (T := T_Md) (N := 44) hx hb hts in_Md hown hK hP 6 kw_6 rfl 15 (by decide) (hts _ q_728) (fun _ h9 => h9) rfl d_Md_first_74 ?_
        refine lv_iload_n hx hb d_Md_first_77 rfl (lv_at hl 3 rfl) ?_
        obtain ⟨v7, ev7, hv7, h⟩ := k_ld_e h
        refine va_iald hx hb hK hP 45 0 kw_45 rfl hv7 d_Md_first_78 (k_top ev7 ?_)
        refine lv_iload_n hx hb d_Md_first_79 rfl (lv_at hl 1 rfl) ?_
        refine lv_iload_n hx hb d_Md_first_80 rfl (lv_at hl 2 rfl) ?_
        obtain ⟨v8, σ9, hc10, h⟩ := k_call_e h
        refine k_callv (va_runV (As := [.int v7, .int x1, .int x2]) (rest := []) ⟨hx, hb, hml, hown, hts⟩ (K_Md_search l D a c9 H.size hc10) (cwV 3 hts (k_gV q_889 q_891 s_21 q_7 q_892) rfl rfl rfl h_Md_search ⟨Nat.le_of_ble_eq_true rfl, Nat.le_of_ble_eq_true rfl⟩) (k_preV (ci := 1) (q0 := 6) rfl kw_6 hP hK hN hD) rfl rfl hl.1 rfl (lv_room (Nat.le_of_ble_eq_true rfl)) d_Md_first_81 ⟨Nat.zero_le _, Nat.zero_le _⟩) hD hS hA (fun H locs hP hD hS => ?_)
        refine lv_aload_n hx hb d_Md_first_84 rfl (lv_at hl 0 rfl) ?_
        refine va_get (ci := 1) (C := R_Md) (T := T_Md) (N := 44) hx hb hts in_Md hown hK hP 6 kw_6 rfl 27 (by decide) (hts _ q_740) (fun _ h9 => h9) rfl d_Md_first_85 ?_
        refine lv_if_le (tgt := 93) hx hb d_Md_first_88 (by decide) (fun cn11 => ?_) (fun cn11 => ?_)
        · replace h := (if_pos cn11).symm.trans h
          refine lv_iload_n hx hb d_Md_first_93 rfl (lv_at hl 2 rfl) ?_
          refine lv_aload_n hx hb d_Md_first_94 rfl (lv_at hl 0 rfl) ?_
          refine va_get (ci := 1) (C := R_Md) (T := T_Md) (N := 44) hx hb hts in_Md hown hK hP 6 kw_6 rfl 25 (by decide) (hts _ q_738) (fun _ h9 => h9) rfl d_Md_first_95 ?_
          refine lv_isub hx hb d_Md_first_98 ?_
          obtain ⟨v12, ev12, h⟩ := k_let_e h
          refine k_top ev12 ?_
          refine lv_istore_n (lv' := [(2, .int v12), (0, .ref (a 6)), (1, .int x1), (3, .int x3)]) hx hb d_Md_first_99 rfl hl (by decide) rfl (fun ls hl => ?_)
          obtain ⟨v13, ev13, h⟩ := k_let_e h
          refine lv_iinc (v := v13) (lv' := [(3, .int v13), (2, .int v12), (0, .ref (a 6)), (1, .int x1)]) hx hb d_Md_first_100 hl (k := 3) rfl (by rw [ev13]; rfl) (by decide) rfl (fun ls hl => ?_)
          refine lv_goto (tgt := 55) hx hb d_Md_first_103 (by decide) ?_
          exact ih _ _ _ _ H locs ls hP hD hS (lv_sub hl [2, 3, 1, 0] rfl) h
        · replace h := (if_neg cn11).symm.trans h
          refine lv_iload_n hx hb d_Md_first_91 rfl (lv_at hl 3 rfl) ?_
          cases h
          exact k_iret hx hb hr hlk hP hS d_Md_first_92
def M_Md_first_27 (σ : kS) (x1 y0 : Int32) : Option (Int32 × kS) := k_set σ 10 (y0) fun σ1 => if σ1.1 10 = 0 then (k_set σ1 14 (0) fun σ3 => k_set σ3 16 (0) fun σ4 => M_Md_first_55 k_fu σ4 x1 400 0) else (some (0, σ1))
set_option maxHeartbeats 4000000 in
set_option maxRecDepth 100000 in
theorem B_Md_first_27 {p : Program} {l : Launch} {e : Env} {s : State} {m : MethodId} {args : Array Value} {below : List Frame} {meth : Method} {c : Code} {D : va_G} {a : Nat → Nat} {c9 : Nat → ClassId} {A : Nat → Prop} {r9 : Int32} {σo : kS} (C0 : k_Cx D c9 p s m args meth c R_Md c_Md_first 4 (some .int) A) (σ : kS) (x1 y0 : Int32) (H : Heap) (locs : List Loc) (ls : Array Slot) (hP : va_P D kcl (kw a c9 σ) H) (hD : va_D A (kw a c9 σ)) (hS : va_S A s.heap H locs) (hl : lv_has ls 4 [(0, .ref (a 6)), (1, .int x1)]) (h : M_Md_first_27 σ x1 y0 = some (r9, σo)) : W p l e rm_Md_first s m args below meth c H locs 0 0 (MQ below (k_Qi D a c9 r9 σo A) args s 0 0 A) (F0 m 27 ls [.int y0, .ref (a 6)]) := by
  obtain ⟨hx, hb, hml, hown, hts, hr, hlk, hK, hN, hA⟩ := id C0
  unfold M_Md_first_27 at h
  obtain ⟨σ1, eσ1, h⟩ := k_set_e h
  refine va_put (ci := 1) (v := .int y0) (ty := .int) (C := R_Md) (T := T_Md) (N := 44) hx hb hts in_Md t_Md t_Md_ok n_Md hown hK hP hD hS 6 kw_6 rfl 0 (by decide) (hts _ q_713) (fun _ h9 => h9) rfl (by decide +kernel) rfl rfl (Nat.le_of_ble_eq_true rfl) d_Md_first_27 (fun H locs hP hD hS => ?_)
  replace hP := k_mvP (kw_f6_0.trans (congrArg _ eσ1.symm)) hP
  replace hD := k_mvD (kw_f6_0.trans (congrArg _ eσ1.symm)) hD
  refine lv_aload_n hx hb d_Md_first_30 rfl (lv_at hl 0 rfl) ?_
  refine va_get (ci := 1) (C := R_Md) (T := T_Md) (N := 44) hx hb hts in_Md hown hK hP 6 kw_6 rfl 0 (by decide) (hts _ q_713) (fun _ h9 => h9) rfl d_Md_first_31 ?_
  refine lv_if_eq (tgt := 39) hx hb d_Md_first_34 (by decide) (fun cn2 => ?_) (fun cn2 => ?_)
  · replace h := (if_pos cn2).symm.trans h
    refine lv_aload_n hx hb d_Md_first_39 rfl (lv_at hl 0 rfl) ?_
    refine lv_iconst (v := 0) hx hb d_Md_first_40 (by decide) ?_
    obtain ⟨σ3, eσ3, h⟩ := k_set_e h
    refine va_put (ci := 1) (v := .int 0) (ty := .int) (C := R_Md) (T := T_Md) (N := 44) hx hb hts in_Md t_Md t_Md_ok n_Md hown hK hP hD hS 6 kw_6 rfl 18 (by decide) (hts _ q_731) (fun _ h9 => h9) rfl (by decide +kernel) rfl rfl (Nat.le_of_ble_eq_true rfl) d_Md_first_41 (fun H locs hP hD hS => ?_)
    replace hP := k_mvP (kw_f6_18.trans (congrArg _ eσ3.symm)) hP
    replace hD := k_mvD (kw_f6_18.trans (congrArg _ eσ3.symm)) hD
    refine lv_aload_n hx hb d_Md_first_44 rfl (lv_at hl 0 rfl) ?_
    refine lv_iconst (v := 0) hx hb d_Md_first_45 (by decide) ?_
    obtain ⟨σ4, eσ4, h⟩ := k_set_e h
    refine va_put (ci := 1) (v := .int 0) (ty := .int) (C := R_Md) (T := T_Md) (N := 44) hx hb hts in_Md t_Md t_Md_ok n_Md hown hK hP hD hS 6 kw_6 rfl 25 (by decide) (hts _ q_738) (fun _ h9 => h9) rfl (by decide +kernel) rfl rfl (Nat.le_of_ble_eq_true rfl) d_Md_first_46 (fun H locs hP hD hS => ?_)
    replace hP := k_mvP (kw_f6_25.trans (congrArg _ eσ4.symm)) hP
    replace hD := k_mvD (kw_f6_25.trans (congrArg _ eσ4.symm)) hD
    refine lv_sipush (v := 400) hx hb d_Md_first_49 (by decide) ?_
    refine lv_istore_n (lv' := [(2, .int 400), (0, .ref (a 6)), (1, .int x1)]) hx hb d_Md_first_52 rfl hl (by decide) rfl (fun ls hl => ?_)
    refine lv_iconst (v := 0) hx hb d_Md_first_53 (by decide) ?_
    refine lv_istore_n (lv' := [(3, .int 0), (2, .int 400), (0, .ref (a 6)), (1, .int x1)]) hx hb d_Md_first_54 rfl hl (by decide) rfl (fun ls hl => ?_)
    exact B_Md_first_55 C0 k_fu _ _ _ _ H locs ls hP hD hS (lv_sub hl [2, 3, 1, 0] rfl) h
  · replace h := (if_neg cn2).symm.trans h
    refine lv_iconst (v := 0) hx hb d_Md_first_37 (by decide) ?_
    cases h
    exact k_iret hx hb hr hlk hP hS d_Md_first_38
def M_Md_first (σ : kS) (x1 : Int32) : Option (Int32 × kS) := k_call (M_Md_noTree σ x1) fun v1 σ2 => if v1 = 0 then (k_ld (σ2.2.1 31) 240 (x1) fun v5 => if v5 = 0 then (M_Md_first_27 σ2 x1 2) else (M_Md_first_27 σ2 x1 0)) else (M_Md_first_27 σ2 x1 1)
set_option maxHeartbeats 4000000 in
set_option maxRecDepth 100000 in
theorem B_Md_first_0 {p : Program} {l : Launch} {e : Env} {s : State} {m : MethodId} {args : Array Value} {below : List Frame} {meth : Method} {c : Code} {D : va_G} {a : Nat → Nat} {c9 : Nat → ClassId} {A : Nat → Prop} {r9 : Int32} {σo : kS} (C0 : k_Cx D c9 p s m args meth c R_Md c_Md_first 4 (some .int) A) (σ : kS) (x1 : Int32) (H : Heap) (locs : List Loc) (ls : Array Slot) (hP : va_P D kcl (kw a c9 σ) H) (hD : va_D A (kw a c9 σ)) (hS : va_S A s.heap H locs) (hl : lv_has ls 4 [(0, .ref (a 6)), (1, .int x1)]) (h : M_Md_first σ x1 = some (r9, σo)) : W p l e rm_Md_first s m args below meth c H locs 0 0 (MQ below (k_Qi D a c9 r9 σo A) args s 0 0 A) (F0 m 0 ls []) := by
  obtain ⟨hx, hb, hml, hown, hts, hr, hlk, hK, hN, hA⟩ := id C0
  unfold M_Md_first at h
  refine lv_aload_n hx hb d_Md_first_0 rfl (lv_at hl 0 rfl) ?_
  refine lv_aload_n hx hb d_Md_first_1 rfl (lv_at hl 0 rfl) ?_
  refine lv_iload_n hx hb d_Md_first_2 rfl (lv_at hl 1 rfl) ?_
  obtain ⟨v1, σ2, hc3, h⟩ := k_call_e h
  refine k_calli (va_runV (As := [.int x1]) (rest := [.ref (a 6)]) ⟨hx, hb, hml, hown, hts⟩ (K_Md_noTree l D a c9 H.size hc3) (cwV 1 hts (k_gV q_870 q_872 s_19 q_7 q_873) rfl rfl rfl h_Md_noTree ⟨Nat.le_of_ble_eq_true rfl, Nat.le_of_ble_eq_true rfl⟩) (k_preV (ci := 1) (q0 := 6) rfl kw_6 hP hK hN hD) rfl rfl hl.1 rfl (lv_room (Nat.le_of_ble_eq_true rfl)) d_Md_first_3 ⟨Nat.zero_le _, Nat.zero_le _⟩) hD hS hA (fun H locs hP hD hS => ?_)
  refine lv_if_eq (tgt := 13) hx hb d_Md_first_6 (by decide) (fun cn4 => ?_) (fun cn4 => ?_)
  · replace h := (if_pos cn4).symm.trans h
    refine lv_aload_n hx hb d_Md_first_13 rfl (lv_at hl 0 rfl) ?_
    refine va_get (ci := 1) (C := R_Md) (T := T_Md) (N := 44) hx hb hts in_Md hown hK hP 6 kw_6 rfl 7 (by decide) (hts _ q_720) (fun _ h9 => h9) rfl d_Md_first_14 ?_
    refine lv_iload_n hx hb d_Md_first_17 rfl (lv_at hl 1 rfl) ?_
    obtain ⟨v5, ev5, hv5, h⟩ := k_ld_e h
    refine va_zald hx hb hK hP 38 1 kw_38 rfl hv5 d_Md_first_18 (k_top ev5 ?_)
    refine lv_if_ne (tgt := 26) hx hb d_Md_first_19 (by decide) (fun cn6 => ?_) (fun cn6 => ?_)
    · replace h := (if_neg cn6).symm.trans h
      refine lv_iconst (v := 0) hx hb d_Md_first_26 (by decide) ?_
      exact B_Md_first_27 C0 _ _ _ H locs ls hP hD hS (lv_sub hl [0, 1] rfl) h
    · replace h := (if_pos cn6).symm.trans h
      refine lv_iconst (v := 2) hx hb d_Md_first_22 (by decide) ?_
      refine lv_goto (tgt := 27) hx hb d_Md_first_23 (by decide) ?_
      exact B_Md_first_27 C0 _ _ _ H locs ls hP hD hS (lv_sub hl [0, 1] rfl) h
  · replace h := (if_neg cn4).symm.trans h
    refine lv_iconst (v := 1) hx hb d_Md_first_9 (by decide) ?_
    refine lv_goto (tgt := 27) hx hb d_Md_first_10 (by decide) ?_
    exact B_Md_first_27 C0 _ _ _ H locs ls hP hD hS (lv_sub hl [0, 1] rfl) h
theorem K_Md_first (l : Launch) (D : va_G) (a : Nat → Nat) (c9 : Nat → ClassId) (sz : Nat) {σ : kS} {x1 : Int32} {r9 : Int32} {σo : kS} (h : M_Md_first σ x1 = some (r9, σo)) : Met l y_Md_first (Cond.code y_Md_first c_Md_first 4 (some .int) :: kG) rm_Md_first (k_Pc D a c9 sz σ [.ref (a 6), .int x1]) (k_Qi D a c9 r9 σo (k_A a c9 σ sz)) 0 0 (k_A a c9 σ sz) :=
  k_met (Qf := k_Qi D a c9 r9 σo) (by decide) (Nat.le_of_ble_eq_true rfl) (fun p e s m args below meth c A ls C0 hP hD hS hl => B_Md_first_0 C0 σ x1 s.heap [] ls hP hD hS hl h)
def rm_Md_order : Room := { frames := 1, cells := 0, slots := 0, locals := 26 }
def M_Md_order_44 (σ : kS) (x1 x2 y0 : Int32) : Option (Int32 × kS) := k_set σ 10 (y0) fun σ1 => if σ1.1 10 = 0 then (k_call (M_Md_compare σ1 x1 x2) fun v3 σ4 => some (v3, σ4)) else (some (0, σ1))
set_option maxHeartbeats 4000000 in
set_option maxRecDepth 100000 in
theorem B_Md_order_44 {p : Program} {l : Launch} {e : Env} {s : State} {m : MethodId} {args : Array Value} {below : List Frame} {meth : Method} {c : Code} {D : va_G} {a : Nat → Nat} {c9 : Nat → ClassId} {A : Nat → Prop} {r9 : Int32} {σo : kS} (C0 : k_Cx D c9 p s m args meth c R_Md c_Md_order 3 (some .int) A) (σ : kS) (x1 x2 y0 : Int32) (H : Heap) (locs : List Loc) (ls : Array Slot) (hP : va_P D kcl (kw a c9 σ) H) (hD : va_D A (kw a c9 σ)) (hS : va_S A s.heap H locs) (hl : lv_has ls 3 [(0, .ref (a 6)), (1, .int x1), (2, .int x2)]) (h : M_Md_order_44 σ x1 x2 y0 = some (r9, σo)) : W p l e rm_Md_order s m args below meth c H locs 0 0 (MQ below (k_Qi D a c9 r9 σo A) args s 0 0 A) (F0 m 44 ls [.int y0, .ref (a 6)]) := by
  obtain ⟨hx, hb, hml, hown, hts, hr, hlk, hK, hN, hA⟩ := id C0
  unfold M_Md_order_44 at h
  obtain ⟨σ1, eσ1, h⟩ := k_set_e h
  refine va_put (ci := 1) (v := .int y0) (ty := .int) (C := R_Md) (T := T_Md) (N := 44) hx hb hts in_Md t_Md t_Md_ok n_Md hown hK hP hD hS 6 kw_6 rfl 0 (by decide) (hts _ q_713) (fun _ h9 => h9) rfl (by decide +kernel) rfl rfl (Nat.le_of_ble_eq_true rfl) d_Md_order_44 (fun H locs hP hD hS => ?_)
  replace hP := k_mvP (kw_f6_0.trans (congrArg _ eσ1.symm)) hP
  replace hD := k_mvD (kw_f6_0.trans (congrArg _ eσ1.symm)) hD
  refine lv_aload_n hx hb d_Md_order_47 rfl (lv_at hl 0 rfl) ?_
  refine va_get (ci := 1) (C := R_Md) (T := T_Md) (N := 44) hx hb hts in_Md hown hK hP 6 kw_6 rfl 0 (by decide) (hts _ q_713) (fun _ h9 => h9) rfl d_Md_order_48 ?_
  refine lv_if_eq (tgt := 58) hx hb d_Md_order_51 (by decide) (fun cn2 => ?_) (fun cn2 => ?_)
  · replace h := (if_pos cn2).symm.trans h
    refine lv_aload_n hx hb d_Md_order_58 rfl (lv_at hl 0 rfl) ?_
    refine lv_iload_n hx hb d_Md_order_59 rfl (lv_at hl 1 rfl) ?_
    refine lv_iload_n hx hb d_Md_order_60 rfl (lv_at hl 2 rfl) ?_
    obtain ⟨v3, σ4, hc5, h⟩ := k_call_e h
    refine k_calli (va_runV (As := [.int x1, .int x2]) (rest := []) ⟨hx, hb, hml, hown, hts⟩ (K_Md_compare l D a c9 H.size hc5) (cwV 2 hts (k_gV q_877 q_879 s_20 q_7 q_880) rfl rfl rfl h_Md_compare ⟨Nat.le_of_ble_eq_true rfl, Nat.le_of_ble_eq_true rfl⟩) (k_preV (ci := 1) (q0 := 6) rfl kw_6 hP hK hN hD) rfl rfl hl.1 rfl (lv_room (Nat.le_of_ble_eq_true rfl)) d_Md_order_61 ⟨Nat.zero_le _, Nat.zero_le _⟩) hD hS hA (fun H locs hP hD hS => ?_)
    cases h
    exact k_iret hx hb hr hlk hP hS d_Md_order_64
  · replace h := (if_neg cn2).symm.trans h
    refine lv_iconst (v := 0) hx hb d_Md_order_54 (by decide) ?_
    refine lv_goto (tgt := 64) hx hb d_Md_order_55 (by decide) ?_
    cases h
    exact k_iret hx hb hr hlk hP hS d_Md_order_64
def M_Md_order_17 (σ : kS) (x1 x2 : Int32) : Option (Int32 × kS) := M_Md_order_44 σ x1 x2 1
set_option maxHeartbeats 4000000 in
set_option maxRecDepth 100000 in
theorem B_Md_order_17 {p : Program} {l : Launch} {e : Env} {s : State} {m : MethodId} {args : Array Value} {below : List Frame} {meth : Method} {c : Code} {D : va_G} {a : Nat → Nat} {c9 : Nat → ClassId} {A : Nat → Prop} {r9 : Int32} {σo : kS} (C0 : k_Cx D c9 p s m args meth c R_Md c_Md_order 3 (some .int) A) (σ : kS) (x1 x2 : Int32) (H : Heap) (locs : List Loc) (ls : Array Slot) (hP : va_P D kcl (kw a c9 σ) H) (hD : va_D A (kw a c9 σ)) (hS : va_S A s.heap H locs) (hl : lv_has ls 3 [(0, .ref (a 6)), (1, .int x1), (2, .int x2)]) (h : M_Md_order_17 σ x1 x2 = some (r9, σo)) : W p l e rm_Md_order s m args below meth c H locs 0 0 (MQ below (k_Qi D a c9 r9 σo A) args s 0 0 A) (F0 m 17 ls [.ref (a 6)]) := by
  obtain ⟨hx, hb, hml, hown, hts, hr, hlk, hK, hN, hA⟩ := id C0
  unfold M_Md_order_17 at h
  refine lv_iconst (v := 1) hx hb d_Md_order_17 (by decide) ?_
  refine lv_goto (tgt := 44) hx hb d_Md_order_18 (by decide) ?_
  exact B_Md_order_44 C0 _ _ _ _ H locs ls hP hD hS (lv_sub hl [0, 1, 2] rfl) h
def M_Md_order_39 (σ : kS) (x1 x2 : Int32) : Option (Int32 × kS) := M_Md_order_44 σ x1 x2 2
set_option maxHeartbeats 4000000 in
set_option maxRecDepth 100000 in
theorem B_Md_order_39 {p : Program} {l : Launch} {e : Env} {s : State} {m : MethodId} {args : Array Value} {below : List Frame} {meth : Method} {c : Code} {D : va_G} {a : Nat → Nat} {c9 : Nat → ClassId} {A : Nat → Prop} {r9 : Int32} {σo : kS} (C0 : k_Cx D c9 p s m args meth c R_Md c_Md_order 3 (some .int) A) (σ : kS) (x1 x2 : Int32) (H : Heap) (locs : List Loc) (ls : Array Slot) (hP : va_P D kcl (kw a c9 σ) H) (hD : va_D A (kw a c9 σ)) (hS : va_S A s.heap H locs) (hl : lv_has ls 3 [(0, .ref (a 6)), (1, .int x1), (2, .int x2)]) (h : M_Md_order_39 σ x1 x2 = some (r9, σo)) : W p l e rm_Md_order s m args below meth c H locs 0 0 (MQ below (k_Qi D a c9 r9 σo A) args s 0 0 A) (F0 m 39 ls [.ref (a 6)]) := by
  obtain ⟨hx, hb, hml, hown, hts, hr, hlk, hK, hN, hA⟩ := id C0
  unfold M_Md_order_39 at h
  refine lv_iconst (v := 2) hx hb d_Md_order_39 (by decide) ?_
  refine lv_goto (tgt := 44) hx hb d_Md_order_40 (by decide) ?_
  exact B_Md_order_44 C0 _ _ _ _ H locs ls hP hD hS (lv_sub hl [0, 1, 2] rfl) h
def M_Md_order (σ : kS) (x1 x2 : Int32) : Option (Int32 × kS) := k_call (M_Md_noTree σ x1) fun v1 σ2 => if v1 = 0 then (k_call (M_Md_noTree σ2 x2) fun v5 σ6 => if v5 = 0 then (k_ld (σ6.2.1 31) 240 (x1) fun v9 => if v9 = 0 then (M_Md_order_39 σ6 x1 x2) else (k_ld (σ6.2.1 31) 240 (x2) fun v11 => if v11 = 0 then (M_Md_order_39 σ6 x1 x2) else (M_Md_order_44 σ6 x1 x2 0))) else (M_Md_order_17 σ6 x1 x2)) else (M_Md_order_17 σ2 x1 x2)
set_option maxHeartbeats 4000000 in
set_option maxRecDepth 100000 in
theorem B_Md_order_0 {p : Program} {l : Launch} {e : Env} {s : State} {m : MethodId} {args : Array Value} {below : List Frame} {meth : Method} {c : Code} {D : va_G} {a : Nat → Nat} {c9 : Nat → ClassId} {A : Nat → Prop} {r9 : Int32} {σo : kS} (C0 : k_Cx D c9 p s m args meth c R_Md c_Md_order 3 (some .int) A) (σ : kS) (x1 x2 : Int32) (H : Heap) (locs : List Loc) (ls : Array Slot) (hP : va_P D kcl (kw a c9 σ) H) (hD : va_D A (kw a c9 σ)) (hS : va_S A s.heap H locs) (hl : lv_has ls 3 [(0, .ref (a 6)), (1, .int x1), (2, .int x2)]) (h : M_Md_order σ x1 x2 = some (r9, σo)) : W p l e rm_Md_order s m args below meth c H locs 0 0 (MQ below (k_Qi D a c9 r9 σo A) args s 0 0 A) (F0 m 0 ls []) := by
  obtain ⟨hx, hb, hml, hown, hts, hr, hlk, hK, hN, hA⟩ := id C0
  unfold M_Md_order at h
  refine lv_aload_n hx hb d_Md_order_0 rfl (lv_at hl 0 rfl) ?_
  refine lv_aload_n hx hb d_Md_order_1 rfl (lv_at hl 0 rfl) ?_
  refine lv_iload_n hx hb d_Md_order_2 rfl (lv_at hl 1 rfl) ?_
  obtain ⟨v1, σ2, hc3, h⟩ := k_call_e h
  refine k_calli (va_runV (As := [.int x1]) (rest := [.ref (a 6)]) ⟨hx, hb, hml, hown, hts⟩ (K_Md_noTree l D a c9 H.size hc3) (cwV 1 hts (k_gV q_870 q_872 s_19 q_7 q_873) rfl rfl rfl h_Md_noTree ⟨Nat.le_of_ble_eq_true rfl, Nat.le_of_ble_eq_true rfl⟩) (k_preV (ci := 1) (q0 := 6) rfl kw_6 hP hK hN hD) rfl rfl hl.1 rfl (lv_room (Nat.le_of_ble_eq_true rfl)) d_Md_order_3 ⟨Nat.zero_le _, Nat.zero_le _⟩) hD hS hA (fun H locs hP hD hS => ?_)
  refine lv_if_ne (tgt := 17) hx hb d_Md_order_6 (by decide) (fun cn4 => ?_) (fun cn4 => ?_)
  · replace h := (if_neg cn4).symm.trans h
    exact B_Md_order_17 C0 _ _ _ H locs ls hP hD hS (lv_sub hl [0, 1, 2] rfl) h
  · replace h := (if_pos cn4).symm.trans h
    refine lv_aload_n hx hb d_Md_order_9 rfl (lv_at hl 0 rfl) ?_
    refine lv_iload_n hx hb d_Md_order_10 rfl (lv_at hl 2 rfl) ?_
    obtain ⟨v5, σ6, hc7, h⟩ := k_call_e h
    refine k_calli (va_runV (As := [.int x2]) (rest := [.ref (a 6)]) ⟨hx, hb, hml, hown, hts⟩ (K_Md_noTree l D a c9 H.size hc7) (cwV 1 hts (k_gV q_870 q_872 s_19 q_7 q_873) rfl rfl rfl h_Md_noTree ⟨Nat.le_of_ble_eq_true rfl, Nat.le_of_ble_eq_true rfl⟩) (k_preV (ci := 1) (q0 := 6) rfl kw_6 hP hK hN hD) rfl rfl hl.1 rfl (lv_room (Nat.le_of_ble_eq_true rfl)) d_Md_order_11 ⟨Nat.zero_le _, Nat.zero_le _⟩) hD hS hA (fun H locs hP hD hS => ?_)
    refine lv_if_eq (tgt := 21) hx hb d_Md_order_14 (by decide) (fun cn8 => ?_) (fun cn8 => ?_)
    · replace h := (if_pos cn8).symm.trans h
      refine lv_aload_n hx hb d_Md_order_21 rfl (lv_at hl 0 rfl) ?_
      refine va_get (ci := 1) (C := R_Md) (T := T_Md) (N := 44) hx hb hts in_Md hown hK hP 6 kw_6 rfl 7 (by decide) (hts _ q_720) (fun _ h9 => h9) rfl d_Md_order_22 ?_
      refine lv_iload_n hx hb d_Md_order_25 rfl (lv_at hl 1 rfl) ?_
      obtain ⟨v9, ev9, hv9, h⟩ := k_ld_e h
      refine va_zald hx hb hK hP 38 1 kw_38 rfl hv9 d_Md_order_26 (k_top ev9 ?_)
      refine lv_if_eq (tgt := 39) hx hb d_Md_order_27 (by decide) (fun cn10 => ?_) (fun cn10 => ?_)
      · replace h := (if_pos cn10).symm.trans h
        exact B_Md_order_39 C0 _ _ _ H locs ls hP hD hS (lv_sub hl [0, 1, 2] rfl) h
      · replace h := (if_neg cn10).symm.trans h
        refine lv_aload_n hx hb d_Md_order_30 rfl (lv_at hl 0 rfl) ?_
        refine va_get (ci := 1) (C := R_Md) (T := T_Md) (N := 44) hx hb hts in_Md hown hK hP 6 kw_6 rfl 7 (by decide) (hts _ q_720) (fun _ h9 => h9) rfl d_Md_order_31 ?_
        refine lv_iload_n hx hb d_Md_order_34 rfl (lv_at hl 2 rfl) ?_
        obtain ⟨v11, ev11, hv11, h⟩ := k_ld_e h
        refine va_zald hx hb hK hP 38 1 kw_38 rfl hv11 d_Md_order_35 (k_top ev11 ?_)
        refine lv_if_ne (tgt := 43) hx hb d_Md_order_36 (by decide) (fun cn12 => ?_) (fun cn12 => ?_)
        · replace h := (if_neg cn12).symm.trans h
          refine lv_iconst (v := 0) hx hb d_Md_order_43 (by decide) ?_
          exact B_Md_order_44 C0 _ _ _ _ H locs ls hP hD hS (lv_sub hl [0, 1, 2] rfl) h
        · replace h := (if_pos cn12).symm.trans h
          exact B_Md_order_39 C0 _ _ _ H locs ls hP hD hS (lv_sub hl [0, 1, 2] rfl) h
    · replace h := (if_neg cn8).symm.trans h
      exact B_Md_order_17 C0 _ _ _ H locs ls hP hD hS (lv_sub hl [0, 1, 2] rfl) h
theorem K_Md_order (l : Launch) (D : va_G) (a : Nat → Nat) (c9 : Nat → ClassId) (sz : Nat) {σ : kS} {x1 x2 : Int32} {r9 : Int32} {σo : kS} (h : M_Md_order σ x1 x2 = some (r9, σo)) : Met l y_Md_order (Cond.code y_Md_order c_Md_order 3 (some .int) :: kG) rm_Md_order (k_Pc D a c9 sz σ [.ref (a 6), .int x1, .int x2]) (k_Qi D a c9 r9 σo (k_A a c9 σ sz)) 0 0 (k_A a c9 σ sz) :=
  k_met (Qf := k_Qi D a c9 r9 σo) (by decide) (Nat.le_of_ble_eq_true rfl) (fun p e s m args below meth c A ls C0 hP hD hS hl => B_Md_order_0 C0 σ x1 x2 s.heap [] ls hP hD hS hl h)
def rm_Md_parts : Room := { frames := 1, cells := 0, slots := 0, locals := 21 }
def M_Md_parts_14 (σ : kS) (x1 y0 : Int32) : Option (Int32 × kS) := k_set σ 10 (y0) fun σ1 => if σ1.1 10 = 0 then (k_ld (σ1.2.1 29) 240 (x1) fun v3 => some (v3, σ1)) else (some (0, σ1))
set_option maxHeartbeats 4000000 in
set_option maxRecDepth 100000 in
theorem B_Md_parts_14 {p : Program} {l : Launch} {e : Env} {s : State} {m : MethodId} {args : Array Value} {below : List Frame} {meth : Method} {c : Code} {D : va_G} {a : Nat → Nat} {c9 : Nat → ClassId} {A : Nat → Prop} {r9 : Int32} {σo : kS} (C0 : k_Cx D c9 p s m args meth c R_Md c_Md_parts 2 (some .int) A) (σ : kS) (x1 y0 : Int32) (H : Heap) (locs : List Loc) (ls : Array Slot) (hP : va_P D kcl (kw a c9 σ) H) (hD : va_D A (kw a c9 σ)) (hS : va_S A s.heap H locs) (hl : lv_has ls 2 [(0, .ref (a 6)), (1, .int x1)]) (h : M_Md_parts_14 σ x1 y0 = some (r9, σo)) : W p l e rm_Md_parts s m args below meth c H locs 0 0 (MQ below (k_Qi D a c9 r9 σo A) args s 0 0 A) (F0 m 14 ls [.int y0, .ref (a 6)]) := by
  obtain ⟨hx, hb, hml, hown, hts, hr, hlk, hK, hN, hA⟩ := id C0
  unfold M_Md_parts_14 at h
  obtain ⟨σ1, eσ1, h⟩ := k_set_e h
  refine va_put (ci := 1) (v := .int y0) (ty := .int) (C := R_Md) (T := T_Md) (N := 44) hx hb hts in_Md t_Md t_Md_ok n_Md hown hK hP hD hS 6 kw_6 rfl 0 (by decide) (hts _ q_713) (fun _ h9 => h9) rfl (by decide +kernel) rfl rfl (Nat.le_of_ble_eq_true rfl) d_Md_parts_14 (fun H locs hP hD hS => ?_)
  replace hP := k_mvP (kw_f6_0.trans (congrArg _ eσ1.symm)) hP
  replace hD := k_mvD (kw_f6_0.trans (congrArg _ eσ1.symm)) hD
  refine lv_aload_n hx hb d_Md_parts_17 rfl (lv_at hl 0 rfl) ?_
  refine va_get (ci := 1) (C := R_Md) (T := T_Md) (N := 44) hx hb hts in_Md hown hK hP 6 kw_6 rfl 0 (by decide) (hts _ q_713) (fun _ h9 => h9) rfl d_Md_parts_18 ?_
  refine lv_if_eq (tgt := 28) hx hb d_Md_parts_21 (by decide) (fun cn2 => ?_) (fun cn2 => ?_)
  · replace h := (if_pos cn2).symm.trans h
    refine lv_aload_n hx hb d_Md_parts_28 rfl (lv_at hl 0 rfl) ?_
    refine va_get (ci := 1) (C := R_Md) (T := T_Md) (N := 44) hx hb hts in_Md hown hK hP 6 kw_6 rfl 5 (by decide) (hts _ q_718) (fun _ h9 => h9) rfl d_Md_parts_29 ?_
    refine lv_iload_n hx hb d_Md_parts_32 rfl (lv_at hl 1 rfl) ?_
    obtain ⟨v3, ev3, hv3, h⟩ := k_ld_e h
    refine va_iald hx hb hK hP 36 0 kw_36 rfl hv3 d_Md_parts_33 (k_top ev3 ?_)
    cases h
    exact k_iret hx hb hr hlk hP hS d_Md_parts_34
  · replace h := (if_neg cn2).symm.trans h
    refine lv_iconst (v := 0) hx hb d_Md_parts_24 (by decide) ?_
    refine lv_goto (tgt := 34) hx hb d_Md_parts_25 (by decide) ?_
    cases h
    exact k_iret hx hb hr hlk hP hS d_Md_parts_34
def M_Md_parts (σ : kS) (x1 : Int32) : Option (Int32 × kS) := k_call (M_Md_noTree σ x1) fun v1 σ2 => if v1 = 0 then (M_Md_parts_14 σ2 x1 0) else (M_Md_parts_14 σ2 x1 1)
set_option maxHeartbeats 4000000 in
set_option maxRecDepth 100000 in
theorem B_Md_parts_0 {p : Program} {l : Launch} {e : Env} {s : State} {m : MethodId} {args : Array Value} {below : List Frame} {meth : Method} {c : Code} {D : va_G} {a : Nat → Nat} {c9 : Nat → ClassId} {A : Nat → Prop} {r9 : Int32} {σo : kS} (C0 : k_Cx D c9 p s m args meth c R_Md c_Md_parts 2 (some .int) A) (σ : kS) (x1 : Int32) (H : Heap) (locs : List Loc) (ls : Array Slot) (hP : va_P D kcl (kw a c9 σ) H) (hD : va_D A (kw a c9 σ)) (hS : va_S A s.heap H locs) (hl : lv_has ls 2 [(0, .ref (a 6)), (1, .int x1)]) (h : M_Md_parts σ x1 = some (r9, σo)) : W p l e rm_Md_parts s m args below meth c H locs 0 0 (MQ below (k_Qi D a c9 r9 σo A) args s 0 0 A) (F0 m 0 ls []) := by
  obtain ⟨hx, hb, hml, hown, hts, hr, hlk, hK, hN, hA⟩ := id C0
  unfold M_Md_parts at h
  refine lv_aload_n hx hb d_Md_parts_0 rfl (lv_at hl 0 rfl) ?_
  refine lv_aload_n hx hb d_Md_parts_1 rfl (lv_at hl 0 rfl) ?_
  refine lv_iload_n hx hb d_Md_parts_2 rfl (lv_at hl 1 rfl) ?_
  obtain ⟨v1, σ2, hc3, h⟩ := k_call_e h
  refine k_calli (va_runV (As := [.int x1]) (rest := [.ref (a 6)]) ⟨hx, hb, hml, hown, hts⟩ (K_Md_noTree l D a c9 H.size hc3) (cwV 1 hts (k_gV q_870 q_872 s_19 q_7 q_873) rfl rfl rfl h_Md_noTree ⟨Nat.le_of_ble_eq_true rfl, Nat.le_of_ble_eq_true rfl⟩) (k_preV (ci := 1) (q0 := 6) rfl kw_6 hP hK hN hD) rfl rfl hl.1 rfl (lv_room (Nat.le_of_ble_eq_true rfl)) d_Md_parts_3 ⟨Nat.zero_le _, Nat.zero_le _⟩) hD hS hA (fun H locs hP hD hS => ?_)
  refine lv_if_eq (tgt := 13) hx hb d_Md_parts_6 (by decide) (fun cn4 => ?_) (fun cn4 => ?_)
  · replace h := (if_pos cn4).symm.trans h
    refine lv_iconst (v := 0) hx hb d_Md_parts_13 (by decide) ?_
    exact B_Md_parts_14 C0 _ _ _ H locs ls hP hD hS (lv_sub hl [0, 1] rfl) h
  · replace h := (if_neg cn4).symm.trans h
    refine lv_iconst (v := 1) hx hb d_Md_parts_9 (by decide) ?_
    refine lv_goto (tgt := 14) hx hb d_Md_parts_10 (by decide) ?_
    exact B_Md_parts_14 C0 _ _ _ H locs ls hP hD hS (lv_sub hl [0, 1] rfl) h
theorem K_Md_parts (l : Launch) (D : va_G) (a : Nat → Nat) (c9 : Nat → ClassId) (sz : Nat) {σ : kS} {x1 : Int32} {r9 : Int32} {σo : kS} (h : M_Md_parts σ x1 = some (r9, σo)) : Met l y_Md_parts (Cond.code y_Md_parts c_Md_parts 2 (some .int) :: kG) rm_Md_parts (k_Pc D a c9 sz σ [.ref (a 6), .int x1]) (k_Qi D a c9 r9 σo (k_A a c9 σ sz)) 0 0 (k_A a c9 σ sz) :=
  k_met (Qf := k_Qi D a c9 r9 σo) (by decide) (Nat.le_of_ble_eq_true rfl) (fun p e s m args below meth c A ls C0 hP hD hS hl => B_Md_parts_0 C0 σ x1 s.heap [] ls hP hD hS hl h)
def rm_Md_part : Room := { frames := 1, cells := 0, slots := 0, locals := 21 }
def M_Md_part_14 (σ : kS) (x1 x2 y0 : Int32) : Option (Int32 × kS) := k_set σ 10 (y0) fun σ1 => if σ1.1 10 = 0 then (if x2 < 0 then (some ((-1), σ1)) else (k_ld (σ1.2.1 29) 240 (x1) fun v4 => if x2 < v4 then (k_ld (σ1.2.1 30) 2880 (((12 * x1) + x2)) fun v6 => some (v6, σ1)) else (some ((-1), σ1)))) else (some (0, σ1))
set_option maxHeartbeats 4000000 in
set_option maxRecDepth 100000 in
theorem B_Md_part_14 {p : Program} {l : Launch} {e : Env} {s : State} {m : MethodId} {args : Array Value} {below : List Frame} {meth : Method} {c : Code} {D : va_G} {a : Nat → Nat} {c9 : Nat → ClassId} {A : Nat → Prop} {r9 : Int32} {σo : kS} (C0 : k_Cx D c9 p s m args meth c R_Md c_Md_part 3 (some .int) A) (σ : kS) (x1 x2 y0 : Int32) (H : Heap) (locs : List Loc) (ls : Array Slot) (hP : va_P D kcl (kw a c9 σ) H) (hD : va_D A (kw a c9 σ)) (hS : va_S A s.heap H locs) (hl : lv_has ls 3 [(0, .ref (a 6)), (1, .int x1), (2, .int x2)]) (h : M_Md_part_14 σ x1 x2 y0 = some (r9, σo)) : W p l e rm_Md_part s m args below meth c H locs 0 0 (MQ below (k_Qi D a c9 r9 σo A) args s 0 0 A) (F0 m 14 ls [.int y0, .ref (a 6)]) := by
  obtain ⟨hx, hb, hml, hown, hts, hr, hlk, hK, hN, hA⟩ := id C0
  unfold M_Md_part_14 at h
  obtain ⟨σ1, eσ1, h⟩ := k_set_e h
  refine va_put (ci := 1) (v := .int y0) (ty := .int) (C := R_Md) (T := T_Md) (N := 44) hx hb hts in_Md t_Md t_Md_ok n_Md hown hK hP hD hS 6 kw_6 rfl 0 (by decide) (hts _ q_713) (fun _ h9 => h9) rfl (by decide +kernel) rfl rfl (Nat.le_of_ble_eq_true rfl) d_Md_part_14 (fun H locs hP hD hS => ?_)
  replace hP := k_mvP (kw_f6_0.trans (congrArg _ eσ1.symm)) hP
  replace hD := k_mvD (kw_f6_0.trans (congrArg _ eσ1.symm)) hD
  refine lv_aload_n hx hb d_Md_part_17 rfl (lv_at hl 0 rfl) ?_
  refine va_get (ci := 1) (C := R_Md) (T := T_Md) (N := 44) hx hb hts in_Md hown hK hP 6 kw_6 rfl 0 (by decide) (hts _ q_713) (fun _ h9 => h9) rfl d_Md_part_18 ?_
  refine lv_if_eq (tgt := 26) hx hb d_Md_part_21 (by decide) (fun cn2 => ?_) (fun cn2 => ?_)
  · replace h := (if_pos cn2).symm.trans h
    refine lv_iload_n hx hb d_Md_part_26 rfl (lv_at hl 2 rfl) ?_
    refine lv_if_lt (tgt := 40) hx hb d_Md_part_27 (by decide) (fun cn3 => ?_) (fun cn3 => ?_)
    · replace h := (if_pos cn3).symm.trans h
      refine lv_iconst (v := (-1)) hx hb d_Md_part_40 (by decide) ?_
      refine lv_goto (tgt := 55) hx hb d_Md_part_41 (by decide) ?_
      cases h
      exact k_iret hx hb hr hlk hP hS d_Md_part_55
    · replace h := (if_neg cn3).symm.trans h
      refine lv_iload_n hx hb d_Md_part_30 rfl (lv_at hl 2 rfl) ?_
      refine lv_aload_n hx hb d_Md_part_31 rfl (lv_at hl 0 rfl) ?_
      refine va_get (ci := 1) (C := R_Md) (T := T_Md) (N := 44) hx hb hts in_Md hown hK hP 6 kw_6 rfl 5 (by decide) (hts _ q_718) (fun _ h9 => h9) rfl d_Md_part_32 ?_
      refine lv_iload_n hx hb d_Md_part_35 rfl (lv_at hl 1 rfl) ?_
      obtain ⟨v4, ev4, hv4, h⟩ := k_ld_e h
      refine va_iald hx hb hK hP 36 0 kw_36 rfl hv4 d_Md_part_36 (k_top ev4 ?_)
      refine lv_icmp_lt (tgt := 44) hx hb d_Md_part_37 (by decide) (fun cn5 => ?_) (fun cn5 => ?_)
      · replace h := (if_pos cn5).symm.trans h
        refine lv_aload_n hx hb d_Md_part_44 rfl (lv_at hl 0 rfl) ?_
        refine va_get (ci := 1) (C := R_Md) (T := T_Md) (N := 44) hx hb hts in_Md hown hK hP 6 kw_6 rfl 6 (by decide) (hts _ q_719) (fun _ h9 => h9) rfl d_Md_part_45 ?_
        refine lv_bipush (v := 12) hx hb d_Md_part_48 (by decide) ?_
        refine lv_iload_n hx hb d_Md_part_50 rfl (lv_at hl 1 rfl) ?_
        refine lv_imul hx hb d_Md_part_51 ?_
        refine lv_iload_n hx hb d_Md_part_52 rfl (lv_at hl 2 rfl) ?_
        refine lv_iadd hx hb d_Md_part_53 ?_
        obtain ⟨v6, ev6, hv6, h⟩ := k_ld_e h
        refine va_iald hx hb hK hP 37 0 kw_37 rfl hv6 d_Md_part_54 (k_top ev6 ?_)
        cases h
        exact k_iret hx hb hr hlk hP hS d_Md_part_55
      · replace h := (if_neg cn5).symm.trans h
        refine lv_iconst (v := (-1)) hx hb d_Md_part_40 (by decide) ?_
        refine lv_goto (tgt := 55) hx hb d_Md_part_41 (by decide) ?_
        cases h
        exact k_iret hx hb hr hlk hP hS d_Md_part_55
  · replace h := (if_neg cn2).symm.trans h
    refine lv_iconst (v := 0) hx hb d_Md_part_24 (by decide) ?_
    cases h
    exact k_iret hx hb hr hlk hP hS d_Md_part_25
def M_Md_part (σ : kS) (x1 x2 : Int32) : Option (Int32 × kS) := k_call (M_Md_noTree σ x1) fun v1 σ2 => if v1 = 0 then (M_Md_part_14 σ2 x1 x2 0) else (M_Md_part_14 σ2 x1 x2 1)
set_option maxHeartbeats 4000000 in
set_option maxRecDepth 100000 in
theorem B_Md_part_0 {p : Program} {l : Launch} {e : Env} {s : State} {m : MethodId} {args : Array Value} {below : List Frame} {meth : Method} {c : Code} {D : va_G} {a : Nat → Nat} {c9 : Nat → ClassId} {A : Nat → Prop} {r9 : Int32} {σo : kS} (C0 : k_Cx D c9 p s m args meth c R_Md c_Md_part 3 (some .int) A) (σ : kS) (x1 x2 : Int32) (H : Heap) (locs : List Loc) (ls : Array Slot) (hP : va_P D kcl (kw a c9 σ) H) (hD : va_D A (kw a c9 σ)) (hS : va_S A s.heap H locs) (hl : lv_has ls 3 [(0, .ref (a 6)), (1, .int x1), (2, .int x2)]) (h : M_Md_part σ x1 x2 = some (r9, σo)) : W p l e rm_Md_part s m args below meth c H locs 0 0 (MQ below (k_Qi D a c9 r9 σo A) args s 0 0 A) (F0 m 0 ls []) := by
  obtain ⟨hx, hb, hml, hown, hts, hr, hlk, hK, hN, hA⟩ := id C0
  unfold M_Md_part at h
  refine lv_aload_n hx hb d_Md_part_0 rfl (lv_at hl 0 rfl) ?_
  refine lv_aload_n hx hb d_Md_part_1 rfl (lv_at hl 0 rfl) ?_
  refine lv_iload_n hx hb d_Md_part_2 rfl (lv_at hl 1 rfl) ?_
  obtain ⟨v1, σ2, hc3, h⟩ := k_call_e h
  refine k_calli (va_runV (As := [.int x1]) (rest := [.ref (a 6)]) ⟨hx, hb, hml, hown, hts⟩ (K_Md_noTree l D a c9 H.size hc3) (cwV 1 hts (k_gV q_870 q_872 s_19 q_7 q_873) rfl rfl rfl h_Md_noTree ⟨Nat.le_of_ble_eq_true rfl, Nat.le_of_ble_eq_true rfl⟩) (k_preV (ci := 1) (q0 := 6) rfl kw_6 hP hK hN hD) rfl rfl hl.1 rfl (lv_room (Nat.le_of_ble_eq_true rfl)) d_Md_part_3 ⟨Nat.zero_le _, Nat.zero_le _⟩) hD hS hA (fun H locs hP hD hS => ?_)
  refine lv_if_eq (tgt := 13) hx hb d_Md_part_6 (by decide) (fun cn4 => ?_) (fun cn4 => ?_)
  · replace h := (if_pos cn4).symm.trans h
    refine lv_iconst (v := 0) hx hb d_Md_part_13 (by decide) ?_
    exact B_Md_part_14 C0 _ _ _ _ H locs ls hP hD hS (lv_sub hl [0, 1, 2] rfl) h
  · replace h := (if_neg cn4).symm.trans h
    refine lv_iconst (v := 1) hx hb d_Md_part_9 (by decide) ?_
    refine lv_goto (tgt := 14) hx hb d_Md_part_10 (by decide) ?_
    exact B_Md_part_14 C0 _ _ _ _ H locs ls hP hD hS (lv_sub hl [0, 1, 2] rfl) h
theorem K_Md_part (l : Launch) (D : va_G) (a : Nat → Nat) (c9 : Nat → ClassId) (sz : Nat) {σ : kS} {x1 x2 : Int32} {r9 : Int32} {σo : kS} (h : M_Md_part σ x1 x2 = some (r9, σo)) : Met l y_Md_part (Cond.code y_Md_part c_Md_part 3 (some .int) :: kG) rm_Md_part (k_Pc D a c9 sz σ [.ref (a 6), .int x1, .int x2]) (k_Qi D a c9 r9 σo (k_A a c9 σ sz)) 0 0 (k_A a c9 σ sz) :=
  k_met (Qf := k_Qi D a c9 r9 σo) (by decide) (Nat.le_of_ble_eq_true rfl) (fun p e s m args below meth c A ls C0 hP hD hS hl => B_Md_part_0 C0 σ x1 x2 s.heap [] ls hP hD hS hl h)
def rm_Md_count : Room := { frames := 0, cells := 0, slots := 0, locals := 0 }
def M_Md_count (σ : kS) (x1 : Int32) : Option (Int32 × kS) := k_set σ 10 (0) fun σ1 => if x1 = 0 then (some (σ1.1 11, σ1)) else (if x1 = 1 then (some (σ1.1 12, σ1)) else (if x1 = 2 then (some (σ1.1 14, σ1)) else (some ((-1), σ1))))
set_option maxHeartbeats 4000000 in
set_option maxRecDepth 100000 in
theorem B_Md_count_0 {p : Program} {l : Launch} {e : Env} {s : State} {m : MethodId} {args : Array Value} {below : List Frame} {meth : Method} {c : Code} {D : va_G} {a : Nat → Nat} {c9 : Nat → ClassId} {A : Nat → Prop} {r9 : Int32} {σo : kS} (C0 : k_Cx D c9 p s m args meth c R_Md c_Md_count 2 (some .int) A) (σ : kS) (x1 : Int32) (H : Heap) (locs : List Loc) (ls : Array Slot) (hP : va_P D kcl (kw a c9 σ) H) (hD : va_D A (kw a c9 σ)) (hS : va_S A s.heap H locs) (hl : lv_has ls 2 [(0, .ref (a 6)), (1, .int x1)]) (h : M_Md_count σ x1 = some (r9, σo)) : W p l e rm_Md_count s m args below meth c H locs 0 0 (MQ below (k_Qi D a c9 r9 σo A) args s 0 0 A) (F0 m 0 ls []) := by
  obtain ⟨hx, hb, hml, hown, hts, hr, hlk, hK, hN, hA⟩ := id C0
  unfold M_Md_count at h
  refine lv_aload_n hx hb d_Md_count_0 rfl (lv_at hl 0 rfl) ?_
  refine lv_iconst (v := 0) hx hb d_Md_count_1 (by decide) ?_
  obtain ⟨σ1, eσ1, h⟩ := k_set_e h
  refine va_put (ci := 1) (v := .int 0) (ty := .int) (C := R_Md) (T := T_Md) (N := 44) hx hb hts in_Md t_Md t_Md_ok n_Md hown hK hP hD hS 6 kw_6 rfl 0 (by decide) (hts _ q_713) (fun _ h9 => h9) rfl (by decide +kernel) rfl rfl (Nat.le_of_ble_eq_true rfl) d_Md_count_2 (fun H locs hP hD hS => ?_)
  replace hP := k_mvP (kw_f6_0.trans (congrArg _ eσ1.symm)) hP
  replace hD := k_mvD (kw_f6_0.trans (congrArg _ eσ1.symm)) hD
  refine lv_iload_n hx hb d_Md_count_5 rfl (lv_at hl 1 rfl) ?_
  refine lv_if_ne (tgt := 16) hx hb d_Md_count_6 (by decide) (fun cn2 => ?_) (fun cn2 => ?_)
  · replace h := (if_neg cn2).symm.trans h
    refine lv_iload_n hx hb d_Md_count_16 rfl (lv_at hl 1 rfl) ?_
    refine lv_iconst (v := 1) hx hb d_Md_count_17 (by decide) ?_
    refine lv_icmp_ne (tgt := 28) hx hb d_Md_count_18 (by decide) (fun cn3 => ?_) (fun cn3 => ?_)
    · replace h := (if_neg cn3).symm.trans h
      refine lv_iload_n hx hb d_Md_count_28 rfl (lv_at hl 1 rfl) ?_
      refine lv_iconst (v := 2) hx hb d_Md_count_29 (by decide) ?_
      refine lv_icmp_ne (tgt := 40) hx hb d_Md_count_30 (by decide) (fun cn4 => ?_) (fun cn4 => ?_)
      · replace h := (if_neg cn4).symm.trans h
        refine lv_iconst (v := (-1)) hx hb d_Md_count_40 (by decide) ?_
        cases h
        exact k_iret hx hb hr hlk hP hS d_Md_count_41
      · replace h := (if_pos cn4).symm.trans h
        refine lv_aload_n hx hb d_Md_count_33 rfl (lv_at hl 0 rfl) ?_
        refine va_get (ci := 1) (C := R_Md) (T := T_Md) (N := 44) hx hb hts in_Md hown hK hP 6 kw_6 rfl 18 (by decide) (hts _ q_731) (fun _ h9 => h9) rfl d_Md_count_34 ?_
        refine lv_goto (tgt := 41) hx hb d_Md_count_37 (by decide) ?_
        cases h
        exact k_iret hx hb hr hlk hP hS d_Md_count_41
    · replace h := (if_pos cn3).symm.trans h
      refine lv_aload_n hx hb d_Md_count_21 rfl (lv_at hl 0 rfl) ?_
      refine va_get (ci := 1) (C := R_Md) (T := T_Md) (N := 44) hx hb hts in_Md hown hK hP 6 kw_6 rfl 14 (by decide) (hts _ q_727) (fun _ h9 => h9) rfl d_Md_count_22 ?_
      refine lv_goto (tgt := 41) hx hb d_Md_count_25 (by decide) ?_
      cases h
      exact k_iret hx hb hr hlk hP hS d_Md_count_41
  · replace h := (if_pos cn2).symm.trans h
    refine lv_aload_n hx hb d_Md_count_9 rfl (lv_at hl 0 rfl) ?_
    refine va_get (ci := 1) (C := R_Md) (T := T_Md) (N := 44) hx hb hts in_Md hown hK hP 6 kw_6 rfl 1 (by decide) (hts _ q_714) (fun _ h9 => h9) rfl d_Md_count_10 ?_
    refine lv_goto (tgt := 41) hx hb d_Md_count_13 (by decide) ?_
    cases h
    exact k_iret hx hb hr hlk hP hS d_Md_count_41
theorem K_Md_count (l : Launch) (D : va_G) (a : Nat → Nat) (c9 : Nat → ClassId) (sz : Nat) {σ : kS} {x1 : Int32} {r9 : Int32} {σo : kS} (h : M_Md_count σ x1 = some (r9, σo)) : Met l y_Md_count (Cond.code y_Md_count c_Md_count 2 (some .int) :: kG) rm_Md_count (k_Pc D a c9 sz σ [.ref (a 6), .int x1]) (k_Qi D a c9 r9 σo (k_A a c9 σ sz)) 0 0 (k_A a c9 σ sz) :=
  k_met (Qf := k_Qi D a c9 r9 σo) (by decide) (Nat.le_of_ble_eq_true rfl) (fun p e s m args below meth c A ls C0 hP hD hS hl => B_Md_count_0 C0 σ x1 s.heap [] ls hP hD hS hl h)

