/-! mirrors and contracts, by program (wip/whole/run.py) -/
def rm_Md_compare : Room := { frames := 0, cells := 0, slots := 0, locals := 0 }
def M_Md_compare_176 (rec23 : kS → Int32 → Int32 → Int32 → Option (Int32 × kS)) (σ : kS) (x1 x2 x3 x4 x5 x6 : Int32) : Option (Int32 × kS) := k_ld (σ.2.1 29) 240 (x4) fun v1 => if x6 = v1 then (k_let (x3 + (-1)) fun v10 => rec23 σ x1 x2 v10) else (k_st σ 56 64 (x3) ((x6 + 1)) fun σ3 => k_let (x3 + 1) fun v4 => k_ld (σ3.2.1 30) 2880 (((12 * x4) + x6)) fun v5 => k_st σ3 54 64 (v4) (v5) fun σ6 => k_ld (σ6.2.1 30) 2880 (((12 * x5) + x6)) fun v7 => k_st σ6 55 64 (v4) (v7) fun σ8 => k_st σ8 56 64 (v4) (0) fun σ9 => rec23 σ9 x1 x2 v4)
set_option maxHeartbeats 4000000 in
set_option maxRecDepth 100000 in
theorem B_Md_compare_176 {p : Program} {l : Launch} {e : Env} {s : State} {m : MethodId} {args : Array Value} {below : List Frame} {meth : Method} {c : Code} {D : va_G} {a : Nat → Nat} {c9 : Nat → ClassId} {A : Nat → Prop} {r9 : Int32} {σo : kS} (C0 : k_Cx D c9 p s m args meth c R_Md c_Md_compare 7 (some .int) A) {rec23 : kS → Int32 → Int32 → Int32 → Option (Int32 × kS)} (hrec23 : ∀ (σ : kS) (x1 x2 x3 : Int32) (H : Heap) (locs : List Loc) (ls : Array Slot), va_P D kcl (kw a c9 σ) H → va_D A (kw a c9 σ) → va_S A s.heap H locs → lv_has ls 7 [(0, .ref (a 6)), (1, .int x1), (2, .int x2), (3, .int x3)] → rec23 σ x1 x2 x3 = some (r9, σo) → W p l e rm_Md_compare s m args below meth c H locs 0 0 (MQ below (k_Qi D a c9 r9 σo A) args s 0 0 A) (F0 m 23 ls [])) (σ : kS) (x1 x2 x3 x4 x5 x6 : Int32) (H : Heap) (locs : List Loc) (ls : Array Slot) (hP : va_P D kcl (kw a c9 σ) H) (hD : va_D A (kw a c9 σ)) (hS : va_S A s.heap H locs) (hl : lv_has ls 7 [(0, .ref (a 6)), (1, .int x1), (2, .int x2), (3, .int x3), (4, .int x4), (5, .int x5), (6, .int x6)]) (h : M_Md_compare_176 rec23 σ x1 x2 x3 x4 x5 x6 = some (r9, σo)) : W p l e rm_Md_compare s m args below meth c H locs 0 0 (MQ below (k_Qi D a c9 r9 σo A) args s 0 0 A) (F0 m 176 ls []) := by
  obtain ⟨hx, hb, hml, hown, hts, hr, hlk, hK, hN, hA⟩ := id C0
  unfold M_Md_compare_176 at h
  refine lv_iload hx hb d_Md_compare_176 (lv_at hl 6 rfl) ?_
  refine lv_aload_n hx hb d_Md_compare_178 rfl (lv_at hl 0 rfl) ?_
  refine va_get (ci := 1) (C := R_Md) (T := T_Md) (N := 44) hx hb hts in_Md hown hK hP 6 kw_6 rfl 5 (by decide) (hts _ q_718) (fun _ h9 => h9) rfl d_Md_compare_179 ?_
  refine lv_iload hx hb d_Md_compare_182 (lv_at hl 4 rfl) ?_
  obtain ⟨v1, ev1, hv1, h⟩ := k_ld_e h
  refine va_iald hx hb hK hP 36 0 kw_36 rfl hv1 d_Md_compare_184 (k_top ev1 ?_)
  refine lv_icmp_ne (tgt := 194) hx hb d_Md_compare_185 (by decide) (fun cn2 => ?_) (fun cn2 => ?_)
  · replace h := (if_neg cn2).symm.trans h
    refine lv_aload_n hx hb d_Md_compare_194 rfl (lv_at hl 0 rfl) ?_
    refine va_get (ci := 1) (C := R_Md) (T := T_Md) (N := 44) hx hb hts in_Md hown hK hP 6 kw_6 rfl 42 (by decide) (hts _ q_755) (fun _ h9 => h9) rfl d_Md_compare_195 ?_
    refine lv_iload_n hx hb d_Md_compare_198 rfl (lv_at hl 3 rfl) ?_
    refine lv_iload hx hb d_Md_compare_199 (lv_at hl 6 rfl) ?_
    refine lv_iconst (v := 1) hx hb d_Md_compare_201 (by decide) ?_
    refine lv_iadd hx hb d_Md_compare_202 ?_
    obtain ⟨σ3, eσ3, hiσ3, h⟩ := k_st_e h
    refine va_iast hx hb hK hP hD hS 63 0 kw_63 rfl hiσ3 d_Md_compare_203 (fun H locs hP hD hS => ?_)
    replace hP := k_mvP (kw_s63.trans (congrArg _ eσ3.symm)) hP
    replace hD := k_mvD (kw_s63.trans (congrArg _ eσ3.symm)) hD
    obtain ⟨v4, ev4, h⟩ := k_let_e h
    refine lv_iinc (v := v4) (lv' := [(3, .int v4), (0, .ref (a 6)), (1, .int x1), (2, .int x2), (4, .int x4), (5, .int x5), (6, .int x6)]) hx hb d_Md_compare_204 hl (k := 3) rfl (by rw [ev4]; rfl) (by decide) rfl (fun ls hl => ?_)
    refine lv_aload_n hx hb d_Md_compare_207 rfl (lv_at hl 1 rfl) ?_
    refine va_get (ci := 1) (C := R_Md) (T := T_Md) (N := 44) hx hb hts in_Md hown hK hP 6 kw_6 rfl 40 (by decide) (hts _ q_753) (fun _ h9 => h9) rfl d_Md_compare_208 ?_
    refine lv_iload_n hx hb d_Md_compare_211 rfl (lv_at hl 0 rfl) ?_
    refine lv_aload_n hx hb d_Md_compare_212 rfl (lv_at hl 1 rfl) ?_
    refine va_get (ci := 1) (C := R_Md) (T := T_Md) (N := 44) hx hb hts in_Md hown hK hP 6 kw_6 rfl 6 (by decide) (hts _ q_719) (fun _ h9 => h9) rfl d_Md_compare_213 ?_
    refine lv_bipush (v := 12) hx hb d_Md_compare_216 (by decide) ?_
    refine lv_iload hx hb d_Md_compare_218 (lv_at hl 4 rfl) ?_
    refine lv_imul hx hb d_Md_compare_220 ?_
    refine lv_iload hx hb d_Md_compare_221 (lv_at hl 6 rfl) ?_
    refine lv_iadd hx hb d_Md_compare_223 ?_
    obtain ⟨v5, ev5, hv5, h⟩ := k_ld_e h
    refine va_iald hx hb hK hP 37 0 kw_37 rfl hv5 d_Md_compare_224 (k_top ev5 ?_)
    obtain ⟨σ6, eσ6, hiσ6, h⟩ := k_st_e h
    refine va_iast hx hb hK hP hD hS 61 0 kw_61 rfl hiσ6 d_Md_compare_225 (fun H locs hP hD hS => ?_)
    replace hP := k_mvP (kw_s61.trans (congrArg _ eσ6.symm)) hP
    replace hD := k_mvD (kw_s61.trans (congrArg _ eσ6.symm)) hD
    refine lv_aload_n hx hb d_Md_compare_226 rfl (lv_at hl 1 rfl) ?_
    refine va_get (ci := 1) (C := R_Md) (T := T_Md) (N := 44) hx hb hts in_Md hown hK hP 6 kw_6 rfl 41 (by decide) (hts _ q_754) (fun _ h9 => h9) rfl d_Md_compare_227 ?_
    refine lv_iload_n hx hb d_Md_compare_230 rfl (lv_at hl 0 rfl) ?_
    refine lv_aload_n hx hb d_Md_compare_231 rfl (lv_at hl 1 rfl) ?_
    refine va_get (ci := 1) (C := R_Md) (T := T_Md) (N := 44) hx hb hts in_Md hown hK hP 6 kw_6 rfl 6 (by decide) (hts _ q_719) (fun _ h9 => h9) rfl d_Md_compare_232 ?_
    refine lv_bipush (v := 12) hx hb d_Md_compare_235 (by decide) ?_
    refine lv_iload hx hb d_Md_compare_237 (lv_at hl 5 rfl) ?_
    refine lv_imul hx hb d_Md_compare_239 ?_
    refine lv_iload hx hb d_Md_compare_240 (lv_at hl 6 rfl) ?_
    refine lv_iadd hx hb d_Md_compare_242 ?_
    obtain ⟨v7, ev7, hv7, h⟩ := k_ld_e h
    refine va_iald hx hb hK hP 37 0 kw_37 rfl hv7 d_Md_compare_243 (k_top ev7 ?_)
    obtain ⟨σ8, eσ8, hiσ8, h⟩ := k_st_e h
    refine va_iast hx hb hK hP hD hS 62 0 kw_62 rfl hiσ8 d_Md_compare_244 (fun H locs hP hD hS => ?_)
    replace hP := k_mvP (kw_s62.trans (congrArg _ eσ8.symm)) hP
    replace hD := k_mvD (kw_s62.trans (congrArg _ eσ8.symm)) hD
    refine lv_aload_n hx hb d_Md_compare_245 rfl (lv_at hl 1 rfl) ?_
    refine va_get (ci := 1) (C := R_Md) (T := T_Md) (N := 44) hx hb hts in_Md hown hK hP 6 kw_6 rfl 42 (by decide) (hts _ q_755) (fun _ h9 => h9) rfl d_Md_compare_246 ?_
    refine lv_iload_n hx hb d_Md_compare_249 rfl (lv_at hl 0 rfl) ?_
    refine lv_iconst (v := 0) hx hb d_Md_compare_250 (by decide) ?_
    obtain ⟨σ9, eσ9, hiσ9, h⟩ := k_st_e h
    refine va_iast hx hb hK hP hD hS 63 0 kw_63 rfl hiσ9 d_Md_compare_251 (fun H locs hP hD hS => ?_)
    replace hP := k_mvP (kw_s63.trans (congrArg _ eσ9.symm)) hP
    replace hD := k_mvD (kw_s63.trans (congrArg _ eσ9.symm)) hD
    refine lv_goto (tgt := 23) hx hb d_Md_compare_252 (by decide) ?_
    exact hrec23 _ _ _ _ H locs ls hP hD hS (lv_sub hl [1, 2, 3, 0] rfl) h
  · replace h := (if_pos cn2).symm.trans h
    obtain ⟨v10, ev10, h⟩ := k_let_e h
    refine lv_iinc (v := v10) (lv' := [(3, .int v10), (0, .ref (a 6)), (1, .int x1), (2, .int x2), (4, .int x4), (5, .int x5), (6, .int x6)]) hx hb d_Md_compare_188 hl (k := 3) rfl (by rw [ev10]; rfl) (by decide) rfl (fun ls hl => ?_)
    refine lv_goto (tgt := 252) hx hb d_Md_compare_191 (by decide) ?_
    refine lv_goto (tgt := 23) hx hb d_Md_compare_252 (by decide) ?_
    exact hrec23 _ _ _ _ H locs ls hP hD hS (lv_sub hl [1, 2, 3, 0] rfl) h
def M_Md_compare_23_b (self9 : kS → Int32 → Int32 → Int32 → Option (Int32 × kS)) (σ : kS) (x1 x2 x3 : Int32) : Option (Int32 × kS) := if x3 < 0 then (some (0, σ)) else (k_ld (σ.2.1 54) 64 (x3) fun v2 => k_ld (σ.2.1 55) 64 (x3) fun v3 => k_ld (σ.2.1 56) 64 (x3) fun v4 => if v4 = 0 then (k_ld (σ.2.1 26) 240 (v2) fun v6 => k_ld (σ.2.1 26) 240 (v3) fun v7 => if v6 = v7 then (k_ld (σ.2.1 27) 240 (v2) fun v9 => k_ld (σ.2.1 27) 240 (v3) fun v10 => if v9 = v10 then (k_ld (σ.2.1 29) 240 (v2) fun v12 => k_ld (σ.2.1 29) 240 (v3) fun v13 => if v12 = v13 then (M_Md_compare_176 self9 σ x1 x2 x3 v2 v3 v4) else (k_ld (σ.2.1 29) 240 (v2) fun v15 => k_ld (σ.2.1 29) 240 (v3) fun v16 => if v16 ≤ v15 then (some (1, σ)) else (some ((-1), σ)))) else (k_ld (σ.2.1 27) 240 (v2) fun v18 => k_ld (σ.2.1 27) 240 (v3) fun v19 => if v19 ≤ v18 then (some (1, σ)) else (some ((-1), σ)))) else (k_ld (σ.2.1 26) 240 (v2) fun v21 => k_ld (σ.2.1 26) 240 (v3) fun v22 => if v22 ≤ v21 then (some (1, σ)) else (some ((-1), σ)))) else (M_Md_compare_176 self9 σ x1 x2 x3 v2 v3 v4))
def M_Md_compare_23 : Nat → kS → Int32 → Int32 → Int32 → Option (Int32 × kS)
  | 0 => fun _ _ _ _ => none
  | n + 1 => M_Md_compare_23_b (M_Md_compare_23 n)
set_option maxHeartbeats 4000000 in
set_option maxRecDepth 100000 in
theorem B_Md_compare_23 {p : Program} {l : Launch} {e : Env} {s : State} {m : MethodId} {args : Array Value} {below : List Frame} {meth : Method} {c : Code} {D : va_G} {a : Nat → Nat} {c9 : Nat → ClassId} {A : Nat → Prop} {r9 : Int32} {σo : kS} (C0 : k_Cx D c9 p s m args meth c R_Md c_Md_compare 7 (some .int) A) : ∀ (n : Nat) (σ : kS) (x1 x2 x3 : Int32) (H : Heap) (locs : List Loc) (ls : Array Slot), va_P D kcl (kw a c9 σ) H → va_D A (kw a c9 σ) → va_S A s.heap H locs → lv_has ls 7 [(0, .ref (a 6)), (1, .int x1), (2, .int x2), (3, .int x3)] → M_Md_compare_23 n σ x1 x2 x3 = some (r9, σo) → W p l e rm_Md_compare s m args below meth c H locs 0 0 (MQ below (k_Qi D a c9 r9 σo A) args s 0 0 A) (F0 m 23 ls []) := by
  obtain ⟨hx, hb, hml, hown, hts, hr, hlk, hK, hN, hA⟩ := id C0
  intro n
  induction n with
  | zero =>
    intro σ x1 x2 x3 H locs ls hP hD hS hl h
    replace h : (none : Option (Int32 × kS)) = some (r9, σo) := h
    cases h
  | succ n ih =>
    intro σ x1 x2 x3 H locs ls hP hD hS hl h
    replace h : M_Md_compare_23_b (M_Md_compare_23 n) σ x1 x2 x3 = some (r9, σo) := h
    unfold M_Md_compare_23_b at h
    refine lv_iload_n hx hb d_Md_compare_23 rfl (lv_at hl 3 rfl) ?_
    refine lv_if_lt (tgt := 255) hx hb d_Md_compare_24 (by decide) (fun cn1 => ?_) (fun cn1 => ?_)
    · replace h := (if_pos cn1).symm.trans h
      refine lv_iconst (v := 0) hx hb d_Md_compare_255 (by decide) ?_
      cases h
      exact k_iret hx hb hr hlk hP hS d_Md_compare_256
    · replace h := (if_neg cn1).symm.trans h
      refine lv_aload_n hx hb d_Md_compare_27 rfl (lv_at hl 0 rfl) ?_
      refine va_get (ci := 1) (C := R_Md) (T := T_Md) (N := 44) hx hb hts in_Md hown hK hP 6 kw_6 rfl 40 (by decide) (hts _ q_753) (fun _ h9 => h9) rfl d_Md_compare_28 ?_
      refine lv_iload_n hx hb d_Md_compare_31 rfl (lv_at hl 3 rfl) ?_
      obtain ⟨v2, ev2, hv2, h⟩ := k_ld_e h
      refine va_iald hx hb hK hP 61 0 kw_61 rfl hv2 d_Md_compare_32 (k_top ev2 ?_)
      refine lv_istore (lv' := [(4, .int v2), (0, .ref (a 6)), (1, .int x1), (2, .int x2), (3, .int x3)]) hx hb d_Md_compare_33 hl (by decide) rfl (fun ls hl => ?_)
      refine lv_aload_n hx hb d_Md_compare_35 rfl (lv_at hl 1 rfl) ?_
      refine va_get (ci := 1) (C := R_Md) (T := T_Md) (N := 44) hx hb hts in_Md hown hK hP 6 kw_6 rfl 41 (by decide) (hts _ q_754) (fun _ h9 => h9) rfl d_Md_compare_36 ?_
      refine lv_iload_n hx hb d_Md_compare_39 rfl (lv_at hl 4 rfl) ?_
      obtain ⟨v3, ev3, hv3, h⟩ := k_ld_e h
      refine va_iald hx hb hK hP 62 0 kw_62 rfl hv3 d_Md_compare_40 (k_top ev3 ?_)
      refine lv_istore (lv' := [(5, .int v3), (4, .int v2), (0, .ref (a 6)), (1, .int x1), (2, .int x2), (3, .int x3)]) hx hb d_Md_compare_41 hl (by decide) rfl (fun ls hl => ?_)
      refine lv_aload_n hx hb d_Md_compare_43 rfl (lv_at hl 2 rfl) ?_
      refine va_get (ci := 1) (C := R_Md) (T := T_Md) (N := 44) hx hb hts in_Md hown hK hP 6 kw_6 rfl 42 (by decide) (hts _ q_755) (fun _ h9 => h9) rfl d_Md_compare_44 ?_
      refine lv_iload_n hx hb d_Md_compare_47 rfl (lv_at hl 5 rfl) ?_
      obtain ⟨v4, ev4, hv4, h⟩ := k_ld_e h
      refine va_iald hx hb hK hP 63 0 kw_63 rfl hv4 d_Md_compare_48 (k_top ev4 ?_)
      refine lv_istore (lv' := [(6, .int v4), (5, .int v3), (4, .int v2), (0, .ref (a 6)), (1, .int x1), (2, .int x2), (3, .int x3)]) hx hb d_Md_compare_49 hl (by decide) rfl (fun ls hl => ?_)
      refine lv_iload hx hb d_Md_compare_51 (lv_at hl 0 rfl) ?_
      refine lv_if_ne (tgt := 176) hx hb d_Md_compare_53 (by decide) (fun cn5 => ?_) (fun cn5 => ?_)
      · replace h := (if_neg cn5).symm.trans h
        exact B_Md_compare_176 C0 ih _ _ _ _ _ _ _ H locs ls hP hD hS (lv_sub hl [3, 4, 5, 6, 2, 1, 0] rfl) h
      · replace h := (if_pos cn5).symm.trans h
        refine lv_aload_n hx hb d_Md_compare_56 rfl (lv_at hl 3 rfl) ?_
        refine va_get (ci := 1) (C := R_Md) (T := T_Md) (N := 44) hx hb hts in_Md hown hK hP 6 kw_6 rfl 2 (by decide) (hts _ q_715) (fun _ h9 => h9) rfl d_Md_compare_57 ?_
        refine lv_iload hx hb d_Md_compare_60 (lv_at hl 2 rfl) ?_
        obtain ⟨v6, ev6, hv6, h⟩ := k_ld_e h
        refine va_iald hx hb hK hP 33 0 kw_33 rfl hv6 d_Md_compare_62 (k_top ev6 ?_)
        refine lv_aload_n hx hb d_Md_compare_63 rfl (lv_at hl 3 rfl) ?_
        refine va_get (ci := 1) (C := R_Md) (T := T_Md) (N := 44) hx hb hts in_Md hown hK hP 6 kw_6 rfl 2 (by decide) (hts _ q_715) (fun _ h9 => h9) rfl d_Md_compare_64 ?_
        refine lv_iload hx hb d_Md_compare_67 (lv_at hl 1 rfl) ?_
        obtain ⟨v7, ev7, hv7, h⟩ := k_ld_e h
        refine va_iald hx hb hK hP 33 0 kw_33 rfl hv7 d_Md_compare_69 (k_top ev7 ?_)
        refine lv_icmp_eq (tgt := 96) hx hb d_Md_compare_70 (by decide) (fun cn8 => ?_) (fun cn8 => ?_)
        · replace h := (if_pos cn8).symm.trans h
          refine lv_aload_n hx hb d_Md_compare_96 rfl (lv_at hl 3 rfl) ?_
          refine va_get (ci := 1) (C := R_Md) (T := T_Md) (N := 44) hx hb hts in_Md hown hK hP 6 kw_6 rfl 3 (by decide) (hts _ q_716) (fun _ h9 => h9) rfl d_Md_compare_97 ?_
          refine lv_iload hx hb d_Md_compare_100 (lv_at hl 2 rfl) ?_
          obtain ⟨v9, ev9, hv9, h⟩ := k_ld_e h
          refine va_iald hx hb hK hP 34 0 kw_34 rfl hv9 d_Md_compare_102 (k_top ev9 ?_)
          refine lv_aload_n hx hb d_Md_compare_103 rfl (lv_at hl 3 rfl) ?_
          refine va_get (ci := 1) (C := R_Md) (T := T_Md) (N := 44) hx hb hts in_Md hown hK hP 6 kw_6 rfl 3 (by decide) (hts _ q_716) (fun _ h9 => h9) rfl d_Md_compare_104 ?_
          refine lv_iload hx hb d_Md_compare_107 (lv_at hl 1 rfl) ?_
          obtain ⟨v10, ev10, hv10, h⟩ := k_ld_e h
          refine va_iald hx hb hK hP 34 0 kw_34 rfl hv10 d_Md_compare_109 (k_top ev10 ?_)
          refine lv_icmp_eq (tgt := 136) hx hb d_Md_compare_110 (by decide) (fun cn11 => ?_) (fun cn11 => ?_)
          · replace h := (if_pos cn11).symm.trans h
            refine lv_aload_n hx hb d_Md_compare_136 rfl (lv_at hl 3 rfl) ?_
            refine va_get (ci := 1) (C := R_Md) (T := T_Md) (N := 44) hx hb hts in_Md hown hK hP 6 kw_6 rfl 5 (by decide) (hts _ q_718) (fun _ h9 => h9) rfl d_Md_compare_137 ?_
            refine lv_iload hx hb d_Md_compare_140 (lv_at hl 2 rfl) ?_
            obtain ⟨v12, ev12, hv12, h⟩ := k_ld_e h
            refine va_iald hx hb hK hP 36 0 kw_36 rfl hv12 d_Md_compare_142 (k_top ev12 ?_)
            refine lv_aload_n hx hb d_Md_compare_143 rfl (lv_at hl 3 rfl) ?_
            refine va_get (ci := 1) (C := R_Md) (T := T_Md) (N := 44) hx hb hts in_Md hown hK hP 6 kw_6 rfl 5 (by decide) (hts _ q_718) (fun _ h9 => h9) rfl d_Md_compare_144 ?_
            refine lv_iload hx hb d_Md_compare_147 (lv_at hl 1 rfl) ?_
            obtain ⟨v13, ev13, hv13, h⟩ := k_ld_e h
            refine va_iald hx hb hK hP 36 0 kw_36 rfl hv13 d_Md_compare_149 (k_top ev13 ?_)
            refine lv_icmp_eq (tgt := 176) hx hb d_Md_compare_150 (by decide) (fun cn14 => ?_) (fun cn14 => ?_)
            · replace h := (if_pos cn14).symm.trans h
              exact B_Md_compare_176 C0 ih _ _ _ _ _ _ _ H locs ls hP hD hS (lv_sub hl [3, 4, 5, 6, 2, 1, 0] rfl) h
            · replace h := (if_neg cn14).symm.trans h
              refine lv_aload_n hx hb d_Md_compare_153 rfl (lv_at hl 3 rfl) ?_
              refine va_get (ci := 1) (C := R_Md) (T := T_Md) (N := 44) hx hb hts in_Md hown hK hP 6 kw_6 rfl 5 (by decide) (hts _ q_718) (fun _ h9 => h9) rfl d_Md_compare_154 ?_
              refine lv_iload hx hb d_Md_compare_157 (lv_at hl 2 rfl) ?_
              obtain ⟨v15, ev15, hv15, h⟩ := k_ld_e h
              refine va_iald hx hb hK hP 36 0 kw_36 rfl hv15 d_Md_compare_159 (k_top ev15 ?_)
              refine lv_aload_n hx hb d_Md_compare_160 rfl (lv_at hl 3 rfl) ?_
              refine va_get (ci := 1) (C := R_Md) (T := T_Md) (N := 44) hx hb hts in_Md hown hK hP 6 kw_6 rfl 5 (by decide) (hts _ q_718) (fun _ h9 => h9) rfl d_Md_compare_161 ?_
              refine lv_iload hx hb d_Md_compare_164 (lv_at hl 1 rfl) ?_
              obtain ⟨v16, ev16, hv16, h⟩ := k_ld_e h
              refine va_iald hx hb hK hP 36 0 kw_36 rfl hv16 d_Md_compare_166 (k_top ev16 ?_)
              refine lv_icmp_ge (tgt := 174) hx hb d_Md_compare_167 (by decide) (fun cn17 => ?_) (fun cn17 => ?_)
              · replace h := (if_pos cn17).symm.trans h
                refine lv_iconst (v := 1) hx hb d_Md_compare_174 (by decide) ?_
                cases h
                exact k_iret hx hb hr hlk hP hS d_Md_compare_175
              · replace h := (if_neg cn17).symm.trans h
                refine lv_iconst (v := (-1)) hx hb d_Md_compare_170 (by decide) ?_
                refine lv_goto (tgt := 175) hx hb d_Md_compare_171 (by decide) ?_
                cases h
                exact k_iret hx hb hr hlk hP hS d_Md_compare_175
          · replace h := (if_neg cn11).symm.trans h
            refine lv_aload_n hx hb d_Md_compare_113 rfl (lv_at hl 3 rfl) ?_
            refine va_get (ci := 1) (C := R_Md) (T := T_Md) (N := 44) hx hb hts in_Md hown hK hP 6 kw_6 rfl 3 (by decide) (hts _ q_716) (fun _ h9 => h9) rfl d_Md_compare_114 ?_
            refine lv_iload hx hb d_Md_compare_117 (lv_at hl 2 rfl) ?_
            obtain ⟨v18, ev18, hv18, h⟩ := k_ld_e h
            refine va_iald hx hb hK hP 34 0 kw_34 rfl hv18 d_Md_compare_119 (k_top ev18 ?_)
            refine lv_aload_n hx hb d_Md_compare_120 rfl (lv_at hl 3 rfl) ?_
            refine va_get (ci := 1) (C := R_Md) (T := T_Md) (N := 44) hx hb hts in_Md hown hK hP 6 kw_6 rfl 3 (by decide) (hts _ q_716) (fun _ h9 => h9) rfl d_Md_compare_121 ?_
            refine lv_iload hx hb d_Md_compare_124 (lv_at hl 1 rfl) ?_
            obtain ⟨v19, ev19, hv19, h⟩ := k_ld_e h
            refine va_iald hx hb hK hP 34 0 kw_34 rfl hv19 d_Md_compare_126 (k_top ev19 ?_)
            refine lv_icmp_ge (tgt := 134) hx hb d_Md_compare_127 (by decide) (fun cn20 => ?_) (fun cn20 => ?_)
            · replace h := (if_pos cn20).symm.trans h
              refine lv_iconst (v := 1) hx hb d_Md_compare_134 (by decide) ?_
              cases h
              exact k_iret hx hb hr hlk hP hS d_Md_compare_135
            · replace h := (if_neg cn20).symm.trans h
              refine lv_iconst (v := (-1)) hx hb d_Md_compare_130 (by decide) ?_
              refine lv_goto (tgt := 135) hx hb d_Md_compare_131 (by decide) ?_
              cases h
              exact k_iret hx hb hr hlk hP hS d_Md_compare_135
        · replace h := (if_neg cn8).symm.trans h
          refine lv_aload_n hx hb d_Md_compare_73 rfl (lv_at hl 3 rfl) ?_
          refine va_get (ci := 1) (C := R_Md) (T := T_Md) (N := 44) hx hb hts in_Md hown hK hP 6 kw_6 rfl 2 (by decide) (hts _ q_715) (fun _ h9 => h9) rfl d_Md_compare_74 ?_
          refine lv_iload hx hb d_Md_compare_77 (lv_at hl 2 rfl) ?_
          obtain ⟨v21, ev21, hv21, h⟩ := k_ld_e h
          refine va_iald hx hb hK hP 33 0 kw_33 rfl hv21 d_Md_compare_79 (k_top ev21 ?_)
          refine lv_aload_n hx hb d_Md_compare_80 rfl (lv_at hl 3 rfl) ?_
          refine va_get (ci := 1) (C := R_Md) (T := T_Md) (N := 44) hx hb hts in_Md hown hK hP 6 kw_6 rfl 2 (by decide) (hts _ q_715) (fun _ h9 => h9) rfl d_Md_compare_81 ?_
          refine lv_iload hx hb d_Md_compare_84 (lv_at hl 1 rfl) ?_
          obtain ⟨v22, ev22, hv22, h⟩ := k_ld_e h
          refine va_iald hx hb hK hP 33 0 kw_33 rfl hv22 d_Md_compare_86 (k_top ev22 ?_)
          refine lv_icmp_ge (tgt := 94) hx hb d_Md_compare_87 (by decide) (fun cn23 => ?_) (fun cn23 => ?_)
          · replace h := (if_pos cn23).symm.trans h
            refine lv_iconst (v := 1) hx hb d_Md_compare_94 (by decide) ?_
            cases h
            exact k_iret hx hb hr hlk hP hS d_Md_compare_95
          · replace h := (if_neg cn23).symm.trans h
            refine lv_iconst (v := (-1)) hx hb d_Md_compare_90 (by decide) ?_
            refine lv_goto (tgt := 95) hx hb d_Md_compare_91 (by decide) ?_
            cases h
            exact k_iret hx hb hr hlk hP hS d_Md_compare_95
def M_Md_compare (σ : kS) (x1 x2 : Int32) : Option (Int32 × kS) := k_st σ 54 64 (0) (x1) fun σ1 => k_st σ1 55 64 (0) (x2) fun σ2 => k_st σ2 56 64 (0) (0) fun σ3 => M_Md_compare_23 k_fu σ3 x1 x2 0
set_option maxHeartbeats 4000000 in
set_option maxRecDepth 100000 in
theorem B_Md_compare_0 {p : Program} {l : Launch} {e : Env} {s : State} {m : MethodId} {args : Array Value} {below : List Frame} {meth : Method} {c : Code} {D : va_G} {a : Nat → Nat} {c9 : Nat → ClassId} {A : Nat → Prop} {r9 : Int32} {σo : kS} (C0 : k_Cx D c9 p s m args meth c R_Md c_Md_compare 7 (some .int) A) (σ : kS) (x1 x2 : Int32) (H : Heap) (locs : List Loc) (ls : Array Slot) (hP : va_P D kcl (kw a c9 σ) H) (hD : va_D A (kw a c9 σ)) (hS : va_S A s.heap H locs) (hl : lv_has ls 7 [(0, .ref (a 6)), (1, .int x1), (2, .int x2)]) (h : M_Md_compare σ x1 x2 = some (r9, σo)) : W p l e rm_Md_compare s m args below meth c H locs 0 0 (MQ below (k_Qi D a c9 r9 σo A) args s 0 0 A) (F0 m 0 ls []) := by
  obtain ⟨hx, hb, hml, hown, hts, hr, hlk, hK, hN, hA⟩ := id C0
  unfold M_Md_compare at h
  refine lv_iconst (v := 0) hx hb d_Md_compare_0 (by decide) ?_
  refine lv_istore_n (lv' := [(3, .int 0), (0, .ref (a 6)), (1, .int x1), (2, .int x2)]) hx hb d_Md_compare_1 rfl hl (by decide) rfl (fun ls hl => ?_)
  refine lv_aload_n hx hb d_Md_compare_2 rfl (lv_at hl 1 rfl) ?_
  refine va_get (ci := 1) (C := R_Md) (T := T_Md) (N := 44) hx hb hts in_Md hown hK hP 6 kw_6 rfl 40 (by decide) (hts _ q_753) (fun _ h9 => h9) rfl d_Md_compare_3 ?_
  refine lv_iconst (v := 0) hx hb d_Md_compare_6 (by decide) ?_
  refine lv_iload_n hx hb d_Md_compare_7 rfl (lv_at hl 2 rfl) ?_
  obtain ⟨σ1, eσ1, hiσ1, h⟩ := k_st_e h
  refine va_iast hx hb hK hP hD hS 61 0 kw_61 rfl hiσ1 d_Md_compare_8 (fun H locs hP hD hS => ?_)
  replace hP := k_mvP (kw_s61.trans (congrArg _ eσ1.symm)) hP
  replace hD := k_mvD (kw_s61.trans (congrArg _ eσ1.symm)) hD
  refine lv_aload_n hx hb d_Md_compare_9 rfl (lv_at hl 1 rfl) ?_
  refine va_get (ci := 1) (C := R_Md) (T := T_Md) (N := 44) hx hb hts in_Md hown hK hP 6 kw_6 rfl 41 (by decide) (hts _ q_754) (fun _ h9 => h9) rfl d_Md_compare_10 ?_
  refine lv_iconst (v := 0) hx hb d_Md_compare_13 (by decide) ?_
  refine lv_iload_n hx hb d_Md_compare_14 rfl (lv_at hl 3 rfl) ?_
  obtain ⟨σ2, eσ2, hiσ2, h⟩ := k_st_e h
  refine va_iast hx hb hK hP hD hS 62 0 kw_62 rfl hiσ2 d_Md_compare_15 (fun H locs hP hD hS => ?_)
  replace hP := k_mvP (kw_s62.trans (congrArg _ eσ2.symm)) hP
  replace hD := k_mvD (kw_s62.trans (congrArg _ eσ2.symm)) hD
  refine lv_aload_n hx hb d_Md_compare_16 rfl (lv_at hl 1 rfl) ?_
  refine va_get (ci := 1) (C := R_Md) (T := T_Md) (N := 44) hx hb hts in_Md hown hK hP 6 kw_6 rfl 42 (by decide) (hts _ q_755) (fun _ h9 => h9) rfl d_Md_compare_17 ?_
  refine lv_iconst (v := 0) hx hb d_Md_compare_20 (by decide) ?_
  refine lv_iconst (v := 0) hx hb d_Md_compare_21 (by decide) ?_
  obtain ⟨σ3, eσ3, hiσ3, h⟩ := k_st_e h
  refine va_iast hx hb hK hP hD hS 63 0 kw_63 rfl hiσ3 d_Md_compare_22 (fun H locs hP hD hS => ?_)
  replace hP := k_mvP (kw_s63.trans (congrArg _ eσ3.symm)) hP
  replace hD := k_mvD (kw_s63.trans (congrArg _ eσ3.symm)) hD
  exact B_Md_compare_23 C0 k_fu _ _ _ _ H locs ls hP hD hS (lv_sub hl [1, 2, 3, 0] rfl) h
theorem K_Md_compare (l : Launch) (D : va_G) (a : Nat → Nat) (c9 : Nat → ClassId) (sz : Nat) {σ : kS} {x1 x2 : Int32} {r9 : Int32} {σo : kS} (h : M_Md_compare σ x1 x2 = some (r9, σo)) : Met l y_Md_compare (Cond.code y_Md_compare c_Md_compare 7 (some .int) :: kG) rm_Md_compare (k_Pc D a c9 sz σ [.ref (a 6), .int x1, .int x2]) (k_Qi D a c9 r9 σo (k_A a c9 σ sz)) 0 0 (k_A a c9 σ sz) :=
  k_met (Qf := k_Qi D a c9 r9 σo) (by decide) (Nat.le_of_ble_eq_true rfl) (fun p e s m args below meth c A ls C0 hP hD hS hl => B_Md_compare_0 C0 σ x1 x2 s.heap [] ls hP hD hS hl h)
def rm_Md_anyOrder : Room := { frames := 0, cells := 0, slots := 0, locals := 0 }
def M_Md_anyOrder (σ : kS) (x0 : Int32) : Option (Int32 × kS) := if x0 ≤ 4 then (some (0, σ)) else (some (1, σ))
set_option maxHeartbeats 4000000 in
set_option maxRecDepth 100000 in
theorem B_Md_anyOrder_0 {p : Program} {l : Launch} {e : Env} {s : State} {m : MethodId} {args : Array Value} {below : List Frame} {meth : Method} {c : Code} {D : va_G} {a : Nat → Nat} {c9 : Nat → ClassId} {A : Nat → Prop} {r9 : Int32} {σo : kS} (C0 : k_Cx D c9 p s m args meth c R_Md c_Md_anyOrder 1 (some .boolean) A) (σ : kS) (x0 : Int32) (H : Heap) (locs : List Loc) (ls : Array Slot) (hP : va_P D kcl (kw a c9 σ) H) (hD : va_D A (kw a c9 σ)) (hS : va_S A s.heap H locs) (hl : lv_has ls 1 [(0, .int x0)]) (h : M_Md_anyOrder σ x0 = some (r9, σo)) : W p l e rm_Md_anyOrder s m args below meth c H locs 0 0 (MQ below (k_Qi D a c9 r9 σo A) args s 0 0 A) (F0 m 0 ls []) := by
  obtain ⟨hx, hb, hml, hown, hts, hr, hlk, hK, hN, hA⟩ := id C0
  unfold M_Md_anyOrder at h
  refine lv_iload_n hx hb d_Md_anyOrder_0 rfl (lv_at hl 0 rfl) ?_
  refine lv_iconst (v := 4) hx hb d_Md_anyOrder_1 (by decide) ?_
  refine lv_icmp_le (tgt := 9) hx hb d_Md_anyOrder_2 (by decide) (fun cn1 => ?_) (fun cn1 => ?_)
  · replace h := (if_pos cn1).symm.trans h
    refine lv_iconst (v := 0) hx hb d_Md_anyOrder_9 (by decide) ?_
    cases h
    exact k_zret (Or.inl rfl) hx hb hr hlk hP hS d_Md_anyOrder_10
  · replace h := (if_neg cn1).symm.trans h
    refine lv_iconst (v := 1) hx hb d_Md_anyOrder_5 (by decide) ?_
    refine lv_goto (tgt := 10) hx hb d_Md_anyOrder_6 (by decide) ?_
    cases h
    exact k_zret (Or.inr rfl) hx hb hr hlk hP hS d_Md_anyOrder_10
theorem K_Md_anyOrder (l : Launch) (D : va_G) (a : Nat → Nat) (c9 : Nat → ClassId) (sz : Nat) {σ : kS} {x0 : Int32} {r9 : Int32} {σo : kS} (h : M_Md_anyOrder σ x0 = some (r9, σo)) : Met l y_Md_anyOrder (Cond.code y_Md_anyOrder c_Md_anyOrder 1 (some .boolean) :: kG) rm_Md_anyOrder (k_Pc D a c9 sz σ [.int x0]) (k_Qi D a c9 r9 σo (k_A a c9 σ sz)) 0 0 (k_A a c9 σ sz) :=
  k_met (Qf := k_Qi D a c9 r9 σo) (by decide) (Nat.le_of_ble_eq_true rfl) (fun p e s m args below meth c A ls C0 hP hD hS hl => B_Md_anyOrder_0 C0 σ x0 s.heap [] ls hP hD hS hl h)
def rm_Md_severals : Room := { frames := 0, cells := 0, slots := 0, locals := 0 }
def M_Md_severals (σ : kS) (x1 : Int32) : Option (Int32 × kS) := k_ld (σ.2.1 26) 240 (x1) fun v1 => if v1 = 2 then (k_ld (σ.2.1 28) 240 (x1) fun v3 => if v3 ≤ 1 then (some (0, σ)) else (some (1, σ))) else (some (0, σ))
set_option maxHeartbeats 4000000 in
set_option maxRecDepth 100000 in
theorem B_Md_severals_0 {p : Program} {l : Launch} {e : Env} {s : State} {m : MethodId} {args : Array Value} {below : List Frame} {meth : Method} {c : Code} {D : va_G} {a : Nat → Nat} {c9 : Nat → ClassId} {A : Nat → Prop} {r9 : Int32} {σo : kS} (C0 : k_Cx D c9 p s m args meth c R_Md c_Md_severals 2 (some .boolean) A) (σ : kS) (x1 : Int32) (H : Heap) (locs : List Loc) (ls : Array Slot) (hP : va_P D kcl (kw a c9 σ) H) (hD : va_D A (kw a c9 σ)) (hS : va_S A s.heap H locs) (hl : lv_has ls 2 [(0, .ref (a 6)), (1, .int x1)]) (h : M_Md_severals σ x1 = some (r9, σo)) : W p l e rm_Md_severals s m args below meth c H locs 0 0 (MQ below (k_Qi D a c9 r9 σo A) args s 0 0 A) (F0 m 0 ls []) := by
  obtain ⟨hx, hb, hml, hown, hts, hr, hlk, hK, hN, hA⟩ := id C0
  unfold M_Md_severals at h
  refine lv_aload_n hx hb d_Md_severals_0 rfl (lv_at hl 0 rfl) ?_
  refine va_get (ci := 1) (C := R_Md) (T := T_Md) (N := 44) hx hb hts in_Md hown hK hP 6 kw_6 rfl 2 (by decide) (hts _ q_715) (fun _ h9 => h9) rfl d_Md_severals_1 ?_
  refine lv_iload_n hx hb d_Md_severals_4 rfl (lv_at hl 1 rfl) ?_
  obtain ⟨v1, ev1, hv1, h⟩ := k_ld_e h
  refine va_iald hx hb hK hP 33 0 kw_33 rfl hv1 d_Md_severals_5 (k_top ev1 ?_)
  refine lv_iconst (v := 2) hx hb d_Md_severals_6 (by decide) ?_
  refine lv_icmp_ne (tgt := 24) hx hb d_Md_severals_7 (by decide) (fun cn2 => ?_) (fun cn2 => ?_)
  · replace h := (if_neg cn2).symm.trans h
    refine lv_iconst (v := 0) hx hb d_Md_severals_24 (by decide) ?_
    cases h
    exact k_zret (Or.inl rfl) hx hb hr hlk hP hS d_Md_severals_25
  · replace h := (if_pos cn2).symm.trans h
    refine lv_aload_n hx hb d_Md_severals_10 rfl (lv_at hl 0 rfl) ?_
    refine va_get (ci := 1) (C := R_Md) (T := T_Md) (N := 44) hx hb hts in_Md hown hK hP 6 kw_6 rfl 4 (by decide) (hts _ q_717) (fun _ h9 => h9) rfl d_Md_severals_11 ?_
    refine lv_iload_n hx hb d_Md_severals_14 rfl (lv_at hl 1 rfl) ?_
    obtain ⟨v3, ev3, hv3, h⟩ := k_ld_e h
    refine va_iald hx hb hK hP 35 0 kw_35 rfl hv3 d_Md_severals_15 (k_top ev3 ?_)
    refine lv_iconst (v := 1) hx hb d_Md_severals_16 (by decide) ?_
    refine lv_icmp_le (tgt := 24) hx hb d_Md_severals_17 (by decide) (fun cn4 => ?_) (fun cn4 => ?_)
    · replace h := (if_pos cn4).symm.trans h
      refine lv_iconst (v := 0) hx hb d_Md_severals_24 (by decide) ?_
      cases h
      exact k_zret (Or.inl rfl) hx hb hr hlk hP hS d_Md_severals_25
    · replace h := (if_neg cn4).symm.trans h
      refine lv_iconst (v := 1) hx hb d_Md_severals_20 (by decide) ?_
      refine lv_goto (tgt := 25) hx hb d_Md_severals_21 (by decide) ?_
      cases h
      exact k_zret (Or.inr rfl) hx hb hr hlk hP hS d_Md_severals_25
theorem K_Md_severals (l : Launch) (D : va_G) (a : Nat → Nat) (c9 : Nat → ClassId) (sz : Nat) {σ : kS} {x1 : Int32} {r9 : Int32} {σo : kS} (h : M_Md_severals σ x1 = some (r9, σo)) : Met l y_Md_severals (Cond.code y_Md_severals c_Md_severals 2 (some .boolean) :: kG) rm_Md_severals (k_Pc D a c9 sz σ [.ref (a 6), .int x1]) (k_Qi D a c9 r9 σo (k_A a c9 σ sz)) 0 0 (k_A a c9 σ sz) :=
  k_met (Qf := k_Qi D a c9 r9 σo) (by decide) (Nat.le_of_ble_eq_true rfl) (fun p e s m args below meth c A ls C0 hP hD hS hl => B_Md_severals_0 C0 σ x1 s.heap [] ls hP hD hS hl h)
def rm_Md_bits : Room := { frames := 0, cells := 0, slots := 0, locals := 0 }
def M_Md_bits_4_b (self9 : kS → Int32 → Int32 → Int32 → Option (Int32 × kS)) (σ : kS) (x0 x1 x2 : Int32) : Option (Int32 × kS) := if 12 ≤ x2 then (some (x1, σ)) else (k_let ((x1 + ((x0 >>> (x2 &&& 31)) &&& 1))) fun v2 => k_let (x2 + 1) fun v3 => self9 σ x0 v2 v3)
def M_Md_bits_4 : Nat → kS → Int32 → Int32 → Int32 → Option (Int32 × kS)
  | 0 => fun _ _ _ _ => none
  | n + 1 => M_Md_bits_4_b (M_Md_bits_4 n)
set_option maxHeartbeats 4000000 in
set_option maxRecDepth 100000 in
theorem B_Md_bits_4 {p : Program} {l : Launch} {e : Env} {s : State} {m : MethodId} {args : Array Value} {below : List Frame} {meth : Method} {c : Code} {D : va_G} {a : Nat → Nat} {c9 : Nat → ClassId} {A : Nat → Prop} {r9 : Int32} {σo : kS} (C0 : k_Cx D c9 p s m args meth c R_Md c_Md_bits 3 (some .int) A) : ∀ (n : Nat) (σ : kS) (x0 x1 x2 : Int32) (H : Heap) (locs : List Loc) (ls : Array Slot), va_P D kcl (kw a c9 σ) H → va_D A (kw a c9 σ) → va_S A s.heap H locs → lv_has ls 3 [(0, .int x0), (1, .int x1), (2, .int x2)] → M_Md_bits_4 n σ x0 x1 x2 = some (r9, σo) → W p l e rm_Md_bits s m args below meth c H locs 0 0 (MQ below (k_Qi D a c9 r9 σo A) args s 0 0 A) (F0 m 4 ls []) := by
  obtain ⟨hx, hb, hml, hown, hts, hr, hlk, hK, hN, hA⟩ := id C0
  intro n
  induction n with
  | zero =>
    intro σ x0 x1 x2 H locs ls hP hD hS hl h
    replace h : (none : Option (Int32 × kS)) = some (r9, σo) := h
    cases h
  | succ n ih =>
    intro σ x0 x1 x2 H locs ls hP hD hS hl h
    replace h : M_Md_bits_4_b (M_Md_bits_4 n) σ x0 x1 x2 = some (r9, σo) := h
    unfold M_Md_bits_4_b at h
    refine lv_iload_n hx hb d_Md_bits_4 rfl (lv_at hl 2 rfl) ?_
    refine lv_bipush (v := 12) hx hb d_Md_bits_5 (by decide) ?_
    refine lv_icmp_ge (tgt := 24) hx hb d_Md_bits_7 (by decide) (fun cn1 => ?_) (fun cn1 => ?_)
    · replace h := (if_pos cn1).symm.trans h
      refine lv_iload_n hx hb d_Md_bits_24 rfl (lv_at hl 1 rfl) ?_
      cases h
      exact k_iret hx hb hr hlk hP hS d_Md_bits_25
    · replace h := (if_neg cn1).symm.trans h
      refine lv_iload_n hx hb d_Md_bits_10 rfl (lv_at hl 1 rfl) ?_
      refine lv_iload_n hx hb d_Md_bits_11 rfl (lv_at hl 0 rfl) ?_
      refine lv_iload_n hx hb d_Md_bits_12 rfl (lv_at hl 2 rfl) ?_
      refine lv_ishr hx hb d_Md_bits_13 ?_
      refine lv_iconst (v := 1) hx hb d_Md_bits_14 (by decide) ?_
      refine lv_iand hx hb d_Md_bits_15 ?_
      refine lv_iadd hx hb d_Md_bits_16 ?_
      obtain ⟨v2, ev2, h⟩ := k_let_e h
      refine k_top ev2 ?_
      refine lv_istore_n (lv' := [(1, .int v2), (0, .int x0), (2, .int x2)]) hx hb d_Md_bits_17 rfl hl (by decide) rfl (fun ls hl => ?_)
      obtain ⟨v3, ev3, h⟩ := k_let_e h
      refine lv_iinc (v := v3) (lv' := [(2, .int v3), (1, .int v2), (0, .int x0)]) hx hb d_Md_bits_18 hl (k := 2) rfl (by rw [ev3]; rfl) (by decide) rfl (fun ls hl => ?_)
      refine lv_goto (tgt := 4) hx hb d_Md_bits_21 (by decide) ?_
      exact ih _ _ _ _ H locs ls hP hD hS (lv_sub hl [2, 1, 0] rfl) h
def M_Md_bits (σ : kS) (x0 : Int32) : Option (Int32 × kS) := M_Md_bits_4 k_fu σ x0 0 0
set_option maxHeartbeats 4000000 in
set_option maxRecDepth 100000 in
theorem B_Md_bits_0 {p : Program} {l : Launch} {e : Env} {s : State} {m : MethodId} {args : Array Value} {below : List Frame} {meth : Method} {c : Code} {D : va_G} {a : Nat → Nat} {c9 : Nat → ClassId} {A : Nat → Prop} {r9 : Int32} {σo : kS} (C0 : k_Cx D c9 p s m args meth c R_Md c_Md_bits 3 (some .int) A) (σ : kS) (x0 : Int32) (H : Heap) (locs : List Loc) (ls : Array Slot) (hP : va_P D kcl (kw a c9 σ) H) (hD : va_D A (kw a c9 σ)) (hS : va_S A s.heap H locs) (hl : lv_has ls 3 [(0, .int x0)]) (h : M_Md_bits σ x0 = some (r9, σo)) : W p l e rm_Md_bits s m args below meth c H locs 0 0 (MQ below (k_Qi D a c9 r9 σo A) args s 0 0 A) (F0 m 0 ls []) := by
  obtain ⟨hx, hb, hml, hown, hts, hr, hlk, hK, hN, hA⟩ := id C0
  unfold M_Md_bits at h
  refine lv_iconst (v := 0) hx hb d_Md_bits_0 (by decide) ?_
  refine lv_istore_n (lv' := [(1, .int 0), (0, .int x0)]) hx hb d_Md_bits_1 rfl hl (by decide) rfl (fun ls hl => ?_)
  refine lv_iconst (v := 0) hx hb d_Md_bits_2 (by decide) ?_
  refine lv_istore_n (lv' := [(2, .int 0), (1, .int 0), (0, .int x0)]) hx hb d_Md_bits_3 rfl hl (by decide) rfl (fun ls hl => ?_)
  exact B_Md_bits_4 C0 k_fu _ _ _ _ H locs ls hP hD hS (lv_sub hl [2, 1, 0] rfl) h
theorem K_Md_bits (l : Launch) (D : va_G) (a : Nat → Nat) (c9 : Nat → ClassId) (sz : Nat) {σ : kS} {x0 : Int32} {r9 : Int32} {σo : kS} (h : M_Md_bits σ x0 = some (r9, σo)) : Met l y_Md_bits (Cond.code y_Md_bits c_Md_bits 3 (some .int) :: kG) rm_Md_bits (k_Pc D a c9 sz σ [.int x0]) (k_Qi D a c9 r9 σo (k_A a c9 σ sz)) 0 0 (k_A a c9 σ sz) :=
  k_met (Qf := k_Qi D a c9 r9 σo) (by decide) (Nat.le_of_ble_eq_true rfl) (fun p e s m args below meth c A ls C0 hP hD hS hl => B_Md_bits_0 C0 σ x0 s.heap [] ls hP hD hS hl h)
def rm_Md_testHolds : Room := { frames := 0, cells := 0, slots := 0, locals := 0 }
def M_Md_testHolds (σ : kS) (x1 x2 x3 : Int32) : Option (Int32 × kS) := k_ld (σ.2.1 37) 720 (((3 * x1) + x2)) fun v1 => k_ld (σ.2.1 57) 12 (0) fun v2 => k_ld (σ.2.1 36) 720 (((3 * x1) + x2)) fun v3 => if v3 = 0 then (if x3 = 1 then (k_ld (σ.2.1 26) 240 (v2) fun v6 => if v6 = 0 then (k_ld (σ.2.1 27) 240 (v2) fun v8 => if v8 ≤ v1 then (some (0, σ)) else (some (1, σ))) else (some (0, σ))) else (some (0, σ))) else (if v3 = 1 then (if x3 = 1 then (k_ld (σ.2.1 26) 240 (v2) fun v12 => if v12 = 0 then (k_ld (σ.2.1 27) 240 (v2) fun v14 => if v1 ≤ v14 then (some (0, σ)) else (some (1, σ))) else (some (0, σ))) else (some (0, σ))) else (if v3 = 2 then (if x3 < v1 then (some (0, σ)) else (some (1, σ))) else (if v3 = 3 then (if x3 = 1 then (k_ld (σ.2.1 26) 240 (v2) fun v20 => if v20 = 1 then (k_ld (σ.2.1 27) 240 (v2) fun v22 => if v22 = v1 then (some (1, σ)) else (some (0, σ))) else (some (0, σ))) else (some (0, σ))) else (if x3 = 1 then (k_ld (σ.2.1 26) 240 (v2) fun v25 => if v25 = 0 then (some (0, σ)) else (some (1, σ))) else (some (0, σ))))))
set_option maxHeartbeats 4000000 in
set_option maxRecDepth 100000 in
theorem B_Md_testHolds_0 {p : Program} {l : Launch} {e : Env} {s : State} {m : MethodId} {args : Array Value} {below : List Frame} {meth : Method} {c : Code} {D : va_G} {a : Nat → Nat} {c9 : Nat → ClassId} {A : Nat → Prop} {r9 : Int32} {σo : kS} (C0 : k_Cx D c9 p s m args meth c R_Md c_Md_testHolds 6 (some .boolean) A) (σ : kS) (x1 x2 x3 : Int32) (H : Heap) (locs : List Loc) (ls : Array Slot) (hP : va_P D kcl (kw a c9 σ) H) (hD : va_D A (kw a c9 σ)) (hS : va_S A s.heap H locs) (hl : lv_has ls 6 [(0, .ref (a 6)), (1, .int x1), (2, .int x2), (3, .int x3)]) (h : M_Md_testHolds σ x1 x2 x3 = some (r9, σo)) : W p l e rm_Md_testHolds s m args below meth c H locs 0 0 (MQ below (k_Qi D a c9 r9 σo A) args s 0 0 A) (F0 m 0 ls []) := by
  obtain ⟨hx, hb, hml, hown, hts, hr, hlk, hK, hN, hA⟩ := id C0
  unfold M_Md_testHolds at h
  refine lv_aload_n hx hb d_Md_testHolds_0 rfl (lv_at hl 0 rfl) ?_
  refine va_get (ci := 1) (C := R_Md) (T := T_Md) (N := 44) hx hb hts in_Md hown hK hP 6 kw_6 rfl 13 (by decide) (hts _ q_726) (fun _ h9 => h9) rfl d_Md_testHolds_1 ?_
  refine lv_iconst (v := 3) hx hb d_Md_testHolds_4 (by decide) ?_
  refine lv_iload_n hx hb d_Md_testHolds_5 rfl (lv_at hl 1 rfl) ?_
  refine lv_imul hx hb d_Md_testHolds_6 ?_
  refine lv_iload_n hx hb d_Md_testHolds_7 rfl (lv_at hl 2 rfl) ?_
  refine lv_iadd hx hb d_Md_testHolds_8 ?_
  obtain ⟨v1, ev1, hv1, h⟩ := k_ld_e h
  refine va_iald hx hb hK hP 44 0 kw_44 rfl hv1 d_Md_testHolds_9 (k_top ev1 ?_)
  refine lv_istore (lv' := [(4, .int v1), (0, .ref (a 6)), (1, .int x1), (2, .int x2), (3, .int x3)]) hx hb d_Md_testHolds_10 hl (by decide) rfl (fun ls hl => ?_)
  refine lv_aload_n hx hb d_Md_testHolds_12 rfl (lv_at hl 1 rfl) ?_
  refine va_get (ci := 1) (C := R_Md) (T := T_Md) (N := 44) hx hb hts in_Md hown hK hP 6 kw_6 rfl 43 (by decide) (hts _ q_756) (fun _ h9 => h9) rfl d_Md_testHolds_13 ?_
  refine lv_iconst (v := 0) hx hb d_Md_testHolds_16 (by decide) ?_
  obtain ⟨v2, ev2, hv2, h⟩ := k_ld_e h
  refine va_iald hx hb hK hP 64 0 kw_64 rfl hv2 d_Md_testHolds_17 (k_top ev2 ?_)
  refine lv_istore (lv' := [(5, .int v2), (4, .int v1), (0, .ref (a 6)), (1, .int x1), (2, .int x2), (3, .int x3)]) hx hb d_Md_testHolds_18 hl (by decide) rfl (fun ls hl => ?_)
  refine lv_aload_n hx hb d_Md_testHolds_20 rfl (lv_at hl 2 rfl) ?_
  refine va_get (ci := 1) (C := R_Md) (T := T_Md) (N := 44) hx hb hts in_Md hown hK hP 6 kw_6 rfl 12 (by decide) (hts _ q_725) (fun _ h9 => h9) rfl d_Md_testHolds_21 ?_
  refine lv_iconst (v := 3) hx hb d_Md_testHolds_24 (by decide) ?_
  refine lv_iload_n hx hb d_Md_testHolds_25 rfl (lv_at hl 3 rfl) ?_
  refine lv_imul hx hb d_Md_testHolds_26 ?_
  refine lv_iload_n hx hb d_Md_testHolds_27 rfl (lv_at hl 4 rfl) ?_
  refine lv_iadd hx hb d_Md_testHolds_28 ?_
  obtain ⟨v3, ev3, hv3, h⟩ := k_ld_e h
  refine va_iald hx hb hK hP 43 0 kw_43 rfl hv3 d_Md_testHolds_29 (k_top ev3 ?_)
  by_cases cn4 : v3 = 0
  · replace h := (if_pos cn4).symm.trans h
    refine lv_tableIn (off := 30) (tgt := 60) hx hb d_Md_testHolds_30 (by rw [cn4]; decide) (by rw [cn4]; decide) (by rw [cn4]; rfl) (by decide) ?_
    refine lv_iload_n hx hb d_Md_testHolds_60 rfl (lv_at hl 5 rfl) ?_
    refine lv_iconst (v := 1) hx hb d_Md_testHolds_61 (by decide) ?_
    refine lv_icmp_ne (tgt := 91) hx hb d_Md_testHolds_62 (by decide) (fun cn5 => ?_) (fun cn5 => ?_)
    · replace h := (if_neg cn5).symm.trans h
      refine lv_iconst (v := 0) hx hb d_Md_testHolds_91 (by decide) ?_
      cases h
      exact k_zret (Or.inl rfl) hx hb hr hlk hP hS d_Md_testHolds_92
    · replace h := (if_pos cn5).symm.trans h
      refine lv_aload_n hx hb d_Md_testHolds_65 rfl (lv_at hl 2 rfl) ?_
      refine va_get (ci := 1) (C := R_Md) (T := T_Md) (N := 44) hx hb hts in_Md hown hK hP 6 kw_6 rfl 2 (by decide) (hts _ q_715) (fun _ h9 => h9) rfl d_Md_testHolds_66 ?_
      refine lv_iload hx hb d_Md_testHolds_69 (lv_at hl 0 rfl) ?_
      obtain ⟨v6, ev6, hv6, h⟩ := k_ld_e h
      refine va_iald hx hb hK hP 33 0 kw_33 rfl hv6 d_Md_testHolds_71 (k_top ev6 ?_)
      refine lv_if_ne (tgt := 91) hx hb d_Md_testHolds_72 (by decide) (fun cn7 => ?_) (fun cn7 => ?_)
      · replace h := (if_neg cn7).symm.trans h
        refine lv_iconst (v := 0) hx hb d_Md_testHolds_91 (by decide) ?_
        cases h
        exact k_zret (Or.inl rfl) hx hb hr hlk hP hS d_Md_testHolds_92
      · replace h := (if_pos cn7).symm.trans h
        refine lv_aload_n hx hb d_Md_testHolds_75 rfl (lv_at hl 2 rfl) ?_
        refine va_get (ci := 1) (C := R_Md) (T := T_Md) (N := 44) hx hb hts in_Md hown hK hP 6 kw_6 rfl 3 (by decide) (hts _ q_716) (fun _ h9 => h9) rfl d_Md_testHolds_76 ?_
        refine lv_iload hx hb d_Md_testHolds_79 (lv_at hl 0 rfl) ?_
        obtain ⟨v8, ev8, hv8, h⟩ := k_ld_e h
        refine va_iald hx hb hK hP 34 0 kw_34 rfl hv8 d_Md_testHolds_81 (k_top ev8 ?_)
        refine lv_iload hx hb d_Md_testHolds_82 (lv_at hl 1 rfl) ?_
        refine lv_icmp_le (tgt := 91) hx hb d_Md_testHolds_84 (by decide) (fun cn9 => ?_) (fun cn9 => ?_)
        · replace h := (if_pos cn9).symm.trans h
          refine lv_iconst (v := 0) hx hb d_Md_testHolds_91 (by decide) ?_
          cases h
          exact k_zret (Or.inl rfl) hx hb hr hlk hP hS d_Md_testHolds_92
        · replace h := (if_neg cn9).symm.trans h
          refine lv_iconst (v := 1) hx hb d_Md_testHolds_87 (by decide) ?_
          refine lv_goto (tgt := 92) hx hb d_Md_testHolds_88 (by decide) ?_
          cases h
          exact k_zret (Or.inr rfl) hx hb hr hlk hP hS d_Md_testHolds_92
  replace h := (if_neg cn4).symm.trans h
  by_cases cn10 : v3 = 1
  · replace h := (if_pos cn10).symm.trans h
    refine lv_tableIn (off := 63) (tgt := 93) hx hb d_Md_testHolds_30 (by rw [cn10]; decide) (by rw [cn10]; decide) (by rw [cn10]; rfl) (by decide) ?_
    refine lv_iload_n hx hb d_Md_testHolds_93 rfl (lv_at hl 5 rfl) ?_
    refine lv_iconst (v := 1) hx hb d_Md_testHolds_94 (by decide) ?_
    refine lv_icmp_ne (tgt := 124) hx hb d_Md_testHolds_95 (by decide) (fun cn11 => ?_) (fun cn11 => ?_)
    · replace h := (if_neg cn11).symm.trans h
      refine lv_iconst (v := 0) hx hb d_Md_testHolds_124 (by decide) ?_
      cases h
      exact k_zret (Or.inl rfl) hx hb hr hlk hP hS d_Md_testHolds_125
    · replace h := (if_pos cn11).symm.trans h
      refine lv_aload_n hx hb d_Md_testHolds_98 rfl (lv_at hl 2 rfl) ?_
      refine va_get (ci := 1) (C := R_Md) (T := T_Md) (N := 44) hx hb hts in_Md hown hK hP 6 kw_6 rfl 2 (by decide) (hts _ q_715) (fun _ h9 => h9) rfl d_Md_testHolds_99 ?_
      refine lv_iload hx hb d_Md_testHolds_102 (lv_at hl 0 rfl) ?_
      obtain ⟨v12, ev12, hv12, h⟩ := k_ld_e h
      refine va_iald hx hb hK hP 33 0 kw_33 rfl hv12 d_Md_testHolds_104 (k_top ev12 ?_)
      refine lv_if_ne (tgt := 124) hx hb d_Md_testHolds_105 (by decide) (fun cn13 => ?_) (fun cn13 => ?_)
      · replace h := (if_neg cn13).symm.trans h
        refine lv_iconst (v := 0) hx hb d_Md_testHolds_124 (by decide) ?_
        cases h
        exact k_zret (Or.inl rfl) hx hb hr hlk hP hS d_Md_testHolds_125
      · replace h := (if_pos cn13).symm.trans h
        refine lv_aload_n hx hb d_Md_testHolds_108 rfl (lv_at hl 2 rfl) ?_
        refine va_get (ci := 1) (C := R_Md) (T := T_Md) (N := 44) hx hb hts in_Md hown hK hP 6 kw_6 rfl 3 (by decide) (hts _ q_716) (fun _ h9 => h9) rfl d_Md_testHolds_109 ?_
        refine lv_iload hx hb d_Md_testHolds_112 (lv_at hl 0 rfl) ?_
        obtain ⟨v14, ev14, hv14, h⟩ := k_ld_e h
        refine va_iald hx hb hK hP 34 0 kw_34 rfl hv14 d_Md_testHolds_114 (k_top ev14 ?_)
        refine lv_iload hx hb d_Md_testHolds_115 (lv_at hl 1 rfl) ?_
        refine lv_icmp_ge (tgt := 124) hx hb d_Md_testHolds_117 (by decide) (fun cn15 => ?_) (fun cn15 => ?_)
        · replace h := (if_pos cn15).symm.trans h
          refine lv_iconst (v := 0) hx hb d_Md_testHolds_124 (by decide) ?_
          cases h
          exact k_zret (Or.inl rfl) hx hb hr hlk hP hS d_Md_testHolds_125
        · replace h := (if_neg cn15).symm.trans h
          refine lv_iconst (v := 1) hx hb d_Md_testHolds_120 (by decide) ?_
          refine lv_goto (tgt := 125) hx hb d_Md_testHolds_121 (by decide) ?_
          cases h
          exact k_zret (Or.inr rfl) hx hb hr hlk hP hS d_Md_testHolds_125
  replace h := (if_neg cn10).symm.trans h
  by_cases cn16 : v3 = 2
  · replace h := (if_pos cn16).symm.trans h
    refine lv_tableIn (off := 96) (tgt := 126) hx hb d_Md_testHolds_30 (by rw [cn16]; decide) (by rw [cn16]; decide) (by rw [cn16]; rfl) (by decide) ?_
    refine lv_iload_n hx hb d_Md_testHolds_126 rfl (lv_at hl 5 rfl) ?_
    refine lv_iload hx hb d_Md_testHolds_127 (lv_at hl 1 rfl) ?_
    refine lv_icmp_lt (tgt := 136) hx hb d_Md_testHolds_129 (by decide) (fun cn17 => ?_) (fun cn17 => ?_)
    · replace h := (if_pos cn17).symm.trans h
      refine lv_iconst (v := 0) hx hb d_Md_testHolds_136 (by decide) ?_
      cases h
      exact k_zret (Or.inl rfl) hx hb hr hlk hP hS d_Md_testHolds_137
    · replace h := (if_neg cn17).symm.trans h
      refine lv_iconst (v := 1) hx hb d_Md_testHolds_132 (by decide) ?_
      refine lv_goto (tgt := 137) hx hb d_Md_testHolds_133 (by decide) ?_
      cases h
      exact k_zret (Or.inr rfl) hx hb hr hlk hP hS d_Md_testHolds_137
  replace h := (if_neg cn16).symm.trans h
  by_cases cn18 : v3 = 3
  · replace h := (if_pos cn18).symm.trans h
    refine lv_tableIn (off := 108) (tgt := 138) hx hb d_Md_testHolds_30 (by rw [cn18]; decide) (by rw [cn18]; decide) (by rw [cn18]; rfl) (by decide) ?_
    refine lv_iload_n hx hb d_Md_testHolds_138 rfl (lv_at hl 5 rfl) ?_
    refine lv_iconst (v := 1) hx hb d_Md_testHolds_139 (by decide) ?_
    refine lv_icmp_ne (tgt := 170) hx hb d_Md_testHolds_140 (by decide) (fun cn19 => ?_) (fun cn19 => ?_)
    · replace h := (if_neg cn19).symm.trans h
      refine lv_iconst (v := 0) hx hb d_Md_testHolds_170 (by decide) ?_
      cases h
      exact k_zret (Or.inl rfl) hx hb hr hlk hP hS d_Md_testHolds_171
    · replace h := (if_pos cn19).symm.trans h
      refine lv_aload_n hx hb d_Md_testHolds_143 rfl (lv_at hl 2 rfl) ?_
      refine va_get (ci := 1) (C := R_Md) (T := T_Md) (N := 44) hx hb hts in_Md hown hK hP 6 kw_6 rfl 2 (by decide) (hts _ q_715) (fun _ h9 => h9) rfl d_Md_testHolds_144 ?_
      refine lv_iload hx hb d_Md_testHolds_147 (lv_at hl 0 rfl) ?_
      obtain ⟨v20, ev20, hv20, h⟩ := k_ld_e h
      refine va_iald hx hb hK hP 33 0 kw_33 rfl hv20 d_Md_testHolds_149 (k_top ev20 ?_)
      refine lv_iconst (v := 1) hx hb d_Md_testHolds_150 (by decide) ?_
      refine lv_icmp_ne (tgt := 170) hx hb d_Md_testHolds_151 (by decide) (fun cn21 => ?_) (fun cn21 => ?_)
      · replace h := (if_neg cn21).symm.trans h
        refine lv_iconst (v := 0) hx hb d_Md_testHolds_170 (by decide) ?_
        cases h
        exact k_zret (Or.inl rfl) hx hb hr hlk hP hS d_Md_testHolds_171
      · replace h := (if_pos cn21).symm.trans h
        refine lv_aload_n hx hb d_Md_testHolds_154 rfl (lv_at hl 2 rfl) ?_
        refine va_get (ci := 1) (C := R_Md) (T := T_Md) (N := 44) hx hb hts in_Md hown hK hP 6 kw_6 rfl 3 (by decide) (hts _ q_716) (fun _ h9 => h9) rfl d_Md_testHolds_155 ?_
        refine lv_iload hx hb d_Md_testHolds_158 (lv_at hl 0 rfl) ?_
        obtain ⟨v22, ev22, hv22, h⟩ := k_ld_e h
        refine va_iald hx hb hK hP 34 0 kw_34 rfl hv22 d_Md_testHolds_160 (k_top ev22 ?_)
        refine lv_iload hx hb d_Md_testHolds_161 (lv_at hl 1 rfl) ?_
        refine lv_icmp_ne (tgt := 170) hx hb d_Md_testHolds_163 (by decide) (fun cn23 => ?_) (fun cn23 => ?_)
        · replace h := (if_neg cn23).symm.trans h
          refine lv_iconst (v := 0) hx hb d_Md_testHolds_170 (by decide) ?_
          cases h
          exact k_zret (Or.inl rfl) hx hb hr hlk hP hS d_Md_testHolds_171
        · replace h := (if_pos cn23).symm.trans h
          refine lv_iconst (v := 1) hx hb d_Md_testHolds_166 (by decide) ?_
          refine lv_goto (tgt := 171) hx hb d_Md_testHolds_167 (by decide) ?_
          cases h
          exact k_zret (Or.inr rfl) hx hb hr hlk hP hS d_Md_testHolds_171
  replace h := (if_neg cn18).symm.trans h
  refine lv_tableOut (tgt := 172) hx hb d_Md_testHolds_30 (by have := lv_neT cn4 (k := 0) (a := 0) (by decide); have := lv_neT cn10 (k := 1) (a := 1) (by decide); have := lv_neT cn16 (k := 2) (a := 2) (by decide); have := lv_neT cn18 (k := 3) (a := 3) (by decide); omega) (by decide) ?_
  refine lv_iload_n hx hb d_Md_testHolds_172 rfl (lv_at hl 5 rfl) ?_
  refine lv_iconst (v := 1) hx hb d_Md_testHolds_173 (by decide) ?_
  refine lv_icmp_ne (tgt := 191) hx hb d_Md_testHolds_174 (by decide) (fun cn24 => ?_) (fun cn24 => ?_)
  · replace h := (if_neg cn24).symm.trans h
    refine lv_iconst (v := 0) hx hb d_Md_testHolds_191 (by decide) ?_
    cases h
    exact k_zret (Or.inl rfl) hx hb hr hlk hP hS d_Md_testHolds_192
  · replace h := (if_pos cn24).symm.trans h
    refine lv_aload_n hx hb d_Md_testHolds_177 rfl (lv_at hl 2 rfl) ?_
    refine va_get (ci := 1) (C := R_Md) (T := T_Md) (N := 44) hx hb hts in_Md hown hK hP 6 kw_6 rfl 2 (by decide) (hts _ q_715) (fun _ h9 => h9) rfl d_Md_testHolds_178 ?_
    refine lv_iload hx hb d_Md_testHolds_181 (lv_at hl 0 rfl) ?_
    obtain ⟨v25, ev25, hv25, h⟩ := k_ld_e h
    refine va_iald hx hb hK hP 33 0 kw_33 rfl hv25 d_Md_testHolds_183 (k_top ev25 ?_)
    refine lv_if_eq (tgt := 191) hx hb d_Md_testHolds_184 (by decide) (fun cn26 => ?_) (fun cn26 => ?_)
    · replace h := (if_pos cn26).symm.trans h
      refine lv_iconst (v := 0) hx hb d_Md_testHolds_191 (by decide) ?_
      cases h
      exact k_zret (Or.inl rfl) hx hb hr hlk hP hS d_Md_testHolds_192
    · replace h := (if_neg cn26).symm.trans h
      refine lv_iconst (v := 1) hx hb d_Md_testHolds_187 (by decide) ?_
      refine lv_goto (tgt := 192) hx hb d_Md_testHolds_188 (by decide) ?_
      cases h
      exact k_zret (Or.inr rfl) hx hb hr hlk hP hS d_Md_testHolds_192
theorem K_Md_testHolds (l : Launch) (D : va_G) (a : Nat → Nat) (c9 : Nat → ClassId) (sz : Nat) {σ : kS} {x1 x2 x3 : Int32} {r9 : Int32} {σo : kS} (h : M_Md_testHolds σ x1 x2 x3 = some (r9, σo)) : Met l y_Md_testHolds (Cond.code y_Md_testHolds c_Md_testHolds 6 (some .boolean) :: kG) rm_Md_testHolds (k_Pc D a c9 sz σ [.ref (a 6), .int x1, .int x2, .int x3]) (k_Qi D a c9 r9 σo (k_A a c9 σ sz)) 0 0 (k_A a c9 σ sz) :=
  k_met (Qf := k_Qi D a c9 r9 σo) (by decide) (Nat.le_of_ble_eq_true rfl) (fun p e s m args below meth c A ls C0 hP hD hS hl => B_Md_testHolds_0 C0 σ x1 x2 x3 s.heap [] ls hP hD hS hl h)
def rm_Md_binds : Room := { frames := 1, cells := 0, slots := 0, locals := 26 }
def M_Md_binds_92_b (self9 : kS → Int32 → Int32 → Int32 → Int32 → Option (Int32 × kS)) (σ : kS) (x1 x2 x3 x4 : Int32) : Option (Int32 × kS) := if x2 ≤ x4 then (some (1, σ)) else (k_ld (σ.2.1 43) 96 (((12 * x3) + x4)) fun v2 => k_ld (σ.2.1 57) 12 (x4) fun v3 => k_call (M_Md_compare σ v2 v3) fun v4 σ5 => if v4 = 0 then (k_let (x4 + 1) fun v8 => self9 σ5 x1 x2 x3 v8) else (some (0, σ5)))
def M_Md_binds_92 : Nat → kS → Int32 → Int32 → Int32 → Int32 → Option (Int32 × kS)
  | 0 => fun _ _ _ _ _ => none
  | n + 1 => M_Md_binds_92_b (M_Md_binds_92 n)
set_option maxHeartbeats 4000000 in
set_option maxRecDepth 100000 in
theorem B_Md_binds_92 {p : Program} {l : Launch} {e : Env} {s : State} {m : MethodId} {args : Array Value} {below : List Frame} {meth : Method} {c : Code} {D : va_G} {a : Nat → Nat} {c9 : Nat → ClassId} {A : Nat → Prop} {r9 : Int32} {σo : kS} (C0 : k_Cx D c9 p s m args meth c R_Md c_Md_binds 5 (some .boolean) A) : ∀ (n : Nat) (σ : kS) (x1 x2 x3 x4 : Int32) (H : Heap) (locs : List Loc) (ls : Array Slot), va_P D kcl (kw a c9 σ) H → va_D A (kw a c9 σ) → va_S A s.heap H locs → lv_has ls 5 [(0, .ref (a 6)), (1, .int x1), (2, .int x2), (3, .int x3), (4, .int x4)] → M_Md_binds_92 n σ x1 x2 x3 x4 = some (r9, σo) → W p l e rm_Md_binds s m args below meth c H locs 0 0 (MQ below (k_Qi D a c9 r9 σo A) args s 0 0 A) (F0 m 92 ls []) := by
  obtain ⟨hx, hb, hml, hown, hts, hr, hlk, hK, hN, hA⟩ := id C0
  intro n
  induction n with
  | zero =>
    intro σ x1 x2 x3 x4 H locs ls hP hD hS hl h
    replace h : (none : Option (Int32 × kS)) = some (r9, σo) := h
    cases h
  | succ n ih =>
    intro σ x1 x2 x3 x4 H locs ls hP hD hS hl h
    replace h : M_Md_binds_92_b (M_Md_binds_92 n) σ x1 x2 x3 x4 = some (r9, σo) := h
    unfold M_Md_binds_92_b at h
    refine lv_iload hx hb d_Md_binds_92 (lv_at hl 4 rfl) ?_
    refine lv_iload_n hx hb d_Md_binds_94 rfl (lv_at hl 2 rfl) ?_
    refine lv_icmp_ge (tgt := 132) hx hb d_Md_binds_95 (by decide) (fun cn1 => ?_) (fun cn1 => ?_)
    · replace h := (if_pos cn1).symm.trans h
      refine lv_iconst (v := 1) hx hb d_Md_binds_132 (by decide) ?_
      cases h
      exact k_zret (Or.inr rfl) hx hb hr hlk hP hS d_Md_binds_133
    · replace h := (if_neg cn1).symm.trans h
      refine lv_aload_n hx hb d_Md_binds_98 rfl (lv_at hl 0 rfl) ?_
      refine lv_aload_n hx hb d_Md_binds_99 rfl (lv_at hl 0 rfl) ?_
      refine va_get (ci := 1) (C := R_Md) (T := T_Md) (N := 44) hx hb hts in_Md hown hK hP 6 kw_6 rfl 22 (by decide) (hts _ q_735) (fun _ h9 => h9) rfl d_Md_binds_100 ?_
      refine lv_bipush (v := 12) hx hb d_Md_binds_103 (by decide) ?_
      refine lv_iload_n hx hb d_Md_binds_105 rfl (lv_at hl 3 rfl) ?_
      refine lv_imul hx hb d_Md_binds_106 ?_
      refine lv_iload hx hb d_Md_binds_107 (lv_at hl 4 rfl) ?_
      refine lv_iadd hx hb d_Md_binds_109 ?_
      obtain ⟨v2, ev2, hv2, h⟩ := k_ld_e h
      refine va_iald hx hb hK hP 50 0 kw_50 rfl hv2 d_Md_binds_110 (k_top ev2 ?_)
      refine lv_aload_n hx hb d_Md_binds_111 rfl (lv_at hl 0 rfl) ?_
      refine va_get (ci := 1) (C := R_Md) (T := T_Md) (N := 44) hx hb hts in_Md hown hK hP 6 kw_6 rfl 43 (by decide) (hts _ q_756) (fun _ h9 => h9) rfl d_Md_binds_112 ?_
      refine lv_iload hx hb d_Md_binds_115 (lv_at hl 4 rfl) ?_
      obtain ⟨v3, ev3, hv3, h⟩ := k_ld_e h
      refine va_iald hx hb hK hP 64 0 kw_64 rfl hv3 d_Md_binds_117 (k_top ev3 ?_)
      obtain ⟨v4, σ5, hc6, h⟩ := k_call_e h
      refine k_calli (va_runV (As := [.int v2, .int v3]) (rest := []) ⟨hx, hb, hml, hown, hts⟩ (K_Md_compare l D a c9 H.size hc6) (cwV 2 hts (k_gV q_877 q_879 s_20 q_7 q_880) rfl rfl rfl h_Md_compare ⟨Nat.le_of_ble_eq_true rfl, Nat.le_of_ble_eq_true rfl⟩) (k_preV (ci := 1) (q0 := 6) rfl kw_6 hP hK hN hD) rfl rfl hl.1 rfl (lv_room (Nat.le_of_ble_eq_true rfl)) d_Md_binds_118 ⟨Nat.zero_le _, Nat.zero_le _⟩) hD hS hA (fun H locs hP hD hS => ?_)
      refine lv_if_eq (tgt := 126) hx hb d_Md_binds_121 (by decide) (fun cn7 => ?_) (fun cn7 => ?_)
      · replace h := (if_pos cn7).symm.trans h
        obtain ⟨v8, ev8, h⟩ := k_let_e h
        refine lv_iinc (v := v8) (lv' := [(4, .int v8), (0, .ref (a 6)), (1, .int x1), (2, .int x2), (3, .int x3)]) hx hb d_Md_binds_126 hl (k := 4) rfl (by rw [ev8]; rfl) (by decide) rfl (fun ls hl => ?_)
        refine lv_goto (tgt := 92) hx hb d_Md_binds_129 (by decide) ?_
        exact ih _ _ _ _ _ H locs ls hP hD hS (lv_sub hl [1, 2, 3, 4, 0] rfl) h
      · replace h := (if_neg cn7).symm.trans h
        refine lv_iconst (v := 0) hx hb d_Md_binds_124 (by decide) ?_
        cases h
        exact k_zret (Or.inl rfl) hx hb hr hlk hP hS d_Md_binds_125
def M_Md_binds_144_b (self9 : kS → Int32 → Int32 → Int32 → Int32 → Option (Int32 × kS)) (σ : kS) (x1 x2 x3 x4 : Int32) : Option (Int32 × kS) := if x2 ≤ x4 then (k_st σ 44 8 (σ.1 15) (x3) fun σ2 => k_set σ2 15 ((σ2.1 15 + 1)) fun σ3 => some (1, σ3)) else (k_ld (σ.2.1 57) 12 (x4) fun v4 => k_st σ 43 96 (((12 * x3) + x4)) (v4) fun σ5 => k_let (x4 + 1) fun v6 => self9 σ5 x1 x2 x3 v6)
def M_Md_binds_144 : Nat → kS → Int32 → Int32 → Int32 → Int32 → Option (Int32 × kS)
  | 0 => fun _ _ _ _ _ => none
  | n + 1 => M_Md_binds_144_b (M_Md_binds_144 n)
set_option maxHeartbeats 4000000 in
set_option maxRecDepth 100000 in
theorem B_Md_binds_144 {p : Program} {l : Launch} {e : Env} {s : State} {m : MethodId} {args : Array Value} {below : List Frame} {meth : Method} {c : Code} {D : va_G} {a : Nat → Nat} {c9 : Nat → ClassId} {A : Nat → Prop} {r9 : Int32} {σo : kS} (C0 : k_Cx D c9 p s m args meth c R_Md c_Md_binds 5 (some .boolean) A) : ∀ (n : Nat) (σ : kS) (x1 x2 x3 x4 : Int32) (H : Heap) (locs : List Loc) (ls : Array Slot), va_P D kcl (kw a c9 σ) H → va_D A (kw a c9 σ) → va_S A s.heap H locs → lv_has ls 5 [(0, .ref (a 6)), (1, .int x1), (2, .int x2), (3, .int x3), (4, .int x4)] → M_Md_binds_144 n σ x1 x2 x3 x4 = some (r9, σo) → W p l e rm_Md_binds s m args below meth c H locs 0 0 (MQ below (k_Qi D a c9 r9 σo A) args s 0 0 A) (F0 m 144 ls []) := by
  obtain ⟨hx, hb, hml, hown, hts, hr, hlk, hK, hN, hA⟩ := id C0
  intro n
  induction n with
  | zero =>
    intro σ x1 x2 x3 x4 H locs ls hP hD hS hl h
    replace h : (none : Option (Int32 × kS)) = some (r9, σo) := h
    cases h
  | succ n ih =>
    intro σ x1 x2 x3 x4 H locs ls hP hD hS hl h
    replace h : M_Md_binds_144_b (M_Md_binds_144 n) σ x1 x2 x3 x4 = some (r9, σo) := h
    unfold M_Md_binds_144_b at h
    refine lv_iload hx hb d_Md_binds_144 (lv_at hl 4 rfl) ?_
    refine lv_iload_n hx hb d_Md_binds_146 rfl (lv_at hl 2 rfl) ?_
    refine lv_icmp_ge (tgt := 175) hx hb d_Md_binds_147 (by decide) (fun cn1 => ?_) (fun cn1 => ?_)
    · replace h := (if_pos cn1).symm.trans h
      refine lv_aload_n hx hb d_Md_binds_175 rfl (lv_at hl 0 rfl) ?_
      refine va_get (ci := 1) (C := R_Md) (T := T_Md) (N := 44) hx hb hts in_Md hown hK hP 6 kw_6 rfl 24 (by decide) (hts _ q_737) (fun _ h9 => h9) rfl d_Md_binds_176 ?_
      refine lv_aload_n hx hb d_Md_binds_179 rfl (lv_at hl 0 rfl) ?_
      refine va_get (ci := 1) (C := R_Md) (T := T_Md) (N := 44) hx hb hts in_Md hown hK hP 6 kw_6 rfl 23 (by decide) (hts _ q_736) (fun _ h9 => h9) rfl d_Md_binds_180 ?_
      refine lv_iload_n hx hb d_Md_binds_183 rfl (lv_at hl 3 rfl) ?_
      obtain ⟨σ2, eσ2, hiσ2, h⟩ := k_st_e h
      refine va_iast hx hb hK hP hD hS 51 0 kw_51 rfl hiσ2 d_Md_binds_184 (fun H locs hP hD hS => ?_)
      replace hP := k_mvP (kw_s51.trans (congrArg _ eσ2.symm)) hP
      replace hD := k_mvD (kw_s51.trans (congrArg _ eσ2.symm)) hD
      refine lv_aload_n hx hb d_Md_binds_185 rfl (lv_at hl 0 rfl) ?_
      refine lv_dup hx hb d_Md_binds_186 rfl ?_
      refine va_get (ci := 1) (C := R_Md) (T := T_Md) (N := 44) hx hb hts in_Md hown hK hP 6 kw_6 rfl 23 (by decide) (hts _ q_736) (fun _ h9 => h9) rfl d_Md_binds_187 ?_
      refine lv_iconst (v := 1) hx hb d_Md_binds_190 (by decide) ?_
      refine lv_iadd hx hb d_Md_binds_191 ?_
      obtain ⟨σ3, eσ3, h⟩ := k_set_e h
      refine va_put (ci := 1) (v := .int ((σ2.1 15 + 1))) (ty := .int) (C := R_Md) (T := T_Md) (N := 44) hx hb hts in_Md t_Md t_Md_ok n_Md hown hK hP hD hS 6 kw_6 rfl 23 (by decide) (hts _ q_736) (fun _ h9 => h9) rfl (by decide +kernel) rfl rfl (Nat.le_of_ble_eq_true rfl) d_Md_binds_192 (fun H locs hP hD hS => ?_)
      replace hP := k_mvP (kw_f6_23.trans (congrArg _ eσ3.symm)) hP
      replace hD := k_mvD (kw_f6_23.trans (congrArg _ eσ3.symm)) hD
      refine lv_iconst (v := 1) hx hb d_Md_binds_195 (by decide) ?_
      cases h
      exact k_zret (Or.inr rfl) hx hb hr hlk hP hS d_Md_binds_196
    · replace h := (if_neg cn1).symm.trans h
      refine lv_aload_n hx hb d_Md_binds_150 rfl (lv_at hl 0 rfl) ?_
      refine va_get (ci := 1) (C := R_Md) (T := T_Md) (N := 44) hx hb hts in_Md hown hK hP 6 kw_6 rfl 22 (by decide) (hts _ q_735) (fun _ h9 => h9) rfl d_Md_binds_151 ?_
      refine lv_bipush (v := 12) hx hb d_Md_binds_154 (by decide) ?_
      refine lv_iload_n hx hb d_Md_binds_156 rfl (lv_at hl 3 rfl) ?_
      refine lv_imul hx hb d_Md_binds_157 ?_
      refine lv_iload hx hb d_Md_binds_158 (lv_at hl 4 rfl) ?_
      refine lv_iadd hx hb d_Md_binds_160 ?_
      refine lv_aload_n hx hb d_Md_binds_161 rfl (lv_at hl 0 rfl) ?_
      refine va_get (ci := 1) (C := R_Md) (T := T_Md) (N := 44) hx hb hts in_Md hown hK hP 6 kw_6 rfl 43 (by decide) (hts _ q_756) (fun _ h9 => h9) rfl d_Md_binds_162 ?_
      refine lv_iload hx hb d_Md_binds_165 (lv_at hl 4 rfl) ?_
      obtain ⟨v4, ev4, hv4, h⟩ := k_ld_e h
      refine va_iald hx hb hK hP 64 0 kw_64 rfl hv4 d_Md_binds_167 (k_top ev4 ?_)
      obtain ⟨σ5, eσ5, hiσ5, h⟩ := k_st_e h
      refine va_iast hx hb hK hP hD hS 50 0 kw_50 rfl hiσ5 d_Md_binds_168 (fun H locs hP hD hS => ?_)
      replace hP := k_mvP (kw_s50.trans (congrArg _ eσ5.symm)) hP
      replace hD := k_mvD (kw_s50.trans (congrArg _ eσ5.symm)) hD
      obtain ⟨v6, ev6, h⟩ := k_let_e h
      refine lv_iinc (v := v6) (lv' := [(4, .int v6), (0, .ref (a 6)), (1, .int x1), (2, .int x2), (3, .int x3)]) hx hb d_Md_binds_169 hl (k := 4) rfl (by rw [ev6]; rfl) (by decide) rfl (fun ls hl => ?_)
      refine lv_goto (tgt := 144) hx hb d_Md_binds_172 (by decide) ?_
      exact ih _ _ _ _ _ H locs ls hP hD hS (lv_sub hl [1, 2, 3, 4, 0] rfl) h
def M_Md_binds_33_b (self9 : kS → Int32 → Int32 → Int32 → Option (Int32 × kS)) (σ : kS) (x1 x2 x3 : Int32) : Option (Int32 × kS) := k_ld (σ.2.1 35) 240 (x1) fun v1 => if v1 ≤ x3 then (k_ld (σ.2.1 27) 240 (x1) fun v3 => k_ld (σ.2.1 42) 8 (v3) fun v4 => if v4 < 0 then (k_st σ 42 8 (v3) (x2) fun σ6 => M_Md_binds_144 k_fu σ6 x1 x2 v3 0) else (k_ld (σ.2.1 42) 8 (v3) fun v7 => if v7 = x2 then (M_Md_binds_92 k_fu σ x1 x2 v3 0) else (some (0, σ)))) else (k_call (M_Md_testHolds σ x1 x3 x2) fun v9 σ10 => if v9 = 0 then (some (0, σ10)) else (k_let (x3 + 1) fun v13 => self9 σ10 x1 x2 v13))
def M_Md_binds_33 : Nat → kS → Int32 → Int32 → Int32 → Option (Int32 × kS)
  | 0 => fun _ _ _ _ => none
  | n + 1 => M_Md_binds_33_b (M_Md_binds_33 n)
set_option maxHeartbeats 4000000 in
set_option maxRecDepth 100000 in
theorem B_Md_binds_33 {p : Program} {l : Launch} {e : Env} {s : State} {m : MethodId} {args : Array Value} {below : List Frame} {meth : Method} {c : Code} {D : va_G} {a : Nat → Nat} {c9 : Nat → ClassId} {A : Nat → Prop} {r9 : Int32} {σo : kS} (C0 : k_Cx D c9 p s m args meth c R_Md c_Md_binds 5 (some .boolean) A) : ∀ (n : Nat) (σ : kS) (x1 x2 x3 : Int32) (H : Heap) (locs : List Loc) (ls : Array Slot), va_P D kcl (kw a c9 σ) H → va_D A (kw a c9 σ) → va_S A s.heap H locs → lv_has ls 5 [(0, .ref (a 6)), (1, .int x1), (2, .int x2), (3, .int x3)] → M_Md_binds_33 n σ x1 x2 x3 = some (r9, σo) → W p l e rm_Md_binds s m args below meth c H locs 0 0 (MQ below (k_Qi D a c9 r9 σo A) args s 0 0 A) (F0 m 33 ls []) := by
  obtain ⟨hx, hb, hml, hown, hts, hr, hlk, hK, hN, hA⟩ := id C0
  intro n
  induction n with
  | zero =>
    intro σ x1 x2 x3 H locs ls hP hD hS hl h
    replace h : (none : Option (Int32 × kS)) = some (r9, σo) := h
    cases h
  | succ n ih =>
    intro σ x1 x2 x3 H locs ls hP hD hS hl h
    replace h : M_Md_binds_33_b (M_Md_binds_33 n) σ x1 x2 x3 = some (r9, σo) := h
    unfold M_Md_binds_33_b at h
    refine lv_iload_n hx hb d_Md_binds_33 rfl (lv_at hl 3 rfl) ?_
    refine lv_aload_n hx hb d_Md_binds_34 rfl (lv_at hl 0 rfl) ?_
    refine va_get (ci := 1) (C := R_Md) (T := T_Md) (N := 44) hx hb hts in_Md hown hK hP 6 kw_6 rfl 11 (by decide) (hts _ q_724) (fun _ h9 => h9) rfl d_Md_binds_35 ?_
    refine lv_iload_n hx hb d_Md_binds_38 rfl (lv_at hl 1 rfl) ?_
    obtain ⟨v1, ev1, hv1, h⟩ := k_ld_e h
    refine va_iald hx hb hK hP 42 0 kw_42 rfl hv1 d_Md_binds_39 (k_top ev1 ?_)
    refine lv_icmp_ge (tgt := 61) hx hb d_Md_binds_40 (by decide) (fun cn2 => ?_) (fun cn2 => ?_)
    · replace h := (if_pos cn2).symm.trans h
      refine lv_aload_n hx hb d_Md_binds_61 rfl (lv_at hl 0 rfl) ?_
      refine va_get (ci := 1) (C := R_Md) (T := T_Md) (N := 44) hx hb hts in_Md hown hK hP 6 kw_6 rfl 3 (by decide) (hts _ q_716) (fun _ h9 => h9) rfl d_Md_binds_62 ?_
      refine lv_iload_n hx hb d_Md_binds_65 rfl (lv_at hl 1 rfl) ?_
      obtain ⟨v3, ev3, hv3, h⟩ := k_ld_e h
      refine va_iald hx hb hK hP 34 0 kw_34 rfl hv3 d_Md_binds_66 (k_top ev3 ?_)
      refine lv_istore_n (lv' := [(3, .int v3), (0, .ref (a 6)), (1, .int x1), (2, .int x2)]) hx hb d_Md_binds_67 rfl hl (by decide) rfl (fun ls hl => ?_)
      refine lv_aload_n hx hb d_Md_binds_68 rfl (lv_at hl 1 rfl) ?_
      refine va_get (ci := 1) (C := R_Md) (T := T_Md) (N := 44) hx hb hts in_Md hown hK hP 6 kw_6 rfl 21 (by decide) (hts _ q_734) (fun _ h9 => h9) rfl d_Md_binds_69 ?_
      refine lv_iload_n hx hb d_Md_binds_72 rfl (lv_at hl 0 rfl) ?_
      obtain ⟨v4, ev4, hv4, h⟩ := k_ld_e h
      refine va_iald hx hb hK hP 49 0 kw_49 rfl hv4 d_Md_binds_73 (k_top ev4 ?_)
      refine lv_if_lt (tgt := 134) hx hb d_Md_binds_74 (by decide) (fun cn5 => ?_) (fun cn5 => ?_)
      · replace h := (if_pos cn5).symm.trans h
        refine lv_aload_n hx hb d_Md_binds_134 rfl (lv_at hl 1 rfl) ?_
        refine va_get (ci := 1) (C := R_Md) (T := T_Md) (N := 44) hx hb hts in_Md hown hK hP 6 kw_6 rfl 21 (by decide) (hts _ q_734) (fun _ h9 => h9) rfl d_Md_binds_135 ?_
        refine lv_iload_n hx hb d_Md_binds_138 rfl (lv_at hl 0 rfl) ?_
        refine lv_iload_n hx hb d_Md_binds_139 rfl (lv_at hl 3 rfl) ?_
        obtain ⟨σ6, eσ6, hiσ6, h⟩ := k_st_e h
        refine va_iast hx hb hK hP hD hS 49 0 kw_49 rfl hiσ6 d_Md_binds_140 (fun H locs hP hD hS => ?_)
        replace hP := k_mvP (kw_s49.trans (congrArg _ eσ6.symm)) hP
        replace hD := k_mvD (kw_s49.trans (congrArg _ eσ6.symm)) hD
        refine lv_iconst (v := 0) hx hb d_Md_binds_141 (by decide) ?_
        refine lv_istore (lv' := [(4, .int 0), (3, .int v3), (0, .ref (a 6)), (1, .int x1), (2, .int x2)]) hx hb d_Md_binds_142 hl (by decide) rfl (fun ls hl => ?_)
        exact B_Md_binds_144 C0 k_fu _ _ _ _ _ H locs ls hP hD hS (lv_sub hl [2, 3, 4, 1, 0] rfl) h
      · replace h := (if_neg cn5).symm.trans h
        refine lv_aload_n hx hb d_Md_binds_77 rfl (lv_at hl 1 rfl) ?_
        refine va_get (ci := 1) (C := R_Md) (T := T_Md) (N := 44) hx hb hts in_Md hown hK hP 6 kw_6 rfl 21 (by decide) (hts _ q_734) (fun _ h9 => h9) rfl d_Md_binds_78 ?_
        refine lv_iload_n hx hb d_Md_binds_81 rfl (lv_at hl 0 rfl) ?_
        obtain ⟨v7, ev7, hv7, h⟩ := k_ld_e h
        refine va_iald hx hb hK hP 49 0 kw_49 rfl hv7 d_Md_binds_82 (k_top ev7 ?_)
        refine lv_iload_n hx hb d_Md_binds_83 rfl (lv_at hl 3 rfl) ?_
        refine lv_icmp_eq (tgt := 89) hx hb d_Md_binds_84 (by decide) (fun cn8 => ?_) (fun cn8 => ?_)
        · replace h := (if_pos cn8).symm.trans h
          refine lv_iconst (v := 0) hx hb d_Md_binds_89 (by decide) ?_
          refine lv_istore (lv' := [(4, .int 0), (3, .int v3), (0, .ref (a 6)), (1, .int x1), (2, .int x2)]) hx hb d_Md_binds_90 hl (by decide) rfl (fun ls hl => ?_)
          exact B_Md_binds_92 C0 k_fu _ _ _ _ _ H locs ls hP hD hS (lv_sub hl [2, 3, 4, 1, 0] rfl) h
        · replace h := (if_neg cn8).symm.trans h
          refine lv_iconst (v := 0) hx hb d_Md_binds_87 (by decide) ?_
          cases h
          exact k_zret (Or.inl rfl) hx hb hr hlk hP hS d_Md_binds_88
    · replace h := (if_neg cn2).symm.trans h
      refine lv_aload_n hx hb d_Md_binds_43 rfl (lv_at hl 0 rfl) ?_
      refine lv_iload_n hx hb d_Md_binds_44 rfl (lv_at hl 1 rfl) ?_
      refine lv_iload_n hx hb d_Md_binds_45 rfl (lv_at hl 3 rfl) ?_
      refine lv_iload_n hx hb d_Md_binds_46 rfl (lv_at hl 2 rfl) ?_
      obtain ⟨v9, σ10, hc11, h⟩ := k_call_e h
      refine k_calli (va_runV (As := [.int x1, .int x3, .int x2]) (rest := []) ⟨hx, hb, hml, hown, hts⟩ (K_Md_testHolds l D a c9 H.size hc11) (cwV 3 hts (k_gV q_905 q_907 s_25 q_7 q_908) rfl rfl rfl h_Md_testHolds ⟨Nat.le_of_ble_eq_true rfl, Nat.le_of_ble_eq_true rfl⟩) (k_preV (ci := 1) (q0 := 6) rfl kw_6 hP hK hN hD) rfl rfl hl.1 rfl (lv_room (Nat.le_of_ble_eq_true rfl)) d_Md_binds_47 ⟨Nat.zero_le _, Nat.zero_le _⟩) hD hS hA (fun H locs hP hD hS => ?_)
      refine lv_if_ne (tgt := 55) hx hb d_Md_binds_50 (by decide) (fun cn12 => ?_) (fun cn12 => ?_)
      · replace h := (if_neg cn12).symm.trans h
        obtain ⟨v13, ev13, h⟩ := k_let_e h
        refine lv_iinc (v := v13) (lv' := [(3, .int v13), (0, .ref (a 6)), (1, .int x1), (2, .int x2)]) hx hb d_Md_binds_55 hl (k := 3) rfl (by rw [ev13]; rfl) (by decide) rfl (fun ls hl => ?_)
        refine lv_goto (tgt := 33) hx hb d_Md_binds_58 (by decide) ?_
        exact ih _ _ _ _ H locs ls hP hD hS (lv_sub hl [1, 2, 3, 0] rfl) h
      · replace h := (if_pos cn12).symm.trans h
        refine lv_iconst (v := 0) hx hb d_Md_binds_53 (by decide) ?_
        cases h
        exact k_zret (Or.inl rfl) hx hb hr hlk hP hS d_Md_binds_54
def M_Md_binds (σ : kS) (x1 x2 : Int32) : Option (Int32 × kS) := k_ld (σ.2.1 28) 240 (x1) fun v1 => if v1 = 1 then (if x2 = 1 then (k_ld (σ.2.1 57) 12 (0) fun v4 => k_ld (σ.2.1 26) 240 (v4) fun v5 => if v5 = 0 then (M_Md_binds_33 k_fu σ x1 x2 0) else (some (0, σ))) else (some (0, σ))) else (M_Md_binds_33 k_fu σ x1 x2 0)
set_option maxHeartbeats 4000000 in
set_option maxRecDepth 100000 in
theorem B_Md_binds_0 {p : Program} {l : Launch} {e : Env} {s : State} {m : MethodId} {args : Array Value} {below : List Frame} {meth : Method} {c : Code} {D : va_G} {a : Nat → Nat} {c9 : Nat → ClassId} {A : Nat → Prop} {r9 : Int32} {σo : kS} (C0 : k_Cx D c9 p s m args meth c R_Md c_Md_binds 5 (some .boolean) A) (σ : kS) (x1 x2 : Int32) (H : Heap) (locs : List Loc) (ls : Array Slot) (hP : va_P D kcl (kw a c9 σ) H) (hD : va_D A (kw a c9 σ)) (hS : va_S A s.heap H locs) (hl : lv_has ls 5 [(0, .ref (a 6)), (1, .int x1), (2, .int x2)]) (h : M_Md_binds σ x1 x2 = some (r9, σo)) : W p l e rm_Md_binds s m args below meth c H locs 0 0 (MQ below (k_Qi D a c9 r9 σo A) args s 0 0 A) (F0 m 0 ls []) := by
  obtain ⟨hx, hb, hml, hown, hts, hr, hlk, hK, hN, hA⟩ := id C0
  unfold M_Md_binds at h
  refine lv_aload_n hx hb d_Md_binds_0 rfl (lv_at hl 0 rfl) ?_
  refine va_get (ci := 1) (C := R_Md) (T := T_Md) (N := 44) hx hb hts in_Md hown hK hP 6 kw_6 rfl 4 (by decide) (hts _ q_717) (fun _ h9 => h9) rfl d_Md_binds_1 ?_
  refine lv_iload_n hx hb d_Md_binds_4 rfl (lv_at hl 1 rfl) ?_
  obtain ⟨v1, ev1, hv1, h⟩ := k_ld_e h
  refine va_iald hx hb hK hP 35 0 kw_35 rfl hv1 d_Md_binds_5 (k_top ev1 ?_)
  refine lv_iconst (v := 1) hx hb d_Md_binds_6 (by decide) ?_
  refine lv_icmp_ne (tgt := 31) hx hb d_Md_binds_7 (by decide) (fun cn2 => ?_) (fun cn2 => ?_)
  · replace h := (if_neg cn2).symm.trans h
    refine lv_iconst (v := 0) hx hb d_Md_binds_31 (by decide) ?_
    refine lv_istore_n (lv' := [(3, .int 0), (0, .ref (a 6)), (1, .int x1), (2, .int x2)]) hx hb d_Md_binds_32 rfl hl (by decide) rfl (fun ls hl => ?_)
    exact B_Md_binds_33 C0 k_fu _ _ _ _ H locs ls hP hD hS (lv_sub hl [1, 2, 3, 0] rfl) h
  · replace h := (if_pos cn2).symm.trans h
    refine lv_iload_n hx hb d_Md_binds_10 rfl (lv_at hl 2 rfl) ?_
    refine lv_iconst (v := 1) hx hb d_Md_binds_11 (by decide) ?_
    refine lv_icmp_ne (tgt := 29) hx hb d_Md_binds_12 (by decide) (fun cn3 => ?_) (fun cn3 => ?_)
    · replace h := (if_neg cn3).symm.trans h
      refine lv_iconst (v := 0) hx hb d_Md_binds_29 (by decide) ?_
      cases h
      exact k_zret (Or.inl rfl) hx hb hr hlk hP hS d_Md_binds_30
    · replace h := (if_pos cn3).symm.trans h
      refine lv_aload_n hx hb d_Md_binds_15 rfl (lv_at hl 0 rfl) ?_
      refine va_get (ci := 1) (C := R_Md) (T := T_Md) (N := 44) hx hb hts in_Md hown hK hP 6 kw_6 rfl 2 (by decide) (hts _ q_715) (fun _ h9 => h9) rfl d_Md_binds_16 ?_
      refine lv_aload_n hx hb d_Md_binds_19 rfl (lv_at hl 0 rfl) ?_
      refine va_get (ci := 1) (C := R_Md) (T := T_Md) (N := 44) hx hb hts in_Md hown hK hP 6 kw_6 rfl 43 (by decide) (hts _ q_756) (fun _ h9 => h9) rfl d_Md_binds_20 ?_
      refine lv_iconst (v := 0) hx hb d_Md_binds_23 (by decide) ?_
      obtain ⟨v4, ev4, hv4, h⟩ := k_ld_e h
      refine va_iald hx hb hK hP 64 0 kw_64 rfl hv4 d_Md_binds_24 (k_top ev4 ?_)
      obtain ⟨v5, ev5, hv5, h⟩ := k_ld_e h
      refine va_iald hx hb hK hP 33 0 kw_33 rfl hv5 d_Md_binds_25 (k_top ev5 ?_)
      refine lv_if_eq (tgt := 31) hx hb d_Md_binds_26 (by decide) (fun cn6 => ?_) (fun cn6 => ?_)
      · replace h := (if_pos cn6).symm.trans h
        refine lv_iconst (v := 0) hx hb d_Md_binds_31 (by decide) ?_
        refine lv_istore_n (lv' := [(3, .int 0), (0, .ref (a 6)), (1, .int x1), (2, .int x2)]) hx hb d_Md_binds_32 rfl hl (by decide) rfl (fun ls hl => ?_)
        exact B_Md_binds_33 C0 k_fu _ _ _ _ H locs ls hP hD hS (lv_sub hl [1, 2, 3, 0] rfl) h
      · replace h := (if_neg cn6).symm.trans h
        refine lv_iconst (v := 0) hx hb d_Md_binds_29 (by decide) ?_
        cases h
        exact k_zret (Or.inl rfl) hx hb hr hlk hP hS d_Md_binds_30
theorem K_Md_binds (l : Launch) (D : va_G) (a : Nat → Nat) (c9 : Nat → ClassId) (sz : Nat) {σ : kS} {x1 x2 : Int32} {r9 : Int32} {σo : kS} (h : M_Md_binds σ x1 x2 = some (r9, σo)) : Met l y_Md_binds (Cond.code y_Md_binds c_Md_binds 5 (some .boolean) :: kG) rm_Md_binds (k_Pc D a c9 sz σ [.ref (a 6), .int x1, .int x2]) (k_Qi D a c9 r9 σo (k_A a c9 σ sz)) 0 0 (k_A a c9 σ sz) :=
  k_met (Qf := k_Qi D a c9 r9 σo) (by decide) (Nat.le_of_ble_eq_true rfl) (fun p e s m args below meth c A ls C0 hP hD hS hl => B_Md_binds_0 C0 σ x1 x2 s.heap [] ls hP hD hS hl h)
def rm_Md_goal : Room := { frames := 0, cells := 0, slots := 0, locals := 0 }
def M_Md_goal (σ : kS) (x1 x2 x3 x4 x5 : Int32) : Option (Int32 × kS) := k_st σ 45 1000 (σ.1 20) (x1) fun σ1 => k_st σ1 46 1000 (σ1.1 20) (x2) fun σ2 => k_st σ2 47 1000 (σ2.1 20) (x3) fun σ3 => k_st σ3 48 1000 (σ3.1 20) (x4) fun σ4 => k_st σ4 49 1000 (σ4.1 20) (x5) fun σ5 => k_set σ5 20 ((σ5.1 20 + 1)) fun σ6 => some ((σ6.1 20 - 1), σ6)
set_option maxHeartbeats 4000000 in
set_option maxRecDepth 100000 in
theorem B_Md_goal_0 {p : Program} {l : Launch} {e : Env} {s : State} {m : MethodId} {args : Array Value} {below : List Frame} {meth : Method} {c : Code} {D : va_G} {a : Nat → Nat} {c9 : Nat → ClassId} {A : Nat → Prop} {r9 : Int32} {σo : kS} (C0 : k_Cx D c9 p s m args meth c R_Md c_Md_goal 6 (some .int) A) (σ : kS) (x1 x2 x3 x4 x5 : Int32) (H : Heap) (locs : List Loc) (ls : Array Slot) (hP : va_P D kcl (kw a c9 σ) H) (hD : va_D A (kw a c9 σ)) (hS : va_S A s.heap H locs) (hl : lv_has ls 6 [(0, .ref (a 6)), (1, .int x1), (2, .int x2), (3, .int x3), (4, .int x4), (5, .int x5)]) (h : M_Md_goal σ x1 x2 x3 x4 x5 = some (r9, σo)) : W p l e rm_Md_goal s m args below meth c H locs 0 0 (MQ below (k_Qi D a c9 r9 σo A) args s 0 0 A) (F0 m 0 ls []) := by
  obtain ⟨hx, hb, hml, hown, hts, hr, hlk, hK, hN, hA⟩ := id C0
  unfold M_Md_goal at h
  refine lv_aload_n hx hb d_Md_goal_0 rfl (lv_at hl 0 rfl) ?_
  refine va_get (ci := 1) (C := R_Md) (T := T_Md) (N := 44) hx hb hts in_Md hown hK hP 6 kw_6 rfl 30 (by decide) (hts _ q_743) (fun _ h9 => h9) rfl d_Md_goal_1 ?_
  refine lv_aload_n hx hb d_Md_goal_4 rfl (lv_at hl 0 rfl) ?_
  refine va_get (ci := 1) (C := R_Md) (T := T_Md) (N := 44) hx hb hts in_Md hown hK hP 6 kw_6 rfl 29 (by decide) (hts _ q_742) (fun _ h9 => h9) rfl d_Md_goal_5 ?_
  refine lv_iload_n hx hb d_Md_goal_8 rfl (lv_at hl 1 rfl) ?_
  obtain ⟨σ1, eσ1, hiσ1, h⟩ := k_st_e h
  refine va_iast hx hb hK hP hD hS 52 0 kw_52 rfl hiσ1 d_Md_goal_9 (fun H locs hP hD hS => ?_)
  replace hP := k_mvP (kw_s52.trans (congrArg _ eσ1.symm)) hP
  replace hD := k_mvD (kw_s52.trans (congrArg _ eσ1.symm)) hD
  refine lv_aload_n hx hb d_Md_goal_10 rfl (lv_at hl 0 rfl) ?_
  refine va_get (ci := 1) (C := R_Md) (T := T_Md) (N := 44) hx hb hts in_Md hown hK hP 6 kw_6 rfl 31 (by decide) (hts _ q_744) (fun _ h9 => h9) rfl d_Md_goal_11 ?_
  refine lv_aload_n hx hb d_Md_goal_14 rfl (lv_at hl 0 rfl) ?_
  refine va_get (ci := 1) (C := R_Md) (T := T_Md) (N := 44) hx hb hts in_Md hown hK hP 6 kw_6 rfl 29 (by decide) (hts _ q_742) (fun _ h9 => h9) rfl d_Md_goal_15 ?_
  refine lv_iload_n hx hb d_Md_goal_18 rfl (lv_at hl 2 rfl) ?_
  obtain ⟨σ2, eσ2, hiσ2, h⟩ := k_st_e h
  refine va_iast hx hb hK hP hD hS 53 0 kw_53 rfl hiσ2 d_Md_goal_19 (fun H locs hP hD hS => ?_)
  replace hP := k_mvP (kw_s53.trans (congrArg _ eσ2.symm)) hP
  replace hD := k_mvD (kw_s53.trans (congrArg _ eσ2.symm)) hD
  refine lv_aload_n hx hb d_Md_goal_20 rfl (lv_at hl 0 rfl) ?_
  refine va_get (ci := 1) (C := R_Md) (T := T_Md) (N := 44) hx hb hts in_Md hown hK hP 6 kw_6 rfl 32 (by decide) (hts _ q_745) (fun _ h9 => h9) rfl d_Md_goal_21 ?_
  refine lv_aload_n hx hb d_Md_goal_24 rfl (lv_at hl 0 rfl) ?_
  refine va_get (ci := 1) (C := R_Md) (T := T_Md) (N := 44) hx hb hts in_Md hown hK hP 6 kw_6 rfl 29 (by decide) (hts _ q_742) (fun _ h9 => h9) rfl d_Md_goal_25 ?_
  refine lv_iload_n hx hb d_Md_goal_28 rfl (lv_at hl 3 rfl) ?_
  obtain ⟨σ3, eσ3, hiσ3, h⟩ := k_st_e h
  refine va_iast hx hb hK hP hD hS 54 0 kw_54 rfl hiσ3 d_Md_goal_29 (fun H locs hP hD hS => ?_)
  replace hP := k_mvP (kw_s54.trans (congrArg _ eσ3.symm)) hP
  replace hD := k_mvD (kw_s54.trans (congrArg _ eσ3.symm)) hD
  refine lv_aload_n hx hb d_Md_goal_30 rfl (lv_at hl 0 rfl) ?_
  refine va_get (ci := 1) (C := R_Md) (T := T_Md) (N := 44) hx hb hts in_Md hown hK hP 6 kw_6 rfl 33 (by decide) (hts _ q_746) (fun _ h9 => h9) rfl d_Md_goal_31 ?_
  refine lv_aload_n hx hb d_Md_goal_34 rfl (lv_at hl 0 rfl) ?_
  refine va_get (ci := 1) (C := R_Md) (T := T_Md) (N := 44) hx hb hts in_Md hown hK hP 6 kw_6 rfl 29 (by decide) (hts _ q_742) (fun _ h9 => h9) rfl d_Md_goal_35 ?_
  refine lv_iload hx hb d_Md_goal_38 (lv_at hl 4 rfl) ?_
  obtain ⟨σ4, eσ4, hiσ4, h⟩ := k_st_e h
  refine va_iast hx hb hK hP hD hS 55 0 kw_55 rfl hiσ4 d_Md_goal_40 (fun H locs hP hD hS => ?_)
  replace hP := k_mvP (kw_s55.trans (congrArg _ eσ4.symm)) hP
  replace hD := k_mvD (kw_s55.trans (congrArg _ eσ4.symm)) hD
  refine lv_aload_n hx hb d_Md_goal_41 rfl (lv_at hl 0 rfl) ?_
  refine va_get (ci := 1) (C := R_Md) (T := T_Md) (N := 44) hx hb hts in_Md hown hK hP 6 kw_6 rfl 34 (by decide) (hts _ q_747) (fun _ h9 => h9) rfl d_Md_goal_42 ?_
  refine lv_aload_n hx hb d_Md_goal_45 rfl (lv_at hl 0 rfl) ?_
  refine va_get (ci := 1) (C := R_Md) (T := T_Md) (N := 44) hx hb hts in_Md hown hK hP 6 kw_6 rfl 29 (by decide) (hts _ q_742) (fun _ h9 => h9) rfl d_Md_goal_46 ?_
  refine lv_iload hx hb d_Md_goal_49 (lv_at hl 5 rfl) ?_
  obtain ⟨σ5, eσ5, hiσ5, h⟩ := k_st_e h
  refine va_iast hx hb hK hP hD hS 56 0 kw_56 rfl hiσ5 d_Md_goal_51 (fun H locs hP hD hS => ?_)
  replace hP := k_mvP (kw_s56.trans (congrArg _ eσ5.symm)) hP
  replace hD := k_mvD (kw_s56.trans (congrArg _ eσ5.symm)) hD
  refine lv_aload_n hx hb d_Md_goal_52 rfl (lv_at hl 0 rfl) ?_
  refine lv_dup hx hb d_Md_goal_53 rfl ?_
  refine va_get (ci := 1) (C := R_Md) (T := T_Md) (N := 44) hx hb hts in_Md hown hK hP 6 kw_6 rfl 29 (by decide) (hts _ q_742) (fun _ h9 => h9) rfl d_Md_goal_54 ?_
  refine lv_iconst (v := 1) hx hb d_Md_goal_57 (by decide) ?_
  refine lv_iadd hx hb d_Md_goal_58 ?_
  obtain ⟨σ6, eσ6, h⟩ := k_set_e h
  refine va_put (ci := 1) (v := .int ((σ5.1 20 + 1))) (ty := .int) (C := R_Md) (T := T_Md) (N := 44) hx hb hts in_Md t_Md t_Md_ok n_Md hown hK hP hD hS 6 kw_6 rfl 29 (by decide) (hts _ q_742) (fun _ h9 => h9) rfl (by decide +kernel) rfl rfl (Nat.le_of_ble_eq_true rfl) d_Md_goal_59 (fun H locs hP hD hS => ?_)
  replace hP := k_mvP (kw_f6_29.trans (congrArg _ eσ6.symm)) hP
  replace hD := k_mvD (kw_f6_29.trans (congrArg _ eσ6.symm)) hD
  refine lv_aload_n hx hb d_Md_goal_62 rfl (lv_at hl 0 rfl) ?_
  refine va_get (ci := 1) (C := R_Md) (T := T_Md) (N := 44) hx hb hts in_Md hown hK hP 6 kw_6 rfl 29 (by decide) (hts _ q_742) (fun _ h9 => h9) rfl d_Md_goal_63 ?_
  refine lv_iconst (v := 1) hx hb d_Md_goal_66 (by decide) ?_
  refine lv_isub hx hb d_Md_goal_67 ?_
  cases h
  exact k_iret hx hb hr hlk hP hS d_Md_goal_68
theorem K_Md_goal (l : Launch) (D : va_G) (a : Nat → Nat) (c9 : Nat → ClassId) (sz : Nat) {σ : kS} {x1 x2 x3 x4 x5 : Int32} {r9 : Int32} {σo : kS} (h : M_Md_goal σ x1 x2 x3 x4 x5 = some (r9, σo)) : Met l y_Md_goal (Cond.code y_Md_goal c_Md_goal 6 (some .int) :: kG) rm_Md_goal (k_Pc D a c9 sz σ [.ref (a 6), .int x1, .int x2, .int x3, .int x4, .int x5]) (k_Qi D a c9 r9 σo (k_A a c9 σ sz)) 0 0 (k_A a c9 σ sz) :=
  k_met (Qf := k_Qi D a c9 r9 σo) (by decide) (Nat.le_of_ble_eq_true rfl) (fun p e s m args below meth c A ls C0 hP hD hS hl => B_Md_goal_0 C0 σ x1 x2 x3 x4 x5 s.heap [] ls hP hD hS hl h)
def rm_Md_puts : Room := { frames := 2, cells := 0, slots := 0, locals := 50 }
def M_Md_puts (σ : kS) (x1 x2 x3 : Int32) : Option (Int32 × kS) := k_ld (σ.2.1 26) 240 (x1) fun v1 => if v1 = 2 then (k_call (M_Md_binds σ x1 x2) fun v15 σ16 => if v15 = 0 then (some ((-2), σ16)) else (some (x3, σ16))) else (k_ld (σ.2.1 57) 12 (0) fun v3 => k_ld (σ.2.1 26) 240 (v3) fun v4 => k_ld (σ.2.1 26) 240 (x1) fun v5 => if v4 = v5 then (k_ld (σ.2.1 27) 240 (v3) fun v7 => k_ld (σ.2.1 27) 240 (x1) fun v8 => if v7 = v8 then (k_ld (σ.2.1 26) 240 (x1) fun v10 => if v10 = 0 then (some (x3, σ)) else (k_call (M_Md_goal σ x1 v3 0 0 x3) fun v12 σ13 => some (v12, σ13))) else (some ((-2), σ))) else (some ((-2), σ)))
set_option maxHeartbeats 4000000 in
set_option maxRecDepth 100000 in
theorem B_Md_puts_0 {p : Program} {l : Launch} {e : Env} {s : State} {m : MethodId} {args : Array Value} {below : List Frame} {meth : Method} {c : Code} {D : va_G} {a : Nat → Nat} {c9 : Nat → ClassId} {A : Nat → Prop} {r9 : Int32} {σo : kS} (C0 : k_Cx D c9 p s m args meth c R_Md c_Md_puts 5 (some .int) A) (σ : kS) (x1 x2 x3 : Int32) (H : Heap) (locs : List Loc) (ls : Array Slot) (hP : va_P D kcl (kw a c9 σ) H) (hD : va_D A (kw a c9 σ)) (hS : va_S A s.heap H locs) (hl : lv_has ls 5 [(0, .ref (a 6)), (1, .int x1), (2, .int x2), (3, .int x3)]) (h : M_Md_puts σ x1 x2 x3 = some (r9, σo)) : W p l e rm_Md_puts s m args below meth c H locs 0 0 (MQ below (k_Qi D a c9 r9 σo A) args s 0 0 A) (F0 m 0 ls []) := by
  obtain ⟨hx, hb, hml, hown, hts, hr, hlk, hK, hN, hA⟩ := id C0
  unfold M_Md_puts at h
  refine lv_aload_n hx hb d_Md_puts_0 rfl (lv_at hl 0 rfl) ?_
  refine va_get (ci := 1) (C := R_Md) (T := T_Md) (N := 44) hx hb hts in_Md hown hK hP 6 kw_6 rfl 2 (by decide) (hts _ q_715) (fun _ h9 => h9) rfl d_Md_puts_1 ?_
  refine lv_iload_n hx hb d_Md_puts_4 rfl (lv_at hl 1 rfl) ?_
  obtain ⟨v1, ev1, hv1, h⟩ := k_ld_e h
  refine va_iald hx hb hK hP 33 0 kw_33 rfl hv1 d_Md_puts_5 (k_top ev1 ?_)
  refine lv_iconst (v := 2) hx hb d_Md_puts_6 (by decide) ?_
  refine lv_icmp_ne (tgt := 26) hx hb d_Md_puts_7 (by decide) (fun cn2 => ?_) (fun cn2 => ?_)
  · replace h := (if_neg cn2).symm.trans h
    refine lv_aload_n hx hb d_Md_puts_26 rfl (lv_at hl 0 rfl) ?_
    refine va_get (ci := 1) (C := R_Md) (T := T_Md) (N := 44) hx hb hts in_Md hown hK hP 6 kw_6 rfl 43 (by decide) (hts _ q_756) (fun _ h9 => h9) rfl d_Md_puts_27 ?_
    refine lv_iconst (v := 0) hx hb d_Md_puts_30 (by decide) ?_
    obtain ⟨v3, ev3, hv3, h⟩ := k_ld_e h
    refine va_iald hx hb hK hP 64 0 kw_64 rfl hv3 d_Md_puts_31 (k_top ev3 ?_)
    refine lv_istore (lv' := [(4, .int v3), (0, .ref (a 6)), (1, .int x1), (2, .int x2), (3, .int x3)]) hx hb d_Md_puts_32 hl (by decide) rfl (fun ls hl => ?_)
    refine lv_aload_n hx hb d_Md_puts_34 rfl (lv_at hl 1 rfl) ?_
    refine va_get (ci := 1) (C := R_Md) (T := T_Md) (N := 44) hx hb hts in_Md hown hK hP 6 kw_6 rfl 2 (by decide) (hts _ q_715) (fun _ h9 => h9) rfl d_Md_puts_35 ?_
    refine lv_iload hx hb d_Md_puts_38 (lv_at hl 0 rfl) ?_
    obtain ⟨v4, ev4, hv4, h⟩ := k_ld_e h
    refine va_iald hx hb hK hP 33 0 kw_33 rfl hv4 d_Md_puts_40 (k_top ev4 ?_)
    refine lv_aload_n hx hb d_Md_puts_41 rfl (lv_at hl 1 rfl) ?_
    refine va_get (ci := 1) (C := R_Md) (T := T_Md) (N := 44) hx hb hts in_Md hown hK hP 6 kw_6 rfl 2 (by decide) (hts _ q_715) (fun _ h9 => h9) rfl d_Md_puts_42 ?_
    refine lv_iload_n hx hb d_Md_puts_45 rfl (lv_at hl 2 rfl) ?_
    obtain ⟨v5, ev5, hv5, h⟩ := k_ld_e h
    refine va_iald hx hb hK hP 33 0 kw_33 rfl hv5 d_Md_puts_46 (k_top ev5 ?_)
    refine lv_icmp_ne (tgt := 66) hx hb d_Md_puts_47 (by decide) (fun cn6 => ?_) (fun cn6 => ?_)
    · replace h := (if_neg cn6).symm.trans h
      refine lv_bipush (v := (-2)) hx hb d_Md_puts_66 (by decide) ?_
      cases h
      exact k_iret hx hb hr hlk hP hS d_Md_puts_68
    · replace h := (if_pos cn6).symm.trans h
      refine lv_aload_n hx hb d_Md_puts_50 rfl (lv_at hl 1 rfl) ?_
      refine va_get (ci := 1) (C := R_Md) (T := T_Md) (N := 44) hx hb hts in_Md hown hK hP 6 kw_6 rfl 3 (by decide) (hts _ q_716) (fun _ h9 => h9) rfl d_Md_puts_51 ?_
      refine lv_iload hx hb d_Md_puts_54 (lv_at hl 0 rfl) ?_
      obtain ⟨v7, ev7, hv7, h⟩ := k_ld_e h
      refine va_iald hx hb hK hP 34 0 kw_34 rfl hv7 d_Md_puts_56 (k_top ev7 ?_)
      refine lv_aload_n hx hb d_Md_puts_57 rfl (lv_at hl 1 rfl) ?_
      refine va_get (ci := 1) (C := R_Md) (T := T_Md) (N := 44) hx hb hts in_Md hown hK hP 6 kw_6 rfl 3 (by decide) (hts _ q_716) (fun _ h9 => h9) rfl d_Md_puts_58 ?_
      refine lv_iload_n hx hb d_Md_puts_61 rfl (lv_at hl 2 rfl) ?_
      obtain ⟨v8, ev8, hv8, h⟩ := k_ld_e h
      refine va_iald hx hb hK hP 34 0 kw_34 rfl hv8 d_Md_puts_62 (k_top ev8 ?_)
      refine lv_icmp_eq (tgt := 69) hx hb d_Md_puts_63 (by decide) (fun cn9 => ?_) (fun cn9 => ?_)
      · replace h := (if_pos cn9).symm.trans h
        refine lv_aload_n hx hb d_Md_puts_69 rfl (lv_at hl 1 rfl) ?_
        refine va_get (ci := 1) (C := R_Md) (T := T_Md) (N := 44) hx hb hts in_Md hown hK hP 6 kw_6 rfl 2 (by decide) (hts _ q_715) (fun _ h9 => h9) rfl d_Md_puts_70 ?_
        refine lv_iload_n hx hb d_Md_puts_73 rfl (lv_at hl 2 rfl) ?_
        obtain ⟨v10, ev10, hv10, h⟩ := k_ld_e h
        refine va_iald hx hb hK hP 33 0 kw_33 rfl hv10 d_Md_puts_74 (k_top ev10 ?_)
        refine lv_if_ne (tgt := 82) hx hb d_Md_puts_75 (by decide) (fun cn11 => ?_) (fun cn11 => ?_)
        · replace h := (if_neg cn11).symm.trans h
          refine lv_aload_n hx hb d_Md_puts_82 rfl (lv_at hl 1 rfl) ?_
          refine lv_iload_n hx hb d_Md_puts_83 rfl (lv_at hl 2 rfl) ?_
          refine lv_iload hx hb d_Md_puts_84 (lv_at hl 0 rfl) ?_
          refine lv_iconst (v := 0) hx hb d_Md_puts_86 (by decide) ?_
          refine lv_iconst (v := 0) hx hb d_Md_puts_87 (by decide) ?_
          refine lv_iload_n hx hb d_Md_puts_88 rfl (lv_at hl 4 rfl) ?_
          obtain ⟨v12, σ13, hc14, h⟩ := k_call_e h
          refine k_calli (va_runV (As := [.int x1, .int v3, .int 0, .int 0, .int x3]) (rest := []) ⟨hx, hb, hml, hown, hts⟩ (K_Md_goal l D a c9 H.size hc14) (cwV 5 hts (k_gV q_909 q_911 s_26 q_7 q_912) rfl rfl rfl h_Md_goal ⟨Nat.le_of_ble_eq_true rfl, Nat.le_of_ble_eq_true rfl⟩) (k_preV (ci := 1) (q0 := 6) rfl kw_6 hP hK hN hD) rfl rfl hl.1 rfl (lv_room (Nat.le_of_ble_eq_true rfl)) d_Md_puts_89 ⟨Nat.zero_le _, Nat.zero_le _⟩) hD hS hA (fun H locs hP hD hS => ?_)
          cases h
          exact k_iret hx hb hr hlk hP hS d_Md_puts_92
        · replace h := (if_pos cn11).symm.trans h
          refine lv_iload_n hx hb d_Md_puts_78 rfl (lv_at hl 4 rfl) ?_
          refine lv_goto (tgt := 92) hx hb d_Md_puts_79 (by decide) ?_
          cases h
          exact k_iret hx hb hr hlk hP hS d_Md_puts_92
      · replace h := (if_neg cn9).symm.trans h
        refine lv_bipush (v := (-2)) hx hb d_Md_puts_66 (by decide) ?_
        cases h
        exact k_iret hx hb hr hlk hP hS d_Md_puts_68
  · replace h := (if_pos cn2).symm.trans h
    refine lv_aload_n hx hb d_Md_puts_10 rfl (lv_at hl 0 rfl) ?_
    refine lv_iload_n hx hb d_Md_puts_11 rfl (lv_at hl 1 rfl) ?_
    refine lv_iload_n hx hb d_Md_puts_12 rfl (lv_at hl 2 rfl) ?_
    obtain ⟨v15, σ16, hc17, h⟩ := k_call_e h
    refine k_calli (va_runV (As := [.int x1, .int x2]) (rest := []) ⟨hx, hb, hml, hown, hts⟩ (K_Md_binds l D a c9 H.size hc17) (cwV 2 hts (k_gV q_901 q_903 s_24 q_7 q_904) rfl rfl rfl h_Md_binds ⟨Nat.le_of_ble_eq_true rfl, Nat.le_of_ble_eq_true rfl⟩) (k_preV (ci := 1) (q0 := 6) rfl kw_6 hP hK hN hD) rfl rfl hl.1 rfl (lv_room (Nat.le_of_ble_eq_true rfl)) d_Md_puts_13 ⟨Nat.zero_le _, Nat.zero_le _⟩) hD hS hA (fun H locs hP hD hS => ?_)
    refine lv_if_eq (tgt := 23) hx hb d_Md_puts_16 (by decide) (fun cn18 => ?_) (fun cn18 => ?_)
    · replace h := (if_pos cn18).symm.trans h
      refine lv_bipush (v := (-2)) hx hb d_Md_puts_23 (by decide) ?_
      cases h
      exact k_iret hx hb hr hlk hP hS d_Md_puts_25
    · replace h := (if_neg cn18).symm.trans h
      refine lv_iload_n hx hb d_Md_puts_19 rfl (lv_at hl 3 rfl) ?_
      refine lv_goto (tgt := 25) hx hb d_Md_puts_20 (by decide) ?_
      cases h
      exact k_iret hx hb hr hlk hP hS d_Md_puts_25
theorem K_Md_puts (l : Launch) (D : va_G) (a : Nat → Nat) (c9 : Nat → ClassId) (sz : Nat) {σ : kS} {x1 x2 x3 : Int32} {r9 : Int32} {σo : kS} (h : M_Md_puts σ x1 x2 x3 = some (r9, σo)) : Met l y_Md_puts (Cond.code y_Md_puts c_Md_puts 5 (some .int) :: kG) rm_Md_puts (k_Pc D a c9 sz σ [.ref (a 6), .int x1, .int x2, .int x3]) (k_Qi D a c9 r9 σo (k_A a c9 σ sz)) 0 0 (k_A a c9 σ sz) :=
  k_met (Qf := k_Qi D a c9 r9 σo) (by decide) (Nat.le_of_ble_eq_true rfl) (fun p e s m args below meth c A ls C0 hP hD hS hl => B_Md_puts_0 C0 σ x1 x2 x3 s.heap [] ls hP hD hS hl h)
def rm_Md_bit : Room := { frames := 0, cells := 0, slots := 0, locals := 0 }
def M_Md_bit (σ : kS) (x0 : Int32) : Option (Int32 × kS) := some ((1 <<< ((11 - x0) &&& 31)), σ)
set_option maxHeartbeats 4000000 in
set_option maxRecDepth 100000 in
theorem B_Md_bit_0 {p : Program} {l : Launch} {e : Env} {s : State} {m : MethodId} {args : Array Value} {below : List Frame} {meth : Method} {c : Code} {D : va_G} {a : Nat → Nat} {c9 : Nat → ClassId} {A : Nat → Prop} {r9 : Int32} {σo : kS} (C0 : k_Cx D c9 p s m args meth c R_Md c_Md_bit 1 (some .int) A) (σ : kS) (x0 : Int32) (H : Heap) (locs : List Loc) (ls : Array Slot) (hP : va_P D kcl (kw a c9 σ) H) (hD : va_D A (kw a c9 σ)) (hS : va_S A s.heap H locs) (hl : lv_has ls 1 [(0, .int x0)]) (h : M_Md_bit σ x0 = some (r9, σo)) : W p l e rm_Md_bit s m args below meth c H locs 0 0 (MQ below (k_Qi D a c9 r9 σo A) args s 0 0 A) (F0 m 0 ls []) := by
  obtain ⟨hx, hb, hml, hown, hts, hr, hlk, hK, hN, hA⟩ := id C0
  unfold M_Md_bit at h
  refine lv_iconst (v := 1) hx hb d_Md_bit_0 (by decide) ?_
  refine lv_bipush (v := 11) hx hb d_Md_bit_1 (by decide) ?_
  refine lv_iload_n hx hb d_Md_bit_3 rfl (lv_at hl 0 rfl) ?_
  refine lv_isub hx hb d_Md_bit_4 ?_
  refine lv_ishl hx hb d_Md_bit_5 ?_
  cases h
  exact k_iret hx hb hr hlk hP hS d_Md_bit_6
theorem K_Md_bit (l : Launch) (D : va_G) (a : Nat → Nat) (c9 : Nat → ClassId) (sz : Nat) {σ : kS} {x0 : Int32} {r9 : Int32} {σo : kS} (h : M_Md_bit σ x0 = some (r9, σo)) : Met l y_Md_bit (Cond.code y_Md_bit c_Md_bit 1 (some .int) :: kG) rm_Md_bit (k_Pc D a c9 sz σ [.int x0]) (k_Qi D a c9 r9 σo (k_A a c9 σ sz)) 0 0 (k_A a c9 σ sz) :=
  k_met (Qf := k_Qi D a c9 r9 σo) (by decide) (Nat.le_of_ble_eq_true rfl) (fun p e s m args below meth c A ls C0 hP hD hS hl => B_Md_bit_0 C0 σ x0 s.heap [] ls hP hD hS hl h)
def rm_Md_leftOf : Room := { frames := 1, cells := 0, slots := 0, locals := 20 }
def M_Md_leftOf_4_b (self9 : kS → Int32 → Int32 → Int32 → Option (Int32 × kS)) (σ : kS) (x1 x2 x3 : Int32) : Option (Int32 × kS) := k_ld (σ.2.1 46) 1000 (x1) fun v1 => k_ld (σ.2.1 29) 240 (v1) fun v2 => if v2 ≤ x3 then (k_ld (σ.2.1 48) 1000 (x1) fun v4 => some ((x2 &&& (v4 ^^^ (-1))), σ)) else (k_call (M_Md_bit σ x3) fun v5 σ6 => k_let ((x2 ||| v5)) fun v8 => k_let (x3 + 1) fun v9 => self9 σ6 x1 v8 v9)
def M_Md_leftOf_4 : Nat → kS → Int32 → Int32 → Int32 → Option (Int32 × kS)
  | 0 => fun _ _ _ _ => none
  | n + 1 => M_Md_leftOf_4_b (M_Md_leftOf_4 n)
set_option maxHeartbeats 4000000 in
set_option maxRecDepth 100000 in
theorem B_Md_leftOf_4 {p : Program} {l : Launch} {e : Env} {s : State} {m : MethodId} {args : Array Value} {below : List Frame} {meth : Method} {c : Code} {D : va_G} {a : Nat → Nat} {c9 : Nat → ClassId} {A : Nat → Prop} {r9 : Int32} {σo : kS} (C0 : k_Cx D c9 p s m args meth c R_Md c_Md_leftOf 4 (some .int) A) : ∀ (n : Nat) (σ : kS) (x1 x2 x3 : Int32) (H : Heap) (locs : List Loc) (ls : Array Slot), va_P D kcl (kw a c9 σ) H → va_D A (kw a c9 σ) → va_S A s.heap H locs → lv_has ls 4 [(0, .ref (a 6)), (1, .int x1), (2, .int x2), (3, .int x3)] → M_Md_leftOf_4 n σ x1 x2 x3 = some (r9, σo) → W p l e rm_Md_leftOf s m args below meth c H locs 0 0 (MQ below (k_Qi D a c9 r9 σo A) args s 0 0 A) (F0 m 4 ls []) := by
  obtain ⟨hx, hb, hml, hown, hts, hr, hlk, hK, hN, hA⟩ := id C0
  intro n
  induction n with
  | zero =>
    intro σ x1 x2 x3 H locs ls hP hD hS hl h
    replace h : (none : Option (Int32 × kS)) = some (r9, σo) := h
    cases h
  | succ n ih =>
    intro σ x1 x2 x3 H locs ls hP hD hS hl h
    replace h : M_Md_leftOf_4_b (M_Md_leftOf_4 n) σ x1 x2 x3 = some (r9, σo) := h
    unfold M_Md_leftOf_4_b at h
    refine lv_iload_n hx hb d_Md_leftOf_4 rfl (lv_at hl 3 rfl) ?_
    refine lv_aload_n hx hb d_Md_leftOf_5 rfl (lv_at hl 0 rfl) ?_
    refine va_get (ci := 1) (C := R_Md) (T := T_Md) (N := 44) hx hb hts in_Md hown hK hP 6 kw_6 rfl 5 (by decide) (hts _ q_718) (fun _ h9 => h9) rfl d_Md_leftOf_6 ?_
    refine lv_aload_n hx hb d_Md_leftOf_9 rfl (lv_at hl 0 rfl) ?_
    refine va_get (ci := 1) (C := R_Md) (T := T_Md) (N := 44) hx hb hts in_Md hown hK hP 6 kw_6 rfl 31 (by decide) (hts _ q_744) (fun _ h9 => h9) rfl d_Md_leftOf_10 ?_
    refine lv_iload_n hx hb d_Md_leftOf_13 rfl (lv_at hl 1 rfl) ?_
    obtain ⟨v1, ev1, hv1, h⟩ := k_ld_e h
    refine va_iald hx hb hK hP 53 0 kw_53 rfl hv1 d_Md_leftOf_14 (k_top ev1 ?_)
    obtain ⟨v2, ev2, hv2, h⟩ := k_ld_e h
    refine va_iald hx hb hK hP 36 0 kw_36 rfl hv2 d_Md_leftOf_15 (k_top ev2 ?_)
    refine lv_icmp_ge (tgt := 32) hx hb d_Md_leftOf_16 (by decide) (fun cn3 => ?_) (fun cn3 => ?_)
    · replace h := (if_pos cn3).symm.trans h
      refine lv_iload_n hx hb d_Md_leftOf_32 rfl (lv_at hl 2 rfl) ?_
      refine lv_aload_n hx hb d_Md_leftOf_33 rfl (lv_at hl 0 rfl) ?_
      refine va_get (ci := 1) (C := R_Md) (T := T_Md) (N := 44) hx hb hts in_Md hown hK hP 6 kw_6 rfl 33 (by decide) (hts _ q_746) (fun _ h9 => h9) rfl d_Md_leftOf_34 ?_
      refine lv_iload_n hx hb d_Md_leftOf_37 rfl (lv_at hl 1 rfl) ?_
      obtain ⟨v4, ev4, hv4, h⟩ := k_ld_e h
      refine va_iald hx hb hK hP 55 0 kw_55 rfl hv4 d_Md_leftOf_38 (k_top ev4 ?_)
      refine lv_iconst (v := (-1)) hx hb d_Md_leftOf_39 (by decide) ?_
      refine lv_ixor hx hb d_Md_leftOf_40 ?_
      refine lv_iand hx hb d_Md_leftOf_41 ?_
      cases h
      exact k_iret hx hb hr hlk hP hS d_Md_leftOf_42
    · replace h := (if_neg cn3).symm.trans h
      refine lv_iload_n hx hb d_Md_leftOf_19 rfl (lv_at hl 2 rfl) ?_
      refine lv_iload_n hx hb d_Md_leftOf_20 rfl (lv_at hl 3 rfl) ?_
      obtain ⟨v5, σ6, hc7, h⟩ := k_call_e h
      refine k_calli (va_runS (As := [.int x3]) (rest := [.int x2]) ⟨hx, hb, hml, hown, hts⟩ (K_Md_bit l D a c9 H.size hc7) (va_cwS 1 hts (k_gS q_933 q_934 q_7 q_935) rfl rfl rfl h_Md_bit.2 ⟨Nat.le_of_ble_eq_true rfl, Nat.le_of_ble_eq_true rfl⟩) (k_preS hP hK hN hD) rfl rfl hl.1 rfl (lv_room (Nat.le_of_ble_eq_true rfl)) d_Md_leftOf_21 ⟨Nat.zero_le _, Nat.zero_le _⟩) hD hS hA (fun H locs hP hD hS => ?_)
      refine lv_ior hx hb d_Md_leftOf_24 ?_
      obtain ⟨v8, ev8, h⟩ := k_let_e h
      refine k_top ev8 ?_
      refine lv_istore_n (lv' := [(2, .int v8), (0, .ref (a 6)), (1, .int x1), (3, .int x3)]) hx hb d_Md_leftOf_25 rfl hl (by decide) rfl (fun ls hl => ?_)
      obtain ⟨v9, ev9, h⟩ := k_let_e h
      refine lv_iinc (v := v9) (lv' := [(3, .int v9), (2, .int v8), (0, .ref (a 6)), (1, .int x1)]) hx hb d_Md_leftOf_26 hl (k := 3) rfl (by rw [ev9]; rfl) (by decide) rfl (fun ls hl => ?_)
      refine lv_goto (tgt := 4) hx hb d_Md_leftOf_29 (by decide) ?_
      exact ih _ _ _ _ H locs ls hP hD hS (lv_sub hl [2, 3, 1, 0] rfl) h
def M_Md_leftOf (σ : kS) (x1 : Int32) : Option (Int32 × kS) := M_Md_leftOf_4 k_fu σ x1 0 0
set_option maxHeartbeats 4000000 in
set_option maxRecDepth 100000 in
theorem B_Md_leftOf_0 {p : Program} {l : Launch} {e : Env} {s : State} {m : MethodId} {args : Array Value} {below : List Frame} {meth : Method} {c : Code} {D : va_G} {a : Nat → Nat} {c9 : Nat → ClassId} {A : Nat → Prop} {r9 : Int32} {σo : kS} (C0 : k_Cx D c9 p s m args meth c R_Md c_Md_leftOf 4 (some .int) A) (σ : kS) (x1 : Int32) (H : Heap) (locs : List Loc) (ls : Array Slot) (hP : va_P D kcl (kw a c9 σ) H) (hD : va_D A (kw a c9 σ)) (hS : va_S A s.heap H locs) (hl : lv_has ls 4 [(0, .ref (a 6)), (1, .int x1)]) (h : M_Md_leftOf σ x1 = some (r9, σo)) : W p l e rm_Md_leftOf s m args below meth c H locs 0 0 (MQ below (k_Qi D a c9 r9 σo A) args s 0 0 A) (F0 m 0 ls []) := by
  obtain ⟨hx, hb, hml, hown, hts, hr, hlk, hK, hN, hA⟩ := id C0
  unfold M_Md_leftOf at h
  refine lv_iconst (v := 0) hx hb d_Md_leftOf_0 (by decide) ?_
  refine lv_istore_n (lv' := [(2, .int 0), (0, .ref (a 6)), (1, .int x1)]) hx hb d_Md_leftOf_1 rfl hl (by decide) rfl (fun ls hl => ?_)
  refine lv_iconst (v := 0) hx hb d_Md_leftOf_2 (by decide) ?_
  refine lv_istore_n (lv' := [(3, .int 0), (2, .int 0), (0, .ref (a 6)), (1, .int x1)]) hx hb d_Md_leftOf_3 rfl hl (by decide) rfl (fun ls hl => ?_)
  exact B_Md_leftOf_4 C0 k_fu _ _ _ _ H locs ls hP hD hS (lv_sub hl [2, 3, 1, 0] rfl) h
theorem K_Md_leftOf (l : Launch) (D : va_G) (a : Nat → Nat) (c9 : Nat → ClassId) (sz : Nat) {σ : kS} {x1 : Int32} {r9 : Int32} {σo : kS} (h : M_Md_leftOf σ x1 = some (r9, σo)) : Met l y_Md_leftOf (Cond.code y_Md_leftOf c_Md_leftOf 4 (some .int) :: kG) rm_Md_leftOf (k_Pc D a c9 sz σ [.ref (a 6), .int x1]) (k_Qi D a c9 r9 σo (k_A a c9 σ sz)) 0 0 (k_A a c9 σ sz) :=
  k_met (Qf := k_Qi D a c9 r9 σo) (by decide) (Nat.le_of_ble_eq_true rfl) (fun p e s m args below meth c A ls C0 hP hD hS hl => B_Md_leftOf_0 C0 σ x1 s.heap [] ls hP hD hS hl h)
def rm_Md_firstOf : Room := { frames := 1, cells := 0, slots := 0, locals := 20 }
def M_Md_firstOf_7_b (self9 : kS → Int32 → Int32 → Int32 → Int32 → Int32 → Option (Int32 × kS)) (σ : kS) (x0 x1 x2 x3 x4 : Int32) : Option (Int32 × kS) := if 12 ≤ x4 then (some (x2, σ)) else (if x1 ≤ x3 then (some (x2, σ)) else (k_call (M_Md_bit σ x4) fun v3 σ4 => if (x0 &&& v3) = 0 then (k_let (x4 + 1) fun v7 => self9 σ4 x0 x1 x2 x3 v7) else (k_call (M_Md_bit σ4 x4) fun v8 σ9 => k_let ((x2 ||| v8)) fun v11 => k_let (x3 + 1) fun v12 => k_let (x4 + 1) fun v13 => self9 σ9 x0 x1 v11 v12 v13)))
def M_Md_firstOf_7 : Nat → kS → Int32 → Int32 → Int32 → Int32 → Int32 → Option (Int32 × kS)
  | 0 => fun _ _ _ _ _ _ => none
  | n + 1 => M_Md_firstOf_7_b (M_Md_firstOf_7 n)
set_option maxHeartbeats 4000000 in
set_option maxRecDepth 100000 in
theorem B_Md_firstOf_7 {p : Program} {l : Launch} {e : Env} {s : State} {m : MethodId} {args : Array Value} {below : List Frame} {meth : Method} {c : Code} {D : va_G} {a : Nat → Nat} {c9 : Nat → ClassId} {A : Nat → Prop} {r9 : Int32} {σo : kS} (C0 : k_Cx D c9 p s m args meth c R_Md c_Md_firstOf 5 (some .int) A) : ∀ (n : Nat) (σ : kS) (x0 x1 x2 x3 x4 : Int32) (H : Heap) (locs : List Loc) (ls : Array Slot), va_P D kcl (kw a c9 σ) H → va_D A (kw a c9 σ) → va_S A s.heap H locs → lv_has ls 5 [(0, .int x0), (1, .int x1), (2, .int x2), (3, .int x3), (4, .int x4)] → M_Md_firstOf_7 n σ x0 x1 x2 x3 x4 = some (r9, σo) → W p l e rm_Md_firstOf s m args below meth c H locs 0 0 (MQ below (k_Qi D a c9 r9 σo A) args s 0 0 A) (F0 m 7 ls []) := by
  obtain ⟨hx, hb, hml, hown, hts, hr, hlk, hK, hN, hA⟩ := id C0
  intro n
  induction n with
  | zero =>
    intro σ x0 x1 x2 x3 x4 H locs ls hP hD hS hl h
    replace h : (none : Option (Int32 × kS)) = some (r9, σo) := h
    cases h
  | succ n ih =>
    intro σ x0 x1 x2 x3 x4 H locs ls hP hD hS hl h
    replace h : M_Md_firstOf_7_b (M_Md_firstOf_7 n) σ x0 x1 x2 x3 x4 = some (r9, σo) := h
    unfold M_Md_firstOf_7_b at h
    refine lv_iload hx hb d_Md_firstOf_7 (lv_at hl 4 rfl) ?_
    refine lv_bipush (v := 12) hx hb d_Md_firstOf_9 (by decide) ?_
    refine lv_icmp_ge (tgt := 46) hx hb d_Md_firstOf_11 (by decide) (fun cn1 => ?_) (fun cn1 => ?_)
    · replace h := (if_pos cn1).symm.trans h
      refine lv_iload_n hx hb d_Md_firstOf_46 rfl (lv_at hl 2 rfl) ?_
      cases h
      exact k_iret hx hb hr hlk hP hS d_Md_firstOf_47
    · replace h := (if_neg cn1).symm.trans h
      refine lv_iload_n hx hb d_Md_firstOf_14 rfl (lv_at hl 3 rfl) ?_
      refine lv_iload_n hx hb d_Md_firstOf_15 rfl (lv_at hl 1 rfl) ?_
      refine lv_icmp_ge (tgt := 46) hx hb d_Md_firstOf_16 (by decide) (fun cn2 => ?_) (fun cn2 => ?_)
      · replace h := (if_pos cn2).symm.trans h
        refine lv_iload_n hx hb d_Md_firstOf_46 rfl (lv_at hl 2 rfl) ?_
        cases h
        exact k_iret hx hb hr hlk hP hS d_Md_firstOf_47
      · replace h := (if_neg cn2).symm.trans h
        refine lv_iload_n hx hb d_Md_firstOf_19 rfl (lv_at hl 0 rfl) ?_
        refine lv_iload hx hb d_Md_firstOf_20 (lv_at hl 4 rfl) ?_
        obtain ⟨v3, σ4, hc5, h⟩ := k_call_e h
        refine k_calli (va_runS (As := [.int x4]) (rest := [.int x0]) ⟨hx, hb, hml, hown, hts⟩ (K_Md_bit l D a c9 H.size hc5) (va_cwS 1 hts (k_gS q_933 q_934 q_7 q_935) rfl rfl rfl h_Md_bit.2 ⟨Nat.le_of_ble_eq_true rfl, Nat.le_of_ble_eq_true rfl⟩) (k_preS hP hK hN hD) rfl rfl hl.1 rfl (lv_room (Nat.le_of_ble_eq_true rfl)) d_Md_firstOf_22 ⟨Nat.zero_le _, Nat.zero_le _⟩) hD hS hA (fun H locs hP hD hS => ?_)
        refine lv_iand hx hb d_Md_firstOf_25 ?_
        refine lv_if_eq (tgt := 40) hx hb d_Md_firstOf_26 (by decide) (fun cn6 => ?_) (fun cn6 => ?_)
        · replace h := (if_pos cn6).symm.trans h
          obtain ⟨v7, ev7, h⟩ := k_let_e h
          refine lv_iinc (v := v7) (lv' := [(4, .int v7), (0, .int x0), (1, .int x1), (2, .int x2), (3, .int x3)]) hx hb d_Md_firstOf_40 hl (k := 4) rfl (by rw [ev7]; rfl) (by decide) rfl (fun ls hl => ?_)
          refine lv_goto (tgt := 7) hx hb d_Md_firstOf_43 (by decide) ?_
          exact ih _ _ _ _ _ _ H locs ls hP hD hS (lv_sub hl [1, 2, 3, 4, 0] rfl) h
        · replace h := (if_neg cn6).symm.trans h
          refine lv_iload_n hx hb d_Md_firstOf_29 rfl (lv_at hl 2 rfl) ?_
          refine lv_iload hx hb d_Md_firstOf_30 (lv_at hl 4 rfl) ?_
          obtain ⟨v8, σ9, hc10, h⟩ := k_call_e h
          refine k_calli (va_runS (As := [.int x4]) (rest := [.int x2]) ⟨hx, hb, hml, hown, hts⟩ (K_Md_bit l D a c9 H.size hc10) (va_cwS 1 hts (k_gS q_933 q_934 q_7 q_935) rfl rfl rfl h_Md_bit.2 ⟨Nat.le_of_ble_eq_true rfl, Nat.le_of_ble_eq_true rfl⟩) (k_preS hP hK hN hD) rfl rfl hl.1 rfl (lv_room (Nat.le_of_ble_eq_true rfl)) d_Md_firstOf_32 ⟨Nat.zero_le _, Nat.zero_le _⟩) hD hS hA (fun H locs hP hD hS => ?_)
          refine lv_ior hx hb d_Md_firstOf_35 ?_
          obtain ⟨v11, ev11, h⟩ := k_let_e h
          refine k_top ev11 ?_
          refine lv_istore_n (lv' := [(2, .int v11), (0, .int x0), (1, .int x1), (3, .int x3), (4, .int x4)]) hx hb d_Md_firstOf_36 rfl hl (by decide) rfl (fun ls hl => ?_)
          obtain ⟨v12, ev12, h⟩ := k_let_e h
          refine lv_iinc (v := v12) (lv' := [(3, .int v12), (2, .int v11), (0, .int x0), (1, .int x1), (4, .int x4)]) hx hb d_Md_firstOf_37 hl (k := 3) rfl (by rw [ev12]; rfl) (by decide) rfl (fun ls hl => ?_)
          obtain ⟨v13, ev13, h⟩ := k_let_e h
          refine lv_iinc (v := v13) (lv' := [(4, .int v13), (3, .int v12), (2, .int v11), (0, .int x0), (1, .int x1)]) hx hb d_Md_firstOf_40 hl (k := 4) rfl (by rw [ev13]; rfl) (by decide) rfl (fun ls hl => ?_)
          refine lv_goto (tgt := 7) hx hb d_Md_firstOf_43 (by decide) ?_
          exact ih _ _ _ _ _ _ H locs ls hP hD hS (lv_sub hl [3, 4, 2, 1, 0] rfl) h
def M_Md_firstOf (σ : kS) (x0 x1 : Int32) : Option (Int32 × kS) := M_Md_firstOf_7 k_fu σ x0 x1 0 0 0
set_option maxHeartbeats 4000000 in
set_option maxRecDepth 100000 in
theorem B_Md_firstOf_0 {p : Program} {l : Launch} {e : Env} {s : State} {m : MethodId} {args : Array Value} {below : List Frame} {meth : Method} {c : Code} {D : va_G} {a : Nat → Nat} {c9 : Nat → ClassId} {A : Nat → Prop} {r9 : Int32} {σo : kS} (C0 : k_Cx D c9 p s m args meth c R_Md c_Md_firstOf 5 (some .int) A) (σ : kS) (x0 x1 : Int32) (H : Heap) (locs : List Loc) (ls : Array Slot) (hP : va_P D kcl (kw a c9 σ) H) (hD : va_D A (kw a c9 σ)) (hS : va_S A s.heap H locs) (hl : lv_has ls 5 [(0, .int x0), (1, .int x1)]) (h : M_Md_firstOf σ x0 x1 = some (r9, σo)) : W p l e rm_Md_firstOf s m args below meth c H locs 0 0 (MQ below (k_Qi D a c9 r9 σo A) args s 0 0 A) (F0 m 0 ls []) := by
  obtain ⟨hx, hb, hml, hown, hts, hr, hlk, hK, hN, hA⟩ := id C0
  unfold M_Md_firstOf at h
  refine lv_iconst (v := 0) hx hb d_Md_firstOf_0 (by decide) ?_
  refine lv_istore_n (lv' := [(2, .int 0), (0, .int x0), (1, .int x1)]) hx hb d_Md_firstOf_1 rfl hl (by decide) rfl (fun ls hl => ?_)
  refine lv_iconst (v := 0) hx hb d_Md_firstOf_2 (by decide) ?_
  refine lv_istore_n (lv' := [(3, .int 0), (2, .int 0), (0, .int x0), (1, .int x1)]) hx hb d_Md_firstOf_3 rfl hl (by decide) rfl (fun ls hl => ?_)
  refine lv_iconst (v := 0) hx hb d_Md_firstOf_4 (by decide) ?_
  refine lv_istore (lv' := [(4, .int 0), (3, .int 0), (2, .int 0), (0, .int x0), (1, .int x1)]) hx hb d_Md_firstOf_5 hl (by decide) rfl (fun ls hl => ?_)
  exact B_Md_firstOf_7 C0 k_fu _ _ _ _ _ _ H locs ls hP hD hS (lv_sub hl [3, 4, 2, 1, 0] rfl) h
theorem K_Md_firstOf (l : Launch) (D : va_G) (a : Nat → Nat) (c9 : Nat → ClassId) (sz : Nat) {σ : kS} {x0 x1 : Int32} {r9 : Int32} {σo : kS} (h : M_Md_firstOf σ x0 x1 = some (r9, σo)) : Met l y_Md_firstOf (Cond.code y_Md_firstOf c_Md_firstOf 5 (some .int) :: kG) rm_Md_firstOf (k_Pc D a c9 sz σ [.int x0, .int x1]) (k_Qi D a c9 r9 σo (k_A a c9 σ sz)) 0 0 (k_A a c9 σ sz) :=
  k_met (Qf := k_Qi D a c9 r9 σo) (by decide) (Nat.le_of_ble_eq_true rfl) (fun p e s m args below meth c A ls C0 hP hD hS hl => B_Md_firstOf_0 C0 σ x0 x1 s.heap [] ls hP hD hS hl h)
def rm_Md_takenNext : Room := { frames := 2, cells := 0, slots := 0, locals := 44 }
def M_Md_takenNext_86 (rec56 : kS → Int32 → Int32 → Int32 → Int32 → Int32 → Int32 → Option (Int32 × kS)) (σ : kS) (x1 x2 x3 x4 x5 x6 y0 : Int32) : Option (Int32 × kS) := k_call (M_Md_bit σ x6) fun v1 σ2 => if (x4 &&& v1) = 0 then (k_let (x6 + 1) fun v5 => rec56 σ2 x1 x2 x3 x4 x5 v5) else (if y0 = 0 then (k_let (x6 + 1) fun v7 => rec56 σ2 x1 x2 x3 x4 x5 v7) else (k_call (M_Md_bit σ2 x6) fun v8 σ9 => some (v8, σ9)))
set_option maxHeartbeats 4000000 in
set_option maxRecDepth 100000 in
theorem B_Md_takenNext_86 {p : Program} {l : Launch} {e : Env} {s : State} {m : MethodId} {args : Array Value} {below : List Frame} {meth : Method} {c : Code} {D : va_G} {a : Nat → Nat} {c9 : Nat → ClassId} {A : Nat → Prop} {r9 : Int32} {σo : kS} (C0 : k_Cx D c9 p s m args meth c R_Md c_Md_takenNext 8 (some .int) A) {rec56 : kS → Int32 → Int32 → Int32 → Int32 → Int32 → Int32 → Option (Int32 × kS)} (hrec56 : ∀ (σ : kS) (x1 x2 x3 x4 x5 x6 : Int32) (H : Heap) (locs : List Loc) (ls : Array Slot), va_P D kcl (kw a c9 σ) H → va_D A (kw a c9 σ) → va_S A s.heap H locs → lv_has ls 8 [(0, .ref (a 6)), (1, .int x1), (2, .int x2), (3, .int x3), (4, .int x4), (5, .int x5), (6, .int x6)] → rec56 σ x1 x2 x3 x4 x5 x6 = some (r9, σo) → W p l e rm_Md_takenNext s m args below meth c H locs 0 0 (MQ below (k_Qi D a c9 r9 σo A) args s 0 0 A) (F0 m 56 ls [])) (σ : kS) (x1 x2 x3 x4 x5 x6 y0 : Int32) (H : Heap) (locs : List Loc) (ls : Array Slot) (hP : va_P D kcl (kw a c9 σ) H) (hD : va_D A (kw a c9 σ)) (hS : va_S A s.heap H locs) (hl : lv_has ls 8 [(0, .ref (a 6)), (1, .int x1), (2, .int x2), (3, .int x3), (4, .int x4), (5, .int x5), (6, .int x6)]) (h : M_Md_takenNext_86 rec56 σ x1 x2 x3 x4 x5 x6 y0 = some (r9, σo)) : W p l e rm_Md_takenNext s m args below meth c H locs 0 0 (MQ below (k_Qi D a c9 r9 σo A) args s 0 0 A) (F0 m 86 ls [.int y0]) := by
  obtain ⟨hx, hb, hml, hown, hts, hr, hlk, hK, hN, hA⟩ := id C0
  unfold M_Md_takenNext_86 at h
  refine lv_istore (lv' := [(7, .int y0), (0, .ref (a 6)), (1, .int x1), (2, .int x2), (3, .int x3), (4, .int x4), (5, .int x5), (6, .int x6)]) hx hb d_Md_takenNext_86 hl (by decide) rfl (fun ls hl => ?_)
  refine lv_iload hx hb d_Md_takenNext_88 (lv_at hl 5 rfl) ?_
  refine lv_iload hx hb d_Md_takenNext_90 (lv_at hl 7 rfl) ?_
  obtain ⟨v1, σ2, hc3, h⟩ := k_call_e h
  refine k_calli (va_runS (As := [.int x6]) (rest := [.int x4]) ⟨hx, hb, hml, hown, hts⟩ (K_Md_bit l D a c9 H.size hc3) (va_cwS 1 hts (k_gS q_933 q_934 q_7 q_935) rfl rfl rfl h_Md_bit.2 ⟨Nat.le_of_ble_eq_true rfl, Nat.le_of_ble_eq_true rfl⟩) (k_preS hP hK hN hD) rfl rfl hl.1 rfl (lv_room (Nat.le_of_ble_eq_true rfl)) d_Md_takenNext_92 ⟨Nat.zero_le _, Nat.zero_le _⟩) hD hS hA (fun H locs hP hD hS => ?_)
  refine lv_iand hx hb d_Md_takenNext_95 ?_
  refine lv_if_eq (tgt := 110) hx hb d_Md_takenNext_96 (by decide) (fun cn4 => ?_) (fun cn4 => ?_)
  · replace h := (if_pos cn4).symm.trans h
    obtain ⟨v5, ev5, h⟩ := k_let_e h
    refine lv_iinc (v := v5) (lv' := [(6, .int v5), (7, .int y0), (0, .ref (a 6)), (1, .int x1), (2, .int x2), (3, .int x3), (4, .int x4), (5, .int x5)]) hx hb d_Md_takenNext_110 hl (k := 7) rfl (by rw [ev5]; rfl) (by decide) rfl (fun ls hl => ?_)
    refine lv_goto (tgt := 56) hx hb d_Md_takenNext_113 (by decide) ?_
    exact hrec56 _ _ _ _ _ _ _ H locs ls hP hD hS (lv_sub hl [2, 3, 4, 5, 6, 7, 0] rfl) h
  · replace h := (if_neg cn4).symm.trans h
    refine lv_iload hx hb d_Md_takenNext_99 (lv_at hl 0 rfl) ?_
    refine lv_if_eq (tgt := 110) hx hb d_Md_takenNext_101 (by decide) (fun cn6 => ?_) (fun cn6 => ?_)
    · replace h := (if_pos cn6).symm.trans h
      obtain ⟨v7, ev7, h⟩ := k_let_e h
      refine lv_iinc (v := v7) (lv' := [(6, .int v7), (7, .int y0), (0, .ref (a 6)), (1, .int x1), (2, .int x2), (3, .int x3), (4, .int x4), (5, .int x5)]) hx hb d_Md_takenNext_110 hl (k := 7) rfl (by rw [ev7]; rfl) (by decide) rfl (fun ls hl => ?_)
      refine lv_goto (tgt := 56) hx hb d_Md_takenNext_113 (by decide) ?_
      exact hrec56 _ _ _ _ _ _ _ H locs ls hP hD hS (lv_sub hl [2, 3, 4, 5, 6, 7, 0] rfl) h
    · replace h := (if_neg cn6).symm.trans h
      refine lv_iload hx hb d_Md_takenNext_104 (lv_at hl 7 rfl) ?_
      obtain ⟨v8, σ9, hc10, h⟩ := k_call_e h
      refine k_calli (va_runS (As := [.int x6]) (rest := []) ⟨hx, hb, hml, hown, hts⟩ (K_Md_bit l D a c9 H.size hc10) (va_cwS 1 hts (k_gS q_933 q_934 q_7 q_935) rfl rfl rfl h_Md_bit.2 ⟨Nat.le_of_ble_eq_true rfl, Nat.le_of_ble_eq_true rfl⟩) (k_preS hP hK hN hD) rfl rfl hl.1 rfl (lv_room (Nat.le_of_ble_eq_true rfl)) d_Md_takenNext_106 ⟨Nat.zero_le _, Nat.zero_le _⟩) hD hS hA (fun H locs hP hD hS => ?_)
      cases h
      exact k_iret hx hb hr hlk hP hS d_Md_takenNext_109
def M_Md_takenNext_81 (rec56 : kS → Int32 → Int32 → Int32 → Int32 → Int32 → Int32 → Option (Int32 × kS)) (σ : kS) (x1 x2 x3 x4 x5 x6 : Int32) : Option (Int32 × kS) := M_Md_takenNext_86 rec56 σ x1 x2 x3 x4 x5 x6 1
set_option maxHeartbeats 4000000 in
set_option maxRecDepth 100000 in
theorem B_Md_takenNext_81 {p : Program} {l : Launch} {e : Env} {s : State} {m : MethodId} {args : Array Value} {below : List Frame} {meth : Method} {c : Code} {D : va_G} {a : Nat → Nat} {c9 : Nat → ClassId} {A : Nat → Prop} {r9 : Int32} {σo : kS} (C0 : k_Cx D c9 p s m args meth c R_Md c_Md_takenNext 8 (some .int) A) {rec56 : kS → Int32 → Int32 → Int32 → Int32 → Int32 → Int32 → Option (Int32 × kS)} (hrec56 : ∀ (σ : kS) (x1 x2 x3 x4 x5 x6 : Int32) (H : Heap) (locs : List Loc) (ls : Array Slot), va_P D kcl (kw a c9 σ) H → va_D A (kw a c9 σ) → va_S A s.heap H locs → lv_has ls 8 [(0, .ref (a 6)), (1, .int x1), (2, .int x2), (3, .int x3), (4, .int x4), (5, .int x5), (6, .int x6)] → rec56 σ x1 x2 x3 x4 x5 x6 = some (r9, σo) → W p l e rm_Md_takenNext s m args below meth c H locs 0 0 (MQ below (k_Qi D a c9 r9 σo A) args s 0 0 A) (F0 m 56 ls [])) (σ : kS) (x1 x2 x3 x4 x5 x6 : Int32) (H : Heap) (locs : List Loc) (ls : Array Slot) (hP : va_P D kcl (kw a c9 σ) H) (hD : va_D A (kw a c9 σ)) (hS : va_S A s.heap H locs) (hl : lv_has ls 8 [(0, .ref (a 6)), (1, .int x1), (2, .int x2), (3, .int x3), (4, .int x4), (5, .int x5), (6, .int x6)]) (h : M_Md_takenNext_81 rec56 σ x1 x2 x3 x4 x5 x6 = some (r9, σo)) : W p l e rm_Md_takenNext s m args below meth c H locs 0 0 (MQ below (k_Qi D a c9 r9 σo A) args s 0 0 A) (F0 m 81 ls []) := by
  obtain ⟨hx, hb, hml, hown, hts, hr, hlk, hK, hN, hA⟩ := id C0
  unfold M_Md_takenNext_81 at h
  refine lv_iconst (v := 1) hx hb d_Md_takenNext_81 (by decide) ?_
  refine lv_goto (tgt := 86) hx hb d_Md_takenNext_82 (by decide) ?_
  exact B_Md_takenNext_86 C0 hrec56 _ _ _ _ _ _ _ _ H locs ls hP hD hS (lv_sub hl [0, 1, 2, 3, 4, 5, 6] rfl) h
def M_Md_takenNext_85 (rec56 : kS → Int32 → Int32 → Int32 → Int32 → Int32 → Int32 → Option (Int32 × kS)) (σ : kS) (x1 x2 x3 x4 x5 x6 : Int32) : Option (Int32 × kS) := M_Md_takenNext_86 rec56 σ x1 x2 x3 x4 x5 x6 0
set_option maxHeartbeats 4000000 in
set_option maxRecDepth 100000 in
theorem B_Md_takenNext_85 {p : Program} {l : Launch} {e : Env} {s : State} {m : MethodId} {args : Array Value} {below : List Frame} {meth : Method} {c : Code} {D : va_G} {a : Nat → Nat} {c9 : Nat → ClassId} {A : Nat → Prop} {r9 : Int32} {σo : kS} (C0 : k_Cx D c9 p s m args meth c R_Md c_Md_takenNext 8 (some .int) A) {rec56 : kS → Int32 → Int32 → Int32 → Int32 → Int32 → Int32 → Option (Int32 × kS)} (hrec56 : ∀ (σ : kS) (x1 x2 x3 x4 x5 x6 : Int32) (H : Heap) (locs : List Loc) (ls : Array Slot), va_P D kcl (kw a c9 σ) H → va_D A (kw a c9 σ) → va_S A s.heap H locs → lv_has ls 8 [(0, .ref (a 6)), (1, .int x1), (2, .int x2), (3, .int x3), (4, .int x4), (5, .int x5), (6, .int x6)] → rec56 σ x1 x2 x3 x4 x5 x6 = some (r9, σo) → W p l e rm_Md_takenNext s m args below meth c H locs 0 0 (MQ below (k_Qi D a c9 r9 σo A) args s 0 0 A) (F0 m 56 ls [])) (σ : kS) (x1 x2 x3 x4 x5 x6 : Int32) (H : Heap) (locs : List Loc) (ls : Array Slot) (hP : va_P D kcl (kw a c9 σ) H) (hD : va_D A (kw a c9 σ)) (hS : va_S A s.heap H locs) (hl : lv_has ls 8 [(0, .ref (a 6)), (1, .int x1), (2, .int x2), (3, .int x3), (4, .int x4), (5, .int x5), (6, .int x6)]) (h : M_Md_takenNext_85 rec56 σ x1 x2 x3 x4 x5 x6 = some (r9, σo)) : W p l e rm_Md_takenNext s m args below meth c H locs 0 0 (MQ below (k_Qi D a c9 r9 σo A) args s 0 0 A) (F0 m 85 ls []) := by
  obtain ⟨hx, hb, hml, hown, hts, hr, hlk, hK, hN, hA⟩ := id C0
  unfold M_Md_takenNext_85 at h
  refine lv_iconst (v := 0) hx hb d_Md_takenNext_85 (by decide) ?_
  exact B_Md_takenNext_86 C0 hrec56 _ _ _ _ _ _ _ _ H locs ls hP hD hS (lv_sub hl [0, 1, 2, 3, 4, 5, 6] rfl) h
def M_Md_takenNext_56_b (self9 : kS → Int32 → Int32 → Int32 → Int32 → Int32 → Int32 → Option (Int32 × kS)) (σ : kS) (x1 x2 x3 x4 x5 x6 : Int32) : Option (Int32 × kS) := if 12 ≤ x6 then (some ((-1), σ)) else (if x2 < 0 then (M_Md_takenNext_81 self9 σ x1 x2 x3 x4 x5 x6) else (if x5 = 0 then (M_Md_takenNext_85 self9 σ x1 x2 x3 x4 x5 x6) else (k_call (M_Md_bit σ x6) fun v4 σ5 => if x2 ≤ v4 then (M_Md_takenNext_85 self9 σ5 x1 x2 x3 x4 x5 x6) else (M_Md_takenNext_81 self9 σ5 x1 x2 x3 x4 x5 x6))))
def M_Md_takenNext_56 : Nat → kS → Int32 → Int32 → Int32 → Int32 → Int32 → Int32 → Option (Int32 × kS)
  | 0 => fun _ _ _ _ _ _ _ => none
  | n + 1 => M_Md_takenNext_56_b (M_Md_takenNext_56 n)
set_option maxHeartbeats 4000000 in
set_option maxRecDepth 100000 in
theorem B_Md_takenNext_56 {p : Program} {l : Launch} {e : Env} {s : State} {m : MethodId} {args : Array Value} {below : List Frame} {meth : Method} {c : Code} {D : va_G} {a : Nat → Nat} {c9 : Nat → ClassId} {A : Nat → Prop} {r9 : Int32} {σo : kS} (C0 : k_Cx D c9 p s m args meth c R_Md c_Md_takenNext 8 (some .int) A) : ∀ (n : Nat) (σ : kS) (x1 x2 x3 x4 x5 x6 : Int32) (H : Heap) (locs : List Loc) (ls : Array Slot), va_P D kcl (kw a c9 σ) H → va_D A (kw a c9 σ) → va_S A s.heap H locs → lv_has ls 8 [(0, .ref (a 6)), (1, .int x1), (2, .int x2), (3, .int x3), (4, .int x4), (5, .int x5), (6, .int x6)] → M_Md_takenNext_56 n σ x1 x2 x3 x4 x5 x6 = some (r9, σo) → W p l e rm_Md_takenNext s m args below meth c H locs 0 0 (MQ below (k_Qi D a c9 r9 σo A) args s 0 0 A) (F0 m 56 ls []) := by
  obtain ⟨hx, hb, hml, hown, hts, hr, hlk, hK, hN, hA⟩ := id C0
  intro n
  induction n with
  | zero =>
    intro σ x1 x2 x3 x4 x5 x6 H locs ls hP hD hS hl h
    replace h : (none : Option (Int32 × kS)) = some (r9, σo) := h
    cases h
  | succ n ih =>
    intro σ x1 x2 x3 x4 x5 x6 H locs ls hP hD hS hl h
    replace h : M_Md_takenNext_56_b (M_Md_takenNext_56 n) σ x1 x2 x3 x4 x5 x6 = some (r9, σo) := h
    unfold M_Md_takenNext_56_b at h
    refine lv_iload hx hb d_Md_takenNext_56 (lv_at hl 6 rfl) ?_
    refine lv_bipush (v := 12) hx hb d_Md_takenNext_58 (by decide) ?_
    refine lv_icmp_ge (tgt := 116) hx hb d_Md_takenNext_60 (by decide) (fun cn1 => ?_) (fun cn1 => ?_)
    · replace h := (if_pos cn1).symm.trans h
      refine lv_iconst (v := (-1)) hx hb d_Md_takenNext_116 (by decide) ?_
      cases h
      exact k_iret hx hb hr hlk hP hS d_Md_takenNext_117
    · replace h := (if_neg cn1).symm.trans h
      refine lv_iload_n hx hb d_Md_takenNext_63 rfl (lv_at hl 2 rfl) ?_
      refine lv_if_lt (tgt := 81) hx hb d_Md_takenNext_64 (by decide) (fun cn2 => ?_) (fun cn2 => ?_)
      · replace h := (if_pos cn2).symm.trans h
        exact B_Md_takenNext_81 C0 ih _ _ _ _ _ _ _ H locs ls hP hD hS (lv_sub hl [0, 1, 2, 3, 4, 5, 6] rfl) h
      · replace h := (if_neg cn2).symm.trans h
        refine lv_iload hx hb d_Md_takenNext_67 (lv_at hl 5 rfl) ?_
        refine lv_if_eq (tgt := 85) hx hb d_Md_takenNext_69 (by decide) (fun cn3 => ?_) (fun cn3 => ?_)
        · replace h := (if_pos cn3).symm.trans h
          exact B_Md_takenNext_85 C0 ih _ _ _ _ _ _ _ H locs ls hP hD hS (lv_sub hl [0, 1, 2, 3, 4, 5, 6] rfl) h
        · replace h := (if_neg cn3).symm.trans h
          refine lv_iload hx hb d_Md_takenNext_72 (lv_at hl 6 rfl) ?_
          obtain ⟨v4, σ5, hc6, h⟩ := k_call_e h
          refine k_calli (va_runS (As := [.int x6]) (rest := []) ⟨hx, hb, hml, hown, hts⟩ (K_Md_bit l D a c9 H.size hc6) (va_cwS 1 hts (k_gS q_933 q_934 q_7 q_935) rfl rfl rfl h_Md_bit.2 ⟨Nat.le_of_ble_eq_true rfl, Nat.le_of_ble_eq_true rfl⟩) (k_preS hP hK hN hD) rfl rfl hl.1 rfl (lv_room (Nat.le_of_ble_eq_true rfl)) d_Md_takenNext_74 ⟨Nat.zero_le _, Nat.zero_le _⟩) hD hS hA (fun H locs hP hD hS => ?_)
          refine lv_iload_n hx hb d_Md_takenNext_77 rfl (lv_at hl 2 rfl) ?_
          refine lv_icmp_ge (tgt := 85) hx hb d_Md_takenNext_78 (by decide) (fun cn7 => ?_) (fun cn7 => ?_)
          · replace h := (if_pos cn7).symm.trans h
            exact B_Md_takenNext_85 C0 ih _ _ _ _ _ _ _ H locs ls hP hD hS (lv_sub hl [0, 1, 2, 3, 4, 5, 6] rfl) h
          · replace h := (if_neg cn7).symm.trans h
            exact B_Md_takenNext_81 C0 ih _ _ _ _ _ _ _ H locs ls hP hD hS (lv_sub hl [0, 1, 2, 3, 4, 5, 6] rfl) h
def M_Md_takenNext_165 (σ : kS) (x1 x2 x3 x4 x5 x6 y0 : Int32) : Option (Int32 × kS) := k_call (M_Md_bits σ x4) fun v1 σ2 => if y0 ≤ v1 then (k_call (M_Md_firstOf σ2 x4 y0) fun v5 σ6 => some (v5, σ6)) else (some ((-1), σ2))
set_option maxHeartbeats 4000000 in
set_option maxRecDepth 100000 in
theorem B_Md_takenNext_165 {p : Program} {l : Launch} {e : Env} {s : State} {m : MethodId} {args : Array Value} {below : List Frame} {meth : Method} {c : Code} {D : va_G} {a : Nat → Nat} {c9 : Nat → ClassId} {A : Nat → Prop} {r9 : Int32} {σo : kS} (C0 : k_Cx D c9 p s m args meth c R_Md c_Md_takenNext 8 (some .int) A) (σ : kS) (x1 x2 x3 x4 x5 x6 y0 : Int32) (H : Heap) (locs : List Loc) (ls : Array Slot) (hP : va_P D kcl (kw a c9 σ) H) (hD : va_D A (kw a c9 σ)) (hS : va_S A s.heap H locs) (hl : lv_has ls 8 [(0, .ref (a 6)), (1, .int x1), (2, .int x2), (3, .int x3), (4, .int x4), (5, .int x5), (6, .int x6)]) (h : M_Md_takenNext_165 σ x1 x2 x3 x4 x5 x6 y0 = some (r9, σo)) : W p l e rm_Md_takenNext s m args below meth c H locs 0 0 (MQ below (k_Qi D a c9 r9 σo A) args s 0 0 A) (F0 m 165 ls [.int y0]) := by
  obtain ⟨hx, hb, hml, hown, hts, hr, hlk, hK, hN, hA⟩ := id C0
  unfold M_Md_takenNext_165 at h
  refine lv_istore (lv' := [(7, .int y0), (0, .ref (a 6)), (1, .int x1), (2, .int x2), (3, .int x3), (4, .int x4), (5, .int x5), (6, .int x6)]) hx hb d_Md_takenNext_165 hl (by decide) rfl (fun ls hl => ?_)
  refine lv_iload hx hb d_Md_takenNext_167 (lv_at hl 0 rfl) ?_
  refine lv_iload hx hb d_Md_takenNext_169 (lv_at hl 5 rfl) ?_
  obtain ⟨v1, σ2, hc3, h⟩ := k_call_e h
  refine k_calli (va_runS (As := [.int x4]) (rest := [.int y0]) ⟨hx, hb, hml, hown, hts⟩ (K_Md_bits l D a c9 H.size hc3) (va_cwS 1 hts (k_gS q_940 q_941 q_7 q_942) rfl rfl rfl h_Md_bits.2 ⟨Nat.le_of_ble_eq_true rfl, Nat.le_of_ble_eq_true rfl⟩) (k_preS hP hK hN hD) rfl rfl hl.1 rfl (lv_room (Nat.le_of_ble_eq_true rfl)) d_Md_takenNext_171 ⟨Nat.zero_le _, Nat.zero_le _⟩) hD hS hA (fun H locs hP hD hS => ?_)
  refine lv_icmp_le (tgt := 181) hx hb d_Md_takenNext_174 (by decide) (fun cn4 => ?_) (fun cn4 => ?_)
  · replace h := (if_pos cn4).symm.trans h
    refine lv_iload hx hb d_Md_takenNext_181 (lv_at hl 5 rfl) ?_
    refine lv_iload hx hb d_Md_takenNext_183 (lv_at hl 0 rfl) ?_
    obtain ⟨v5, σ6, hc7, h⟩ := k_call_e h
    refine k_calli (va_runS (As := [.int x4, .int y0]) (rest := []) ⟨hx, hb, hml, hown, hts⟩ (K_Md_firstOf l D a c9 H.size hc7) (va_cwS 2 hts (k_gS q_943 q_944 q_7 q_945) rfl rfl rfl h_Md_firstOf.2 ⟨Nat.le_of_ble_eq_true rfl, Nat.le_of_ble_eq_true rfl⟩) (k_preS hP hK hN hD) rfl rfl hl.1 rfl (lv_room (Nat.le_of_ble_eq_true rfl)) d_Md_takenNext_185 ⟨Nat.zero_le _, Nat.zero_le _⟩) hD hS hA (fun H locs hP hD hS => ?_)
    cases h
    exact k_iret hx hb hr hlk hP hS d_Md_takenNext_188
  · replace h := (if_neg cn4).symm.trans h
    refine lv_iconst (v := (-1)) hx hb d_Md_takenNext_177 (by decide) ?_
    refine lv_goto (tgt := 188) hx hb d_Md_takenNext_178 (by decide) ?_
    cases h
    exact k_iret hx hb hr hlk hP hS d_Md_takenNext_188
def M_Md_takenNext_220_b (self9 : kS → Int32 → Int32 → Int32 → Int32 → Int32 → Int32 → Int32 → Option (Int32 × kS)) (σ : kS) (x1 x2 x3 x4 x5 x6 x7 : Int32) : Option (Int32 × kS) := if x7 < 0 then (k_call (M_Md_bits σ x4) fun v2 σ3 => if (x6 + 1) ≤ v2 then (k_call (M_Md_firstOf σ3 x4 ((x6 + 1))) fun v6 σ7 => some (v6, σ7)) else (some ((-1), σ3))) else (if (x7 &&& (x4 ^^^ (-1))) = 0 then (k_call (M_Md_bits σ x7) fun v11 σ12 => if v11 = x6 then (some (x7, σ12)) else (k_let (x7 + (-1)) fun v15 => self9 σ12 x1 x2 x3 x4 x5 x6 v15)) else (k_let (x7 + (-1)) fun v10 => self9 σ x1 x2 x3 x4 x5 x6 v10))
def M_Md_takenNext_220 : Nat → kS → Int32 → Int32 → Int32 → Int32 → Int32 → Int32 → Int32 → Option (Int32 × kS)
  | 0 => fun _ _ _ _ _ _ _ _ => none
  | n + 1 => M_Md_takenNext_220_b (M_Md_takenNext_220 n)
set_option maxHeartbeats 4000000 in
set_option maxRecDepth 100000 in
theorem B_Md_takenNext_220 {p : Program} {l : Launch} {e : Env} {s : State} {m : MethodId} {args : Array Value} {below : List Frame} {meth : Method} {c : Code} {D : va_G} {a : Nat → Nat} {c9 : Nat → ClassId} {A : Nat → Prop} {r9 : Int32} {σo : kS} (C0 : k_Cx D c9 p s m args meth c R_Md c_Md_takenNext 8 (some .int) A) : ∀ (n : Nat) (σ : kS) (x1 x2 x3 x4 x5 x6 x7 : Int32) (H : Heap) (locs : List Loc) (ls : Array Slot), va_P D kcl (kw a c9 σ) H → va_D A (kw a c9 σ) → va_S A s.heap H locs → lv_has ls 8 [(0, .ref (a 6)), (1, .int x1), (2, .int x2), (3, .int x3), (4, .int x4), (5, .int x5), (6, .int x6), (7, .int x7)] → M_Md_takenNext_220 n σ x1 x2 x3 x4 x5 x6 x7 = some (r9, σo) → W p l e rm_Md_takenNext s m args below meth c H locs 0 0 (MQ below (k_Qi D a c9 r9 σo A) args s 0 0 A) (F0 m 220 ls []) := by
  obtain ⟨hx, hb, hml, hown, hts, hr, hlk, hK, hN, hA⟩ := id C0
  intro n
  induction n with
  | zero =>
    intro σ x1 x2 x3 x4 x5 x6 x7 H locs ls hP hD hS hl h
    replace h : (none : Option (Int32 × kS)) = some (r9, σo) := h
    cases h
  | succ n ih =>
    intro σ x1 x2 x3 x4 x5 x6 x7 H locs ls hP hD hS hl h
    replace h : M_Md_takenNext_220_b (M_Md_takenNext_220 n) σ x1 x2 x3 x4 x5 x6 x7 = some (r9, σo) := h
    unfold M_Md_takenNext_220_b at h
    refine lv_iload hx hb d_Md_takenNext_220 (lv_at hl 7 rfl) ?_
    refine lv_if_lt (tgt := 254) hx hb d_Md_takenNext_222 (by decide) (fun cn1 => ?_) (fun cn1 => ?_)
    · replace h := (if_pos cn1).symm.trans h
      refine lv_iload hx hb d_Md_takenNext_254 (lv_at hl 6 rfl) ?_
      refine lv_iconst (v := 1) hx hb d_Md_takenNext_256 (by decide) ?_
      refine lv_iadd hx hb d_Md_takenNext_257 ?_
      refine lv_iload hx hb d_Md_takenNext_258 (lv_at hl 4 rfl) ?_
      obtain ⟨v2, σ3, hc4, h⟩ := k_call_e h
      refine k_calli (va_runS (As := [.int x4]) (rest := [.int ((x6 + 1))]) ⟨hx, hb, hml, hown, hts⟩ (K_Md_bits l D a c9 H.size hc4) (va_cwS 1 hts (k_gS q_940 q_941 q_7 q_942) rfl rfl rfl h_Md_bits.2 ⟨Nat.le_of_ble_eq_true rfl, Nat.le_of_ble_eq_true rfl⟩) (k_preS hP hK hN hD) rfl rfl hl.1 rfl (lv_room (Nat.le_of_ble_eq_true rfl)) d_Md_takenNext_260 ⟨Nat.zero_le _, Nat.zero_le _⟩) hD hS hA (fun H locs hP hD hS => ?_)
      refine lv_icmp_le (tgt := 270) hx hb d_Md_takenNext_263 (by decide) (fun cn5 => ?_) (fun cn5 => ?_)
      · replace h := (if_pos cn5).symm.trans h
        refine lv_iload hx hb d_Md_takenNext_270 (lv_at hl 4 rfl) ?_
        refine lv_iload hx hb d_Md_takenNext_272 (lv_at hl 6 rfl) ?_
        refine lv_iconst (v := 1) hx hb d_Md_takenNext_274 (by decide) ?_
        refine lv_iadd hx hb d_Md_takenNext_275 ?_
        obtain ⟨v6, σ7, hc8, h⟩ := k_call_e h
        refine k_calli (va_runS (As := [.int x4, .int ((x6 + 1))]) (rest := []) ⟨hx, hb, hml, hown, hts⟩ (K_Md_firstOf l D a c9 H.size hc8) (va_cwS 2 hts (k_gS q_943 q_944 q_7 q_945) rfl rfl rfl h_Md_firstOf.2 ⟨Nat.le_of_ble_eq_true rfl, Nat.le_of_ble_eq_true rfl⟩) (k_preS hP hK hN hD) rfl rfl hl.1 rfl (lv_room (Nat.le_of_ble_eq_true rfl)) d_Md_takenNext_276 ⟨Nat.zero_le _, Nat.zero_le _⟩) hD hS hA (fun H locs hP hD hS => ?_)
        cases h
        exact k_iret hx hb hr hlk hP hS d_Md_takenNext_279
      · replace h := (if_neg cn5).symm.trans h
        refine lv_iconst (v := (-1)) hx hb d_Md_takenNext_266 (by decide) ?_
        refine lv_goto (tgt := 279) hx hb d_Md_takenNext_267 (by decide) ?_
        cases h
        exact k_iret hx hb hr hlk hP hS d_Md_takenNext_279
    · replace h := (if_neg cn1).symm.trans h
      refine lv_iload hx hb d_Md_takenNext_225 (lv_at hl 7 rfl) ?_
      refine lv_iload hx hb d_Md_takenNext_227 (lv_at hl 4 rfl) ?_
      refine lv_iconst (v := (-1)) hx hb d_Md_takenNext_229 (by decide) ?_
      refine lv_ixor hx hb d_Md_takenNext_230 ?_
      refine lv_iand hx hb d_Md_takenNext_231 ?_
      refine lv_if_ne (tgt := 248) hx hb d_Md_takenNext_232 (by decide) (fun cn9 => ?_) (fun cn9 => ?_)
      · replace h := (if_neg cn9).symm.trans h
        obtain ⟨v10, ev10, h⟩ := k_let_e h
        refine lv_iinc (v := v10) (lv' := [(7, .int v10), (0, .ref (a 6)), (1, .int x1), (2, .int x2), (3, .int x3), (4, .int x4), (5, .int x5), (6, .int x6)]) hx hb d_Md_takenNext_248 hl (k := 7) rfl (by rw [ev10]; rfl) (by decide) rfl (fun ls hl => ?_)
        refine lv_goto (tgt := 220) hx hb d_Md_takenNext_251 (by decide) ?_
        exact ih _ _ _ _ _ _ _ _ H locs ls hP hD hS (lv_sub hl [1, 2, 3, 4, 5, 6, 7, 0] rfl) h
      · replace h := (if_pos cn9).symm.trans h
        refine lv_iload hx hb d_Md_takenNext_235 (lv_at hl 7 rfl) ?_
        obtain ⟨v11, σ12, hc13, h⟩ := k_call_e h
        refine k_calli (va_runS (As := [.int x7]) (rest := []) ⟨hx, hb, hml, hown, hts⟩ (K_Md_bits l D a c9 H.size hc13) (va_cwS 1 hts (k_gS q_940 q_941 q_7 q_942) rfl rfl rfl h_Md_bits.2 ⟨Nat.le_of_ble_eq_true rfl, Nat.le_of_ble_eq_true rfl⟩) (k_preS hP hK hN hD) rfl rfl hl.1 rfl (lv_room (Nat.le_of_ble_eq_true rfl)) d_Md_takenNext_237 ⟨Nat.zero_le _, Nat.zero_le _⟩) hD hS hA (fun H locs hP hD hS => ?_)
        refine lv_iload hx hb d_Md_takenNext_240 (lv_at hl 6 rfl) ?_
        refine lv_icmp_ne (tgt := 248) hx hb d_Md_takenNext_242 (by decide) (fun cn14 => ?_) (fun cn14 => ?_)
        · replace h := (if_neg cn14).symm.trans h
          obtain ⟨v15, ev15, h⟩ := k_let_e h
          refine lv_iinc (v := v15) (lv' := [(7, .int v15), (0, .ref (a 6)), (1, .int x1), (2, .int x2), (3, .int x3), (4, .int x4), (5, .int x5), (6, .int x6)]) hx hb d_Md_takenNext_248 hl (k := 7) rfl (by rw [ev15]; rfl) (by decide) rfl (fun ls hl => ?_)
          refine lv_goto (tgt := 220) hx hb d_Md_takenNext_251 (by decide) ?_
          exact ih _ _ _ _ _ _ _ _ H locs ls hP hD hS (lv_sub hl [1, 2, 3, 4, 5, 6, 7, 0] rfl) h
        · replace h := (if_pos cn14).symm.trans h
          refine lv_iload hx hb d_Md_takenNext_245 (lv_at hl 7 rfl) ?_
          cases h
          exact k_iret hx hb hr hlk hP hS d_Md_takenNext_247
def M_Md_takenNext_146 (σ : kS) (x1 x2 x3 x4 x5 y0 : Int32) : Option (Int32 × kS) := if x5 = 0 then (if 0 ≤ x2 then (M_Md_takenNext_165 σ x1 x2 x3 x4 x5 y0 ((y0 + 1))) else (M_Md_takenNext_165 σ x1 x2 x3 x4 x5 y0 1)) else (if 0 ≤ x2 then (k_let ((x2 - 1)) fun v3 => M_Md_takenNext_220 k_fu σ x1 x2 x3 x4 x5 y0 v3) else (k_call (M_Md_bits σ x4) fun v4 σ5 => if y0 ≤ v4 then (k_call (M_Md_firstOf σ5 x4 y0) fun v8 σ9 => some (v8, σ9)) else (some ((-1), σ5))))
set_option maxHeartbeats 4000000 in
set_option maxRecDepth 100000 in
theorem B_Md_takenNext_146 {p : Program} {l : Launch} {e : Env} {s : State} {m : MethodId} {args : Array Value} {below : List Frame} {meth : Method} {c : Code} {D : va_G} {a : Nat → Nat} {c9 : Nat → ClassId} {A : Nat → Prop} {r9 : Int32} {σo : kS} (C0 : k_Cx D c9 p s m args meth c R_Md c_Md_takenNext 8 (some .int) A) (σ : kS) (x1 x2 x3 x4 x5 y0 : Int32) (H : Heap) (locs : List Loc) (ls : Array Slot) (hP : va_P D kcl (kw a c9 σ) H) (hD : va_D A (kw a c9 σ)) (hS : va_S A s.heap H locs) (hl : lv_has ls 8 [(0, .ref (a 6)), (1, .int x1), (2, .int x2), (3, .int x3), (4, .int x4), (5, .int x5)]) (h : M_Md_takenNext_146 σ x1 x2 x3 x4 x5 y0 = some (r9, σo)) : W p l e rm_Md_takenNext s m args below meth c H locs 0 0 (MQ below (k_Qi D a c9 r9 σo A) args s 0 0 A) (F0 m 146 ls [.int y0]) := by
  obtain ⟨hx, hb, hml, hown, hts, hr, hlk, hK, hN, hA⟩ := id C0
  unfold M_Md_takenNext_146 at h
  refine lv_istore (lv' := [(6, .int y0), (0, .ref (a 6)), (1, .int x1), (2, .int x2), (3, .int x3), (4, .int x4), (5, .int x5)]) hx hb d_Md_takenNext_146 hl (by decide) rfl (fun ls hl => ?_)
  refine lv_iload hx hb d_Md_takenNext_148 (lv_at hl 6 rfl) ?_
  refine lv_if_ne (tgt := 189) hx hb d_Md_takenNext_150 (by decide) (fun cn1 => ?_) (fun cn1 => ?_)
  · replace h := (if_neg cn1).symm.trans h
    refine lv_iload_n hx hb d_Md_takenNext_189 rfl (lv_at hl 3 rfl) ?_
    refine lv_if_ge (tgt := 215) hx hb d_Md_takenNext_190 (by decide) (fun cn2 => ?_) (fun cn2 => ?_)
    · replace h := (if_pos cn2).symm.trans h
      refine lv_iload_n hx hb d_Md_takenNext_215 rfl (lv_at hl 3 rfl) ?_
      refine lv_iconst (v := 1) hx hb d_Md_takenNext_216 (by decide) ?_
      refine lv_isub hx hb d_Md_takenNext_217 ?_
      obtain ⟨v3, ev3, h⟩ := k_let_e h
      refine k_top ev3 ?_
      refine lv_istore (lv' := [(7, .int v3), (6, .int y0), (0, .ref (a 6)), (1, .int x1), (2, .int x2), (3, .int x3), (4, .int x4), (5, .int x5)]) hx hb d_Md_takenNext_218 hl (by decide) rfl (fun ls hl => ?_)
      exact B_Md_takenNext_220 C0 k_fu _ _ _ _ _ _ _ _ H locs ls hP hD hS (lv_sub hl [2, 3, 4, 5, 6, 7, 1, 0] rfl) h
    · replace h := (if_neg cn2).symm.trans h
      refine lv_iload hx hb d_Md_takenNext_193 (lv_at hl 0 rfl) ?_
      refine lv_iload hx hb d_Md_takenNext_195 (lv_at hl 5 rfl) ?_
      obtain ⟨v4, σ5, hc6, h⟩ := k_call_e h
      refine k_calli (va_runS (As := [.int x4]) (rest := [.int y0]) ⟨hx, hb, hml, hown, hts⟩ (K_Md_bits l D a c9 H.size hc6) (va_cwS 1 hts (k_gS q_940 q_941 q_7 q_942) rfl rfl rfl h_Md_bits.2 ⟨Nat.le_of_ble_eq_true rfl, Nat.le_of_ble_eq_true rfl⟩) (k_preS hP hK hN hD) rfl rfl hl.1 rfl (lv_room (Nat.le_of_ble_eq_true rfl)) d_Md_takenNext_197 ⟨Nat.zero_le _, Nat.zero_le _⟩) hD hS hA (fun H locs hP hD hS => ?_)
      refine lv_icmp_le (tgt := 207) hx hb d_Md_takenNext_200 (by decide) (fun cn7 => ?_) (fun cn7 => ?_)
      · replace h := (if_pos cn7).symm.trans h
        refine lv_iload hx hb d_Md_takenNext_207 (lv_at hl 5 rfl) ?_
        refine lv_iload hx hb d_Md_takenNext_209 (lv_at hl 0 rfl) ?_
        obtain ⟨v8, σ9, hc10, h⟩ := k_call_e h
        refine k_calli (va_runS (As := [.int x4, .int y0]) (rest := []) ⟨hx, hb, hml, hown, hts⟩ (K_Md_firstOf l D a c9 H.size hc10) (va_cwS 2 hts (k_gS q_943 q_944 q_7 q_945) rfl rfl rfl h_Md_firstOf.2 ⟨Nat.le_of_ble_eq_true rfl, Nat.le_of_ble_eq_true rfl⟩) (k_preS hP hK hN hD) rfl rfl hl.1 rfl (lv_room (Nat.le_of_ble_eq_true rfl)) d_Md_takenNext_211 ⟨Nat.zero_le _, Nat.zero_le _⟩) hD hS hA (fun H locs hP hD hS => ?_)
        cases h
        exact k_iret hx hb hr hlk hP hS d_Md_takenNext_214
      · replace h := (if_neg cn7).symm.trans h
        refine lv_iconst (v := (-1)) hx hb d_Md_takenNext_203 (by decide) ?_
        refine lv_goto (tgt := 214) hx hb d_Md_takenNext_204 (by decide) ?_
        cases h
        exact k_iret hx hb hr hlk hP hS d_Md_takenNext_214
  · replace h := (if_pos cn1).symm.trans h
    refine lv_iload_n hx hb d_Md_takenNext_153 rfl (lv_at hl 3 rfl) ?_
    refine lv_if_ge (tgt := 161) hx hb d_Md_takenNext_154 (by decide) (fun cn11 => ?_) (fun cn11 => ?_)
    · replace h := (if_pos cn11).symm.trans h
      refine lv_iload hx hb d_Md_takenNext_161 (lv_at hl 0 rfl) ?_
      refine lv_iconst (v := 1) hx hb d_Md_takenNext_163 (by decide) ?_
      refine lv_iadd hx hb d_Md_takenNext_164 ?_
      exact B_Md_takenNext_165 C0 _ _ _ _ _ _ _ _ H locs ls hP hD hS (lv_sub hl [1, 2, 3, 4, 5, 6, 0] rfl) h
    · replace h := (if_neg cn11).symm.trans h
      refine lv_iconst (v := 1) hx hb d_Md_takenNext_157 (by decide) ?_
      refine lv_goto (tgt := 165) hx hb d_Md_takenNext_158 (by decide) ?_
      exact B_Md_takenNext_165 C0 _ _ _ _ _ _ _ _ H locs ls hP hD hS (lv_sub hl [1, 2, 3, 4, 5, 6, 0] rfl) h
def M_Md_takenNext_134 (σ : kS) (x1 x2 x3 x4 x5 : Int32) : Option (Int32 × kS) := if 0 ≤ x2 then (k_call (M_Md_bits σ x2) fun v2 σ3 => M_Md_takenNext_146 σ3 x1 x2 x3 x4 x5 v2) else (M_Md_takenNext_146 σ x1 x2 x3 x4 x5 1)
set_option maxHeartbeats 4000000 in
set_option maxRecDepth 100000 in
theorem B_Md_takenNext_134 {p : Program} {l : Launch} {e : Env} {s : State} {m : MethodId} {args : Array Value} {below : List Frame} {meth : Method} {c : Code} {D : va_G} {a : Nat → Nat} {c9 : Nat → ClassId} {A : Nat → Prop} {r9 : Int32} {σo : kS} (C0 : k_Cx D c9 p s m args meth c R_Md c_Md_takenNext 8 (some .int) A) (σ : kS) (x1 x2 x3 x4 x5 : Int32) (H : Heap) (locs : List Loc) (ls : Array Slot) (hP : va_P D kcl (kw a c9 σ) H) (hD : va_D A (kw a c9 σ)) (hS : va_S A s.heap H locs) (hl : lv_has ls 8 [(0, .ref (a 6)), (1, .int x1), (2, .int x2), (3, .int x3), (4, .int x4), (5, .int x5)]) (h : M_Md_takenNext_134 σ x1 x2 x3 x4 x5 = some (r9, σo)) : W p l e rm_Md_takenNext s m args below meth c H locs 0 0 (MQ below (k_Qi D a c9 r9 σo A) args s 0 0 A) (F0 m 134 ls []) := by
  obtain ⟨hx, hb, hml, hown, hts, hr, hlk, hK, hN, hA⟩ := id C0
  unfold M_Md_takenNext_134 at h
  refine lv_iload_n hx hb d_Md_takenNext_134 rfl (lv_at hl 2 rfl) ?_
  refine lv_if_ge (tgt := 142) hx hb d_Md_takenNext_135 (by decide) (fun cn1 => ?_) (fun cn1 => ?_)
  · replace h := (if_pos cn1).symm.trans h
    refine lv_iload_n hx hb d_Md_takenNext_142 rfl (lv_at hl 2 rfl) ?_
    obtain ⟨v2, σ3, hc4, h⟩ := k_call_e h
    refine k_calli (va_runS (As := [.int x2]) (rest := []) ⟨hx, hb, hml, hown, hts⟩ (K_Md_bits l D a c9 H.size hc4) (va_cwS 1 hts (k_gS q_940 q_941 q_7 q_942) rfl rfl rfl h_Md_bits.2 ⟨Nat.le_of_ble_eq_true rfl, Nat.le_of_ble_eq_true rfl⟩) (k_preS hP hK hN hD) rfl rfl hl.1 rfl (lv_room (Nat.le_of_ble_eq_true rfl)) d_Md_takenNext_143 ⟨Nat.zero_le _, Nat.zero_le _⟩) hD hS hA (fun H locs hP hD hS => ?_)
    exact B_Md_takenNext_146 C0 _ _ _ _ _ _ _ H locs ls hP hD hS (lv_sub hl [0, 1, 2, 3, 4, 5] rfl) h
  · replace h := (if_neg cn1).symm.trans h
    refine lv_iconst (v := 1) hx hb d_Md_takenNext_138 (by decide) ?_
    refine lv_goto (tgt := 146) hx hb d_Md_takenNext_139 (by decide) ?_
    exact B_Md_takenNext_146 C0 _ _ _ _ _ _ _ H locs ls hP hD hS (lv_sub hl [0, 1, 2, 3, 4, 5] rfl) h
def M_Md_takenNext (σ : kS) (x1 x2 : Int32) : Option (Int32 × kS) := k_ld (σ.2.1 45) 1000 (x1) fun v1 => k_ld (σ.2.1 47) 1000 (x1) fun v2 => k_ld (σ.2.1 30) 2880 (((12 * v1) + v2)) fun v3 => k_call (M_Md_leftOf σ x1) fun v4 σ5 => k_ld (σ5.2.1 45) 1000 (x1) fun v7 => k_ld (σ5.2.1 27) 240 (v7) fun v8 => k_call (M_Md_anyOrder σ5 v8) fun v9 σ10 => k_call (M_Md_severals σ10 v3) fun v12 σ13 => if v12 = 0 then (M_Md_takenNext_56 k_fu σ13 x1 x2 v3 v4 v9 0) else (if 0 ≤ x2 then (M_Md_takenNext_134 σ13 x1 x2 v3 v4 v9) else (k_ld (σ13.2.1 28) 240 (v3) fun v17 => if v17 = 3 then (some (0, σ13)) else (M_Md_takenNext_134 σ13 x1 x2 v3 v4 v9)))
set_option maxHeartbeats 4000000 in
set_option maxRecDepth 100000 in
theorem B_Md_takenNext_0 {p : Program} {l : Launch} {e : Env} {s : State} {m : MethodId} {args : Array Value} {below : List Frame} {meth : Method} {c : Code} {D : va_G} {a : Nat → Nat} {c9 : Nat → ClassId} {A : Nat → Prop} {r9 : Int32} {σo : kS} (C0 : k_Cx D c9 p s m args meth c R_Md c_Md_takenNext 8 (some .int) A) (σ : kS) (x1 x2 : Int32) (H : Heap) (locs : List Loc) (ls : Array Slot) (hP : va_P D kcl (kw a c9 σ) H) (hD : va_D A (kw a c9 σ)) (hS : va_S A s.heap H locs) (hl : lv_has ls 8 [(0, .ref (a 6)), (1, .int x1), (2, .int x2)]) (h : M_Md_takenNext σ x1 x2 = some (r9, σo)) : W p l e rm_Md_takenNext s m args below meth c H locs 0 0 (MQ below (k_Qi D a c9 r9 σo A) args s 0 0 A) (F0 m 0 ls []) := by
  obtain ⟨hx, hb, hml, hown, hts, hr, hlk, hK, hN, hA⟩ := id C0
  unfold M_Md_takenNext at h
  refine lv_aload_n hx hb d_Md_takenNext_0 rfl (lv_at hl 0 rfl) ?_
  refine va_get (ci := 1) (C := R_Md) (T := T_Md) (N := 44) hx hb hts in_Md hown hK hP 6 kw_6 rfl 6 (by decide) (hts _ q_719) (fun _ h9 => h9) rfl d_Md_takenNext_1 ?_
  refine lv_bipush (v := 12) hx hb d_Md_takenNext_4 (by decide) ?_
  refine lv_aload_n hx hb d_Md_takenNext_6 rfl (lv_at hl 0 rfl) ?_
  refine va_get (ci := 1) (C := R_Md) (T := T_Md) (N := 44) hx hb hts in_Md hown hK hP 6 kw_6 rfl 30 (by decide) (hts _ q_743) (fun _ h9 => h9) rfl d_Md_takenNext_7 ?_
  refine lv_iload_n hx hb d_Md_takenNext_10 rfl (lv_at hl 1 rfl) ?_
  obtain ⟨v1, ev1, hv1, h⟩ := k_ld_e h
  refine va_iald hx hb hK hP 52 0 kw_52 rfl hv1 d_Md_takenNext_11 (k_top ev1 ?_)
  refine lv_imul hx hb d_Md_takenNext_12 ?_
  refine lv_aload_n hx hb d_Md_takenNext_13 rfl (lv_at hl 0 rfl) ?_
  refine va_get (ci := 1) (C := R_Md) (T := T_Md) (N := 44) hx hb hts in_Md hown hK hP 6 kw_6 rfl 32 (by decide) (hts _ q_745) (fun _ h9 => h9) rfl d_Md_takenNext_14 ?_
  refine lv_iload_n hx hb d_Md_takenNext_17 rfl (lv_at hl 1 rfl) ?_
  obtain ⟨v2, ev2, hv2, h⟩ := k_ld_e h
  refine va_iald hx hb hK hP 54 0 kw_54 rfl hv2 d_Md_takenNext_18 (k_top ev2 ?_)
  refine lv_iadd hx hb d_Md_takenNext_19 ?_
  obtain ⟨v3, ev3, hv3, h⟩ := k_ld_e h
  refine va_iald hx hb hK hP 37 0 kw_37 rfl hv3 d_Md_takenNext_20 (k_top ev3 ?_)
  refine lv_istore_n (lv' := [(3, .int v3), (0, .ref (a 6)), (1, .int x1), (2, .int x2)]) hx hb d_Md_takenNext_21 rfl hl (by decide) rfl (fun ls hl => ?_)
  refine lv_aload_n hx hb d_Md_takenNext_22 rfl (lv_at hl 1 rfl) ?_
  refine lv_iload_n hx hb d_Md_takenNext_23 rfl (lv_at hl 2 rfl) ?_
  obtain ⟨v4, σ5, hc6, h⟩ := k_call_e h
  refine k_calli (va_runV (As := [.int x1]) (rest := []) ⟨hx, hb, hml, hown, hts⟩ (K_Md_leftOf l D a c9 H.size hc6) (cwV 1 hts (k_gV q_929 q_931 s_31 q_7 q_932) rfl rfl rfl h_Md_leftOf ⟨Nat.le_of_ble_eq_true rfl, Nat.le_of_ble_eq_true rfl⟩) (k_preV (ci := 1) (q0 := 6) rfl kw_6 hP hK hN hD) rfl rfl hl.1 rfl (lv_room (Nat.le_of_ble_eq_true rfl)) d_Md_takenNext_24 ⟨Nat.zero_le _, Nat.zero_le _⟩) hD hS hA (fun H locs hP hD hS => ?_)
  refine lv_istore (lv' := [(4, .int v4), (3, .int v3), (0, .ref (a 6)), (1, .int x1), (2, .int x2)]) hx hb d_Md_takenNext_27 hl (by decide) rfl (fun ls hl => ?_)
  refine lv_aload_n hx hb d_Md_takenNext_29 rfl (lv_at hl 2 rfl) ?_
  refine va_get (ci := 1) (C := R_Md) (T := T_Md) (N := 44) hx hb hts in_Md hown hK hP 6 kw_6 rfl 3 (by decide) (hts _ q_716) (fun _ h9 => h9) rfl d_Md_takenNext_30 ?_
  refine lv_aload_n hx hb d_Md_takenNext_33 rfl (lv_at hl 2 rfl) ?_
  refine va_get (ci := 1) (C := R_Md) (T := T_Md) (N := 44) hx hb hts in_Md hown hK hP 6 kw_6 rfl 30 (by decide) (hts _ q_743) (fun _ h9 => h9) rfl d_Md_takenNext_34 ?_
  refine lv_iload_n hx hb d_Md_takenNext_37 rfl (lv_at hl 3 rfl) ?_
  obtain ⟨v7, ev7, hv7, h⟩ := k_ld_e h
  refine va_iald hx hb hK hP 52 0 kw_52 rfl hv7 d_Md_takenNext_38 (k_top ev7 ?_)
  obtain ⟨v8, ev8, hv8, h⟩ := k_ld_e h
  refine va_iald hx hb hK hP 34 0 kw_34 rfl hv8 d_Md_takenNext_39 (k_top ev8 ?_)
  obtain ⟨v9, σ10, hc11, h⟩ := k_call_e h
  refine k_calli (va_runS (As := [.int v8]) (rest := []) ⟨hx, hb, hml, hown, hts⟩ (K_Md_anyOrder l D a c9 H.size hc11) (va_cwS 1 hts (k_gS q_874 q_875 q_7 q_876) rfl rfl rfl h_Md_anyOrder.2 ⟨Nat.le_of_ble_eq_true rfl, Nat.le_of_ble_eq_true rfl⟩) (k_preS hP hK hN hD) rfl rfl hl.1 rfl (lv_room (Nat.le_of_ble_eq_true rfl)) d_Md_takenNext_40 ⟨Nat.zero_le _, Nat.zero_le _⟩) hD hS hA (fun H locs hP hD hS => ?_)
  refine lv_istore (lv' := [(5, .int v9), (4, .int v4), (3, .int v3), (0, .ref (a 6)), (1, .int x1), (2, .int x2)]) hx hb d_Md_takenNext_43 hl (by decide) rfl (fun ls hl => ?_)
  refine lv_aload_n hx hb d_Md_takenNext_45 rfl (lv_at hl 3 rfl) ?_
  refine lv_iload_n hx hb d_Md_takenNext_46 rfl (lv_at hl 2 rfl) ?_
  obtain ⟨v12, σ13, hc14, h⟩ := k_call_e h
  refine k_calli (va_runV (As := [.int v3]) (rest := []) ⟨hx, hb, hml, hown, hts⟩ (K_Md_severals l D a c9 H.size hc14) (cwV 1 hts (k_gV q_936 q_938 s_32 q_7 q_939) rfl rfl rfl h_Md_severals ⟨Nat.le_of_ble_eq_true rfl, Nat.le_of_ble_eq_true rfl⟩) (k_preV (ci := 1) (q0 := 6) rfl kw_6 hP hK hN hD) rfl rfl hl.1 rfl (lv_room (Nat.le_of_ble_eq_true rfl)) d_Md_takenNext_47 ⟨Nat.zero_le _, Nat.zero_le _⟩) hD hS hA (fun H locs hP hD hS => ?_)
  refine lv_if_ne (tgt := 118) hx hb d_Md_takenNext_50 (by decide) (fun cn15 => ?_) (fun cn15 => ?_)
  · replace h := (if_neg cn15).symm.trans h
    refine lv_iload_n hx hb d_Md_takenNext_118 rfl (lv_at hl 5 rfl) ?_
    refine lv_if_ge (tgt := 134) hx hb d_Md_takenNext_119 (by decide) (fun cn16 => ?_) (fun cn16 => ?_)
    · replace h := (if_pos cn16).symm.trans h
      exact B_Md_takenNext_134 C0 _ _ _ _ _ _ H locs ls hP hD hS (lv_sub hl [3, 4, 5, 2, 1, 0] rfl) h
    · replace h := (if_neg cn16).symm.trans h
      refine lv_aload_n hx hb d_Md_takenNext_122 rfl (lv_at hl 3 rfl) ?_
      refine va_get (ci := 1) (C := R_Md) (T := T_Md) (N := 44) hx hb hts in_Md hown hK hP 6 kw_6 rfl 4 (by decide) (hts _ q_717) (fun _ h9 => h9) rfl d_Md_takenNext_123 ?_
      refine lv_iload_n hx hb d_Md_takenNext_126 rfl (lv_at hl 2 rfl) ?_
      obtain ⟨v17, ev17, hv17, h⟩ := k_ld_e h
      refine va_iald hx hb hK hP 35 0 kw_35 rfl hv17 d_Md_takenNext_127 (k_top ev17 ?_)
      refine lv_iconst (v := 3) hx hb d_Md_takenNext_128 (by decide) ?_
      refine lv_icmp_ne (tgt := 134) hx hb d_Md_takenNext_129 (by decide) (fun cn18 => ?_) (fun cn18 => ?_)
      · replace h := (if_neg cn18).symm.trans h
        exact B_Md_takenNext_134 C0 _ _ _ _ _ _ H locs ls hP hD hS (lv_sub hl [3, 4, 5, 2, 1, 0] rfl) h
      · replace h := (if_pos cn18).symm.trans h
        refine lv_iconst (v := 0) hx hb d_Md_takenNext_132 (by decide) ?_
        cases h
        exact k_iret hx hb hr hlk hP hS d_Md_takenNext_133
  · replace h := (if_pos cn15).symm.trans h
    refine lv_iconst (v := 0) hx hb d_Md_takenNext_53 (by decide) ?_
    refine lv_istore (lv' := [(6, .int 0), (5, .int v9), (4, .int v4), (3, .int v3), (0, .ref (a 6)), (1, .int x1), (2, .int x2)]) hx hb d_Md_takenNext_54 hl (by decide) rfl (fun ls hl => ?_)
    exact B_Md_takenNext_56 C0 k_fu _ _ _ _ _ _ _ H locs ls hP hD hS (lv_sub hl [4, 5, 6, 3, 2, 1, 0] rfl) h
theorem K_Md_takenNext (l : Launch) (D : va_G) (a : Nat → Nat) (c9 : Nat → ClassId) (sz : Nat) {σ : kS} {x1 x2 : Int32} {r9 : Int32} {σo : kS} (h : M_Md_takenNext σ x1 x2 = some (r9, σo)) : Met l y_Md_takenNext (Cond.code y_Md_takenNext c_Md_takenNext 8 (some .int) :: kG) rm_Md_takenNext (k_Pc D a c9 sz σ [.ref (a 6), .int x1, .int x2]) (k_Qi D a c9 r9 σo (k_A a c9 σ sz)) 0 0 (k_A a c9 σ sz) :=
  k_met (Qf := k_Qi D a c9 r9 σo) (by decide) (Nat.le_of_ble_eq_true rfl) (fun p e s m args below meth c A ls C0 hP hD hS hl => B_Md_takenNext_0 C0 σ x1 x2 s.heap [] ls hP hD hS hl h)

