/-! the law's own loop -/
theorem k_gSW {own : String} {idx maxL : Nat} {y : MethodName} {bytes : ByteArray} {ret : Option FieldType} {hh : List (Nat × Nat × Nat × Nat)} (h1 : Cond.methodLink own idx y ∈ kG) (h2 : Cond.static y ∈ kG) (h4 : Cond.initialized y.cls ∈ kG) (h5 : Cond.codeWith y bytes maxL ret hh ∈ kG) :
    GoodIn kG (va_wsS own idx y (Cond.codeWith y bytes maxL ret hh :: kG)) := k_goodI (fun w hw => by
  rcases List.mem_append.mp hw with h | h
  · rcases List.mem_cons.mp h with rfl | h
    · exact h1
    · rcases List.mem_cons.mp h with rfl | h
      · exact h2
      · rcases List.mem_cons.mp h with rfl | h
        · exact h4
        · cases h
  · exact k_cons h5 w h)
def k_Lx (D : va_G) (c9 : Nat → ClassId) (l : Launch) (p : Program) (s : State) (m : MethodId) (meth : Method) (c : Code) (b L : Nat) (xs : Nat → Int32) : Prop :=
  p.tables.exec = Jvm.exec ∧ c.code = code ∧ c.maxLocals = 7 ∧ s.vm.findClass R_La = some m.cls ∧ (∀ w ∈ kG, w.before #[Value.ref b] s = true) ∧ meth.sig.returnType = ret ∧ meth.locks = false ∧ va_K D kcl (ktys c9) s ∧ kN s ∧ l.stackTraces = false ∧ kX (fun q => s.heap.size ≤ q) s s.heap ∧ kY s ∧ va_X b L xs s s.heap ∧ b < s.heap.size
theorem k_no01 {σ σo : kS} (h : some ((0 : Int32), σ) = some ((1 : Int32), σo)) : False := absurd (show (0 : Int32) = 1 from congrArg Prod.fst (Option.some.inj h)) (by decide)
/-- pc 120 -/
def M_La_law_120 (L : Nat) (xs : Nat → Int32) (rec23 : kS → Int32 → Option (Int32 × kS)) (σ : kS) (x4 : Int32) : Option (Int32 × kS) := k_ld xs L ((x4 + 1)) fun v1 => k_call (M_La_leaf σ v1) fun v2 σ3 => k_ld xs L ((x4 + 1)) fun v5 => k_call (M_Md_leaf σ3 v5) fun v6 σ7 => k_call (M_Md_thrown σ7) fun v9 σ10 => if v9 = v2 then (if v2 = 0 then (if lg_cmp (σ10.2.2 (0 : Int32).toNatClampNeg) ((v6 : Int32).toInt64) = 0 then (k_let (x4 + 4) fun v16 => rec23 σ10 v16) else (some (0, σ10))) else (k_let (x4 + 4) fun v14 => rec23 σ10 v14)) else (some (0, σ10))
set_option maxHeartbeats 4000000 in
set_option maxRecDepth 100000 in
theorem B_La_law_120 {p : Program} {l : Launch} {e : Env} {s : State} {m : MethodId} {below : List Frame} {meth : Method} {c : Code} {D : va_G} {a : Nat → Nat} {c9 : Nat → ClassId} {b L : Nat} {xs : Nat → Int32} {σo : kS} (C0 : k_Lx D c9 l p s m meth c b L xs) {n : Nat} {rec23 : kS → Int32 → Option (Int32 × kS)} (hrec : ∀ (σ : kS) (x4 : Int32) (H : Heap) (locs : List Loc) (ls : Array Slot) (cells slots : Nat), cells + 6 * n ≤ 601024 → slots + 36 * n ≤ 7293034 → va_P D kcl (kw a c9 σ) H → va_D (fun q => s.heap.size ≤ q) (kw a c9 σ) → va_S (fun q => s.heap.size ≤ q) s.heap H locs → lv_has ls 7 [(0, .ref b), (1, .ref (a 0)), (2, .ref (a 6)), (3, .ref (a 65)), (4, .int x4)] → rec23 σ x4 = some (1, σo) → W p l e room_1 s m #[Value.ref b] below meth c H locs cells slots (lw_Z below #[Value.ref b] s) (F0 m 23 ls [])) (σ : kS) (x4 : Int32) (H : Heap) (locs : List Loc) (ls : Array Slot) (cells slots : Nat) (hcl : cells + 6 * n + 6 ≤ 601024) (hsl : slots + 36 * n + 36 ≤ 7293034) (hP : va_P D kcl (kw a c9 σ) H) (hD : va_D (fun q => s.heap.size ≤ q) (kw a c9 σ)) (hS : va_S (fun q => s.heap.size ≤ q) s.heap H locs) (hl : lv_has ls 7 [(0, .ref b), (1, .ref (a 0)), (2, .ref (a 6)), (3, .ref (a 65)), (4, .int x4)]) (h : M_La_law_120 L xs rec23 σ x4 = some (1, σo)) : W p l e room_1 s m #[Value.ref b] below meth c H locs cells slots (lw_Z below #[Value.ref b] s) (F0 m 120 ls []) := by
  obtain ⟨hx, hb, hml, hown, hts, hr, hlk, hK, hN, hst, hX, hY, hSc, hbl⟩ := id C0
  have hA : ∀ q : Nat, s.heap.size ≤ q → (fun q : Nat => s.heap.size ≤ q) q := fun _ h => h
  have hbA : ¬ (fun q : Nat => s.heap.size ≤ q) b := Nat.not_le.mpr hbl
  unfold M_La_law_120 at h
  refine lv_aload_n hx hb d_La_law_120 rfl (lv_at hl 1 rfl) ?_
  refine lv_aload_n hx hb d_La_law_121 rfl (lv_at hl 0 rfl) ?_
  refine lv_iload hx hb d_La_law_122 (lv_at hl 4 rfl) ?_
  refine lv_iconst (v := 1) hx hb d_La_law_124 (by decide) ?_
  refine lv_iadd hx hb d_La_law_125 ?_
  obtain ⟨v1, ev1, hv1, h⟩ := k_ld_e h
  refine va_sld hx hb hSc hbl hbA hS hv1 d_La_law_126 (k_top ev1 ?_)
  refine lv_aload_n hx hb d_La_law_127 rfl (lv_at hl 3 rfl) ?_
  obtain ⟨v2, σ3, hc4, h⟩ := k_call_e h
  refine k_calli (vx_runSW (As := [.ref (a 0), .int v1, .ref (a 65)]) (rest := []) ⟨hx, hb, hml, hown, hts⟩ (K_La_leaf l hst D a c9 H.size hc4) (vx_cwSW 3 hts (k_gSW q_221 q_222 q_0 w_223) rfl rfl rfl h_La_leaf.2 ⟨Nat.le_of_ble_eq_true rfl, Nat.le_of_ble_eq_true rfl⟩) (k_preSY hP hK hN hD hX hY hS hA) rfl rfl hl.1 rfl (lv_room (Nat.le_of_ble_eq_true rfl)) d_La_law_128 ⟨by show _ ≤ 601024; omega, by show _ ≤ 7293034; omega⟩) hD hS hA (fun H locs hP hD hS => ?_)
  refine lv_istore (lv' := [(5, .int v2), (0, .ref b), (1, .ref (a 0)), (2, .ref (a 6)), (3, .ref (a 65)), (4, .int x4)]) hx hb d_La_law_131 hl (by decide) rfl (fun ls hl => ?_)
  refine lv_aload_n hx hb d_La_law_133 rfl (lv_at hl 3 rfl) ?_
  refine lv_aload_n hx hb d_La_law_134 rfl (lv_at hl 1 rfl) ?_
  refine lv_iload hx hb d_La_law_135 (lv_at hl 5 rfl) ?_
  refine lv_iconst (v := 1) hx hb d_La_law_137 (by decide) ?_
  refine lv_iadd hx hb d_La_law_138 ?_
  obtain ⟨v5, ev5, hv5, h⟩ := k_ld_e h
  refine va_sld hx hb hSc hbl hbA hS hv5 d_La_law_139 (k_top ev5 ?_)
  obtain ⟨v6, σ7, hc8, h⟩ := k_call_e h
  refine k_calli (va_runV (As := [.int v5]) (rest := []) ⟨hx, hb, hml, hown, hts⟩ (K_Md_leaf l D a c9 H.size hc8) (cwV 1 hts (k_gV q_850 q_851 q_852 q_7 q_853) rfl rfl rfl h_Md_leaf ⟨Nat.le_of_ble_eq_true rfl, Nat.le_of_ble_eq_true rfl⟩) (k_preV (ci := 1) (q0 := 6) rfl kw_6 hP hK hN hD) rfl rfl hl.1 rfl (lv_room (Nat.le_of_ble_eq_true rfl)) d_La_law_140 ⟨by show _ ≤ 601024; omega, by show _ ≤ 7293034; omega⟩) hD hS hA (fun H locs hP hD hS => ?_)
  refine lv_istore (lv' := [(6, .int v6), (5, .int v2), (0, .ref b), (1, .ref (a 0)), (2, .ref (a 6)), (3, .ref (a 65)), (4, .int x4)]) hx hb d_La_law_143 hl (by decide) rfl (fun ls hl => ?_)
  refine lv_aload_n hx hb d_La_law_145 rfl (lv_at hl 4 rfl) ?_
  obtain ⟨v9, σ10, hc11, h⟩ := k_call_e h
  refine k_calli (va_runV (As := []) (rest := []) ⟨hx, hb, hml, hown, hts⟩ (K_Md_thrown l D a c9 H.size hc11) (cwV 0 hts (k_gV q_846 q_847 q_848 q_7 q_849) rfl rfl rfl h_Md_thrown ⟨Nat.le_of_ble_eq_true rfl, Nat.le_of_ble_eq_true rfl⟩) (k_preV (ci := 1) (q0 := 6) rfl kw_6 hP hK hN hD) rfl rfl hl.1 rfl (lv_room (Nat.le_of_ble_eq_true rfl)) d_La_law_146 ⟨by show _ ≤ 601024; omega, by show _ ≤ 7293034; omega⟩) hD hS hA (fun H locs hP hD hS => ?_)
  refine lv_iload hx hb d_La_law_149 (lv_at hl 1 rfl) ?_
  refine lv_icmp_eq (tgt := 156) hx hb d_La_law_151 (by decide) (fun cn12 => ?_) (fun cn12 => ?_)
  · replace h := (if_pos cn12).symm.trans h
    refine lv_iload hx hb d_La_law_156 (lv_at hl 1 rfl) ?_
    refine lv_if_ne (tgt := 173) hx hb d_La_law_158 (by decide) (fun cn13 => ?_) (fun cn13 => ?_)
    · replace h := (if_neg cn13).symm.trans h
      refine lv_goto (tgt := 1113) hx hb d_La_law_173 (by decide) ?_
      obtain ⟨v14, ev14, h⟩ := k_let_e h
      refine lv_iinc (v := v14) (lv' := [(4, .int v14), (6, .int v6), (5, .int v2), (0, .ref b), (1, .ref (a 0)), (2, .ref (a 6)), (3, .ref (a 65))]) hx hb d_La_law_1113 hl (k := 6) rfl (by rw [ev14]; rfl) (by decide) rfl (fun ls hl => ?_)
      refine lv_goto (tgt := 23) hx hb d_La_law_1116 (by decide) ?_
      exact hrec _ _ H locs ls _ _ (by omega) (by omega) hP hD hS (lv_sub hl [3, 4, 5, 6, 0] rfl) h
    · replace h := (if_pos cn13).symm.trans h
      refine lv_aload_n hx hb d_La_law_161 rfl (lv_at hl 5 rfl) ?_
      refine lv_iconst (v := 0) hx hb d_La_law_162 (by decide) ?_
      refine va_lald hx hb hK hP 65 2 kw_65 rfl k_in01 d_La_law_163 ?_
      refine lv_iload hx hb d_La_law_164 (lv_at hl 0 rfl) ?_
      refine lv_i2l (v := (v6 : Int32).toInt64) hx hb d_La_law_166 rfl ?_
      refine W.lcmp hx hb d_La_law_167 ?_
      refine lv_if_eq (tgt := 173) hx hb d_La_law_168 (by decide) (fun cn15 => ?_) (fun cn15 => ?_)
      · replace h := (if_pos cn15).symm.trans h
        refine lv_goto (tgt := 1113) hx hb d_La_law_173 (by decide) ?_
        obtain ⟨v16, ev16, h⟩ := k_let_e h
        refine lv_iinc (v := v16) (lv' := [(4, .int v16), (6, .int v6), (5, .int v2), (0, .ref b), (1, .ref (a 0)), (2, .ref (a 6)), (3, .ref (a 65))]) hx hb d_La_law_1113 hl (k := 6) rfl (by rw [ev16]; rfl) (by decide) rfl (fun ls hl => ?_)
        refine lv_goto (tgt := 23) hx hb d_La_law_1116 (by decide) ?_
        exact hrec _ _ H locs ls _ _ (by omega) (by omega) hP hD hS (lv_sub hl [3, 4, 5, 6, 0] rfl) h
      · replace h := (if_neg cn15).symm.trans h
        refine lv_iconst (v := 0) hx hb d_La_law_171 (by decide) ?_
        exact (k_no01 h).elim
  · replace h := (if_neg cn12).symm.trans h
    refine lv_iconst (v := 0) hx hb d_La_law_154 (by decide) ?_
    exact (k_no01 h).elim
/-- pc 176 -/
def M_La_law_176 (L : Nat) (xs : Nat → Int32) (rec23 : kS → Int32 → Option (Int32 × kS)) (σ : kS) (x4 : Int32) : Option (Int32 × kS) := k_ld xs L ((x4 + 1)) fun v1 => k_call (M_La_node σ v1) fun v2 σ3 => k_ld xs L ((x4 + 1)) fun v5 => k_call (M_Md_node σ3 v5) fun v6 σ7 => k_call (M_Md_thrown σ7) fun v9 σ10 => if v9 = v2 then (if v2 = 0 then (if lg_cmp (σ10.2.2 (0 : Int32).toNatClampNeg) ((v6 : Int32).toInt64) = 0 then (k_let (x4 + 4) fun v16 => rec23 σ10 v16) else (some (0, σ10))) else (k_let (x4 + 4) fun v14 => rec23 σ10 v14)) else (some (0, σ10))
set_option maxHeartbeats 4000000 in
set_option maxRecDepth 100000 in
theorem B_La_law_176 {p : Program} {l : Launch} {e : Env} {s : State} {m : MethodId} {below : List Frame} {meth : Method} {c : Code} {D : va_G} {a : Nat → Nat} {c9 : Nat → ClassId} {b L : Nat} {xs : Nat → Int32} {σo : kS} (C0 : k_Lx D c9 l p s m meth c b L xs) {n : Nat} {rec23 : kS → Int32 → Option (Int32 × kS)} (hrec : ∀ (σ : kS) (x4 : Int32) (H : Heap) (locs : List Loc) (ls : Array Slot) (cells slots : Nat), cells + 6 * n ≤ 601024 → slots + 36 * n ≤ 7293034 → va_P D kcl (kw a c9 σ) H → va_D (fun q => s.heap.size ≤ q) (kw a c9 σ) → va_S (fun q => s.heap.size ≤ q) s.heap H locs → lv_has ls 7 [(0, .ref b), (1, .ref (a 0)), (2, .ref (a 6)), (3, .ref (a 65)), (4, .int x4)] → rec23 σ x4 = some (1, σo) → W p l e room_1 s m #[Value.ref b] below meth c H locs cells slots (lw_Z below #[Value.ref b] s) (F0 m 23 ls [])) (σ : kS) (x4 : Int32) (H : Heap) (locs : List Loc) (ls : Array Slot) (cells slots : Nat) (hcl : cells + 6 * n + 6 ≤ 601024) (hsl : slots + 36 * n + 36 ≤ 7293034) (hP : va_P D kcl (kw a c9 σ) H) (hD : va_D (fun q => s.heap.size ≤ q) (kw a c9 σ)) (hS : va_S (fun q => s.heap.size ≤ q) s.heap H locs) (hl : lv_has ls 7 [(0, .ref b), (1, .ref (a 0)), (2, .ref (a 6)), (3, .ref (a 65)), (4, .int x4)]) (h : M_La_law_176 L xs rec23 σ x4 = some (1, σo)) : W p l e room_1 s m #[Value.ref b] below meth c H locs cells slots (lw_Z below #[Value.ref b] s) (F0 m 176 ls []) := by
  obtain ⟨hx, hb, hml, hown, hts, hr, hlk, hK, hN, hst, hX, hY, hSc, hbl⟩ := id C0
  have hA : ∀ q : Nat, s.heap.size ≤ q → (fun q : Nat => s.heap.size ≤ q) q := fun _ h => h
  have hbA : ¬ (fun q : Nat => s.heap.size ≤ q) b := Nat.not_le.mpr hbl
  unfold M_La_law_176 at h
  refine lv_aload_n hx hb d_La_law_176 rfl (lv_at hl 1 rfl) ?_
  refine lv_aload_n hx hb d_La_law_177 rfl (lv_at hl 0 rfl) ?_
  refine lv_iload hx hb d_La_law_178 (lv_at hl 4 rfl) ?_
  refine lv_iconst (v := 1) hx hb d_La_law_180 (by decide) ?_
  refine lv_iadd hx hb d_La_law_181 ?_
  obtain ⟨v1, ev1, hv1, h⟩ := k_ld_e h
  refine va_sld hx hb hSc hbl hbA hS hv1 d_La_law_182 (k_top ev1 ?_)
  refine lv_aload_n hx hb d_La_law_183 rfl (lv_at hl 3 rfl) ?_
  obtain ⟨v2, σ3, hc4, h⟩ := k_call_e h
  refine k_calli (vx_runSW (As := [.ref (a 0), .int v1, .ref (a 65)]) (rest := []) ⟨hx, hb, hml, hown, hts⟩ (K_La_node l hst D a c9 H.size hc4) (vx_cwSW 3 hts (k_gSW q_329 q_330 q_0 w_331) rfl rfl rfl h_La_node.2 ⟨Nat.le_of_ble_eq_true rfl, Nat.le_of_ble_eq_true rfl⟩) (k_preSY hP hK hN hD hX hY hS hA) rfl rfl hl.1 rfl (lv_room (Nat.le_of_ble_eq_true rfl)) d_La_law_184 ⟨by show _ ≤ 601024; omega, by show _ ≤ 7293034; omega⟩) hD hS hA (fun H locs hP hD hS => ?_)
  refine lv_istore (lv' := [(5, .int v2), (0, .ref b), (1, .ref (a 0)), (2, .ref (a 6)), (3, .ref (a 65)), (4, .int x4)]) hx hb d_La_law_187 hl (by decide) rfl (fun ls hl => ?_)
  refine lv_aload_n hx hb d_La_law_189 rfl (lv_at hl 3 rfl) ?_
  refine lv_aload_n hx hb d_La_law_190 rfl (lv_at hl 1 rfl) ?_
  refine lv_iload hx hb d_La_law_191 (lv_at hl 5 rfl) ?_
  refine lv_iconst (v := 1) hx hb d_La_law_193 (by decide) ?_
  refine lv_iadd hx hb d_La_law_194 ?_
  obtain ⟨v5, ev5, hv5, h⟩ := k_ld_e h
  refine va_sld hx hb hSc hbl hbA hS hv5 d_La_law_195 (k_top ev5 ?_)
  obtain ⟨v6, σ7, hc8, h⟩ := k_call_e h
  refine k_calli (va_runV (As := [.int v5]) (rest := []) ⟨hx, hb, hml, hown, hts⟩ (K_Md_node l D a c9 H.size hc8) (cwV 1 hts (k_gV q_858 q_859 q_860 q_7 q_861) rfl rfl rfl h_Md_node ⟨Nat.le_of_ble_eq_true rfl, Nat.le_of_ble_eq_true rfl⟩) (k_preV (ci := 1) (q0 := 6) rfl kw_6 hP hK hN hD) rfl rfl hl.1 rfl (lv_room (Nat.le_of_ble_eq_true rfl)) d_La_law_196 ⟨by show _ ≤ 601024; omega, by show _ ≤ 7293034; omega⟩) hD hS hA (fun H locs hP hD hS => ?_)
  refine lv_istore (lv' := [(6, .int v6), (5, .int v2), (0, .ref b), (1, .ref (a 0)), (2, .ref (a 6)), (3, .ref (a 65)), (4, .int x4)]) hx hb d_La_law_199 hl (by decide) rfl (fun ls hl => ?_)
  refine lv_aload_n hx hb d_La_law_201 rfl (lv_at hl 4 rfl) ?_
  obtain ⟨v9, σ10, hc11, h⟩ := k_call_e h
  refine k_calli (va_runV (As := []) (rest := []) ⟨hx, hb, hml, hown, hts⟩ (K_Md_thrown l D a c9 H.size hc11) (cwV 0 hts (k_gV q_846 q_847 q_848 q_7 q_849) rfl rfl rfl h_Md_thrown ⟨Nat.le_of_ble_eq_true rfl, Nat.le_of_ble_eq_true rfl⟩) (k_preV (ci := 1) (q0 := 6) rfl kw_6 hP hK hN hD) rfl rfl hl.1 rfl (lv_room (Nat.le_of_ble_eq_true rfl)) d_La_law_202 ⟨by show _ ≤ 601024; omega, by show _ ≤ 7293034; omega⟩) hD hS hA (fun H locs hP hD hS => ?_)
  refine lv_iload hx hb d_La_law_205 (lv_at hl 1 rfl) ?_
  refine lv_icmp_eq (tgt := 212) hx hb d_La_law_207 (by decide) (fun cn12 => ?_) (fun cn12 => ?_)
  · replace h := (if_pos cn12).symm.trans h
    refine lv_iload hx hb d_La_law_212 (lv_at hl 1 rfl) ?_
    refine lv_if_ne (tgt := 229) hx hb d_La_law_214 (by decide) (fun cn13 => ?_) (fun cn13 => ?_)
    · replace h := (if_neg cn13).symm.trans h
      refine lv_goto (tgt := 1113) hx hb d_La_law_229 (by decide) ?_
      obtain ⟨v14, ev14, h⟩ := k_let_e h
      refine lv_iinc (v := v14) (lv' := [(4, .int v14), (6, .int v6), (5, .int v2), (0, .ref b), (1, .ref (a 0)), (2, .ref (a 6)), (3, .ref (a 65))]) hx hb d_La_law_1113 hl (k := 6) rfl (by rw [ev14]; rfl) (by decide) rfl (fun ls hl => ?_)
      refine lv_goto (tgt := 23) hx hb d_La_law_1116 (by decide) ?_
      exact hrec _ _ H locs ls _ _ (by omega) (by omega) hP hD hS (lv_sub hl [3, 4, 5, 6, 0] rfl) h
    · replace h := (if_pos cn13).symm.trans h
      refine lv_aload_n hx hb d_La_law_217 rfl (lv_at hl 5 rfl) ?_
      refine lv_iconst (v := 0) hx hb d_La_law_218 (by decide) ?_
      refine va_lald hx hb hK hP 65 2 kw_65 rfl k_in01 d_La_law_219 ?_
      refine lv_iload hx hb d_La_law_220 (lv_at hl 0 rfl) ?_
      refine lv_i2l (v := (v6 : Int32).toInt64) hx hb d_La_law_222 rfl ?_
      refine W.lcmp hx hb d_La_law_223 ?_
      refine lv_if_eq (tgt := 229) hx hb d_La_law_224 (by decide) (fun cn15 => ?_) (fun cn15 => ?_)
      · replace h := (if_pos cn15).symm.trans h
        refine lv_goto (tgt := 1113) hx hb d_La_law_229 (by decide) ?_
        obtain ⟨v16, ev16, h⟩ := k_let_e h
        refine lv_iinc (v := v16) (lv' := [(4, .int v16), (6, .int v6), (5, .int v2), (0, .ref b), (1, .ref (a 0)), (2, .ref (a 6)), (3, .ref (a 65))]) hx hb d_La_law_1113 hl (k := 6) rfl (by rw [ev16]; rfl) (by decide) rfl (fun ls hl => ?_)
        refine lv_goto (tgt := 23) hx hb d_La_law_1116 (by decide) ?_
        exact hrec _ _ H locs ls _ _ (by omega) (by omega) hP hD hS (lv_sub hl [3, 4, 5, 6, 0] rfl) h
      · replace h := (if_neg cn15).symm.trans h
        refine lv_iconst (v := 0) hx hb d_La_law_227 (by decide) ?_
        exact (k_no01 h).elim
  · replace h := (if_neg cn12).symm.trans h
    refine lv_iconst (v := 0) hx hb d_La_law_210 (by decide) ?_
    exact (k_no01 h).elim
/-- pc 232 -/
def M_La_law_232 (L : Nat) (xs : Nat → Int32) (rec23 : kS → Int32 → Option (Int32 × kS)) (σ : kS) (x4 : Int32) : Option (Int32 × kS) := k_ld xs L ((x4 + 1)) fun v1 => k_ld xs L ((x4 + 2)) fun v2 => k_call (M_La_more σ v1 v2) fun v3 σ4 => k_ld xs L ((x4 + 1)) fun v6 => k_ld xs L ((x4 + 2)) fun v7 => k_call (M_Md_more σ4 v6 v7) fun v8 σ9 => k_call (M_Md_thrown σ9) fun v11 σ12 => if v11 = v3 then (if v3 = 0 then (if v8 = 0 then (if lg_cmp (σ12.2.2 (0 : Int32).toNatClampNeg) (0) = 0 then (k_let (x4 + 4) fun v19 => rec23 σ12 v19) else (some (0, σ12))) else (if lg_cmp (σ12.2.2 (0 : Int32).toNatClampNeg) (1) = 0 then (k_let (x4 + 4) fun v21 => rec23 σ12 v21) else (some (0, σ12)))) else (k_let (x4 + 4) fun v16 => rec23 σ12 v16)) else (some (0, σ12))
set_option maxHeartbeats 4000000 in
set_option maxRecDepth 100000 in
theorem B_La_law_232 {p : Program} {l : Launch} {e : Env} {s : State} {m : MethodId} {below : List Frame} {meth : Method} {c : Code} {D : va_G} {a : Nat → Nat} {c9 : Nat → ClassId} {b L : Nat} {xs : Nat → Int32} {σo : kS} (C0 : k_Lx D c9 l p s m meth c b L xs) {n : Nat} {rec23 : kS → Int32 → Option (Int32 × kS)} (hrec : ∀ (σ : kS) (x4 : Int32) (H : Heap) (locs : List Loc) (ls : Array Slot) (cells slots : Nat), cells + 6 * n ≤ 601024 → slots + 36 * n ≤ 7293034 → va_P D kcl (kw a c9 σ) H → va_D (fun q => s.heap.size ≤ q) (kw a c9 σ) → va_S (fun q => s.heap.size ≤ q) s.heap H locs → lv_has ls 7 [(0, .ref b), (1, .ref (a 0)), (2, .ref (a 6)), (3, .ref (a 65)), (4, .int x4)] → rec23 σ x4 = some (1, σo) → W p l e room_1 s m #[Value.ref b] below meth c H locs cells slots (lw_Z below #[Value.ref b] s) (F0 m 23 ls [])) (σ : kS) (x4 : Int32) (H : Heap) (locs : List Loc) (ls : Array Slot) (cells slots : Nat) (hcl : cells + 6 * n + 6 ≤ 601024) (hsl : slots + 36 * n + 36 ≤ 7293034) (hP : va_P D kcl (kw a c9 σ) H) (hD : va_D (fun q => s.heap.size ≤ q) (kw a c9 σ)) (hS : va_S (fun q => s.heap.size ≤ q) s.heap H locs) (hl : lv_has ls 7 [(0, .ref b), (1, .ref (a 0)), (2, .ref (a 6)), (3, .ref (a 65)), (4, .int x4)]) (h : M_La_law_232 L xs rec23 σ x4 = some (1, σo)) : W p l e room_1 s m #[Value.ref b] below meth c H locs cells slots (lw_Z below #[Value.ref b] s) (F0 m 232 ls []) := by
  obtain ⟨hx, hb, hml, hown, hts, hr, hlk, hK, hN, hst, hX, hY, hSc, hbl⟩ := id C0
  have hA : ∀ q : Nat, s.heap.size ≤ q → (fun q : Nat => s.heap.size ≤ q) q := fun _ h => h
  have hbA : ¬ (fun q : Nat => s.heap.size ≤ q) b := Nat.not_le.mpr hbl
  unfold M_La_law_232 at h
  refine lv_aload_n hx hb d_La_law_232 rfl (lv_at hl 1 rfl) ?_
  refine lv_aload_n hx hb d_La_law_233 rfl (lv_at hl 0 rfl) ?_
  refine lv_iload hx hb d_La_law_234 (lv_at hl 4 rfl) ?_
  refine lv_iconst (v := 1) hx hb d_La_law_236 (by decide) ?_
  refine lv_iadd hx hb d_La_law_237 ?_
  obtain ⟨v1, ev1, hv1, h⟩ := k_ld_e h
  refine va_sld hx hb hSc hbl hbA hS hv1 d_La_law_238 (k_top ev1 ?_)
  refine lv_aload_n hx hb d_La_law_239 rfl (lv_at hl 0 rfl) ?_
  refine lv_iload hx hb d_La_law_240 (lv_at hl 4 rfl) ?_
  refine lv_iconst (v := 2) hx hb d_La_law_242 (by decide) ?_
  refine lv_iadd hx hb d_La_law_243 ?_
  obtain ⟨v2, ev2, hv2, h⟩ := k_ld_e h
  refine va_sld hx hb hSc hbl hbA hS hv2 d_La_law_244 (k_top ev2 ?_)
  refine lv_aload_n hx hb d_La_law_245 rfl (lv_at hl 3 rfl) ?_
  obtain ⟨v3, σ4, hc5, h⟩ := k_call_e h
  refine k_calli (vx_runSW (As := [.ref (a 0), .int v1, .int v2, .ref (a 65)]) (rest := []) ⟨hx, hb, hml, hown, hts⟩ (K_La_more l hst D a c9 H.size hc5) (vx_cwSW 4 hts (k_gSW q_336 q_337 q_0 w_338) rfl rfl rfl h_La_more.2 ⟨Nat.le_of_ble_eq_true rfl, Nat.le_of_ble_eq_true rfl⟩) (k_preSY hP hK hN hD hX hY hS hA) rfl rfl hl.1 rfl (lv_room (Nat.le_of_ble_eq_true rfl)) d_La_law_246 ⟨by show _ ≤ 601024; omega, by show _ ≤ 7293034; omega⟩) hD hS hA (fun H locs hP hD hS => ?_)
  refine lv_istore (lv' := [(5, .int v3), (0, .ref b), (1, .ref (a 0)), (2, .ref (a 6)), (3, .ref (a 65)), (4, .int x4)]) hx hb d_La_law_249 hl (by decide) rfl (fun ls hl => ?_)
  refine lv_aload_n hx hb d_La_law_251 rfl (lv_at hl 3 rfl) ?_
  refine lv_aload_n hx hb d_La_law_252 rfl (lv_at hl 1 rfl) ?_
  refine lv_iload hx hb d_La_law_253 (lv_at hl 5 rfl) ?_
  refine lv_iconst (v := 1) hx hb d_La_law_255 (by decide) ?_
  refine lv_iadd hx hb d_La_law_256 ?_
  obtain ⟨v6, ev6, hv6, h⟩ := k_ld_e h
  refine va_sld hx hb hSc hbl hbA hS hv6 d_La_law_257 (k_top ev6 ?_)
  refine lv_aload_n hx hb d_La_law_258 rfl (lv_at hl 1 rfl) ?_
  refine lv_iload hx hb d_La_law_259 (lv_at hl 5 rfl) ?_
  refine lv_iconst (v := 2) hx hb d_La_law_261 (by decide) ?_
  refine lv_iadd hx hb d_La_law_262 ?_
  obtain ⟨v7, ev7, hv7, h⟩ := k_ld_e h
  refine va_sld hx hb hSc hbl hbA hS hv7 d_La_law_263 (k_top ev7 ?_)
  obtain ⟨v8, σ9, hc10, h⟩ := k_call_e h
  refine k_calli (va_runV (As := [.int v6, .int v7]) (rest := []) ⟨hx, hb, hml, hown, hts⟩ (K_Md_more l D a c9 H.size hc10) (cwV 2 hts (k_gV q_866 q_867 q_868 q_7 q_869) rfl rfl rfl h_Md_more ⟨Nat.le_of_ble_eq_true rfl, Nat.le_of_ble_eq_true rfl⟩) (k_preV (ci := 1) (q0 := 6) rfl kw_6 hP hK hN hD) rfl rfl hl.1 rfl (lv_room (Nat.le_of_ble_eq_true rfl)) d_La_law_264 ⟨by show _ ≤ 601024; omega, by show _ ≤ 7293034; omega⟩) hD hS hA (fun H locs hP hD hS => ?_)
  refine lv_istore (lv' := [(6, .int v8), (5, .int v3), (0, .ref b), (1, .ref (a 0)), (2, .ref (a 6)), (3, .ref (a 65)), (4, .int x4)]) hx hb d_La_law_267 hl (by decide) rfl (fun ls hl => ?_)
  refine lv_aload_n hx hb d_La_law_269 rfl (lv_at hl 4 rfl) ?_
  obtain ⟨v11, σ12, hc13, h⟩ := k_call_e h
  refine k_calli (va_runV (As := []) (rest := []) ⟨hx, hb, hml, hown, hts⟩ (K_Md_thrown l D a c9 H.size hc13) (cwV 0 hts (k_gV q_846 q_847 q_848 q_7 q_849) rfl rfl rfl h_Md_thrown ⟨Nat.le_of_ble_eq_true rfl, Nat.le_of_ble_eq_true rfl⟩) (k_preV (ci := 1) (q0 := 6) rfl kw_6 hP hK hN hD) rfl rfl hl.1 rfl (lv_room (Nat.le_of_ble_eq_true rfl)) d_La_law_270 ⟨by show _ ≤ 601024; omega, by show _ ≤ 7293034; omega⟩) hD hS hA (fun H locs hP hD hS => ?_)
  refine lv_iload hx hb d_La_law_273 (lv_at hl 1 rfl) ?_
  refine lv_icmp_eq (tgt := 280) hx hb d_La_law_275 (by decide) (fun cn14 => ?_) (fun cn14 => ?_)
  · replace h := (if_pos cn14).symm.trans h
    refine lv_iload hx hb d_La_law_280 (lv_at hl 1 rfl) ?_
    refine lv_if_ne (tgt := 304) hx hb d_La_law_282 (by decide) (fun cn15 => ?_) (fun cn15 => ?_)
    · replace h := (if_neg cn15).symm.trans h
      refine lv_goto (tgt := 1113) hx hb d_La_law_304 (by decide) ?_
      obtain ⟨v16, ev16, h⟩ := k_let_e h
      refine lv_iinc (v := v16) (lv' := [(4, .int v16), (6, .int v8), (5, .int v3), (0, .ref b), (1, .ref (a 0)), (2, .ref (a 6)), (3, .ref (a 65))]) hx hb d_La_law_1113 hl (k := 6) rfl (by rw [ev16]; rfl) (by decide) rfl (fun ls hl => ?_)
      refine lv_goto (tgt := 23) hx hb d_La_law_1116 (by decide) ?_
      exact hrec _ _ H locs ls _ _ (by omega) (by omega) hP hD hS (lv_sub hl [3, 4, 5, 6, 0] rfl) h
    · replace h := (if_pos cn15).symm.trans h
      refine lv_aload_n hx hb d_La_law_285 rfl (lv_at hl 5 rfl) ?_
      refine lv_iconst (v := 0) hx hb d_La_law_286 (by decide) ?_
      refine va_lald hx hb hK hP 65 2 kw_65 rfl k_in01 d_La_law_287 ?_
      refine lv_iload hx hb d_La_law_288 (lv_at hl 0 rfl) ?_
      refine lv_if_eq (tgt := 297) hx hb d_La_law_290 (by decide) (fun cn17 => ?_) (fun cn17 => ?_)
      · replace h := (if_pos cn17).symm.trans h
        refine lv_lconst (v := 0) hx hb d_La_law_297 rfl ?_
        refine W.lcmp hx hb d_La_law_298 ?_
        refine lv_if_eq (tgt := 304) hx hb d_La_law_299 (by decide) (fun cn18 => ?_) (fun cn18 => ?_)
        · replace h := (if_pos cn18).symm.trans h
          refine lv_goto (tgt := 1113) hx hb d_La_law_304 (by decide) ?_
          obtain ⟨v19, ev19, h⟩ := k_let_e h
          refine lv_iinc (v := v19) (lv' := [(4, .int v19), (6, .int v8), (5, .int v3), (0, .ref b), (1, .ref (a 0)), (2, .ref (a 6)), (3, .ref (a 65))]) hx hb d_La_law_1113 hl (k := 6) rfl (by rw [ev19]; rfl) (by decide) rfl (fun ls hl => ?_)
          refine lv_goto (tgt := 23) hx hb d_La_law_1116 (by decide) ?_
          exact hrec _ _ H locs ls _ _ (by omega) (by omega) hP hD hS (lv_sub hl [3, 4, 5, 6, 0] rfl) h
        · replace h := (if_neg cn18).symm.trans h
          refine lv_iconst (v := 0) hx hb d_La_law_302 (by decide) ?_
          exact (k_no01 h).elim
      · replace h := (if_neg cn17).symm.trans h
        refine lv_lconst (v := 1) hx hb d_La_law_293 rfl ?_
        refine lv_goto (tgt := 298) hx hb d_La_law_294 (by decide) ?_
        refine W.lcmp hx hb d_La_law_298 ?_
        refine lv_if_eq (tgt := 304) hx hb d_La_law_299 (by decide) (fun cn20 => ?_) (fun cn20 => ?_)
        · replace h := (if_pos cn20).symm.trans h
          refine lv_goto (tgt := 1113) hx hb d_La_law_304 (by decide) ?_
          obtain ⟨v21, ev21, h⟩ := k_let_e h
          refine lv_iinc (v := v21) (lv' := [(4, .int v21), (6, .int v8), (5, .int v3), (0, .ref b), (1, .ref (a 0)), (2, .ref (a 6)), (3, .ref (a 65))]) hx hb d_La_law_1113 hl (k := 6) rfl (by rw [ev21]; rfl) (by decide) rfl (fun ls hl => ?_)
          refine lv_goto (tgt := 23) hx hb d_La_law_1116 (by decide) ?_
          exact hrec _ _ H locs ls _ _ (by omega) (by omega) hP hD hS (lv_sub hl [3, 4, 5, 6, 0] rfl) h
        · replace h := (if_neg cn20).symm.trans h
          refine lv_iconst (v := 0) hx hb d_La_law_302 (by decide) ?_
          exact (k_no01 h).elim
  · replace h := (if_neg cn14).symm.trans h
    refine lv_iconst (v := 0) hx hb d_La_law_278 (by decide) ?_
    exact (k_no01 h).elim
/-- pc 307 -/
def M_La_law_307 (L : Nat) (xs : Nat → Int32) (rec23 : kS → Int32 → Option (Int32 × kS)) (σ : kS) (x4 : Int32) : Option (Int32 × kS) := k_ld xs L ((x4 + 1)) fun v1 => k_ld xs L ((x4 + 2)) fun v2 => k_call (M_La_hole σ v1 v2) fun v3 σ4 => k_ld xs L ((x4 + 1)) fun v6 => k_ld xs L ((x4 + 2)) fun v7 => k_call (M_Md_hole σ4 v6 v7) fun v8 σ9 => k_call (M_Md_thrown σ9) fun v11 σ12 => if v11 = v3 then (if v3 = 0 then (if lg_cmp (σ12.2.2 (0 : Int32).toNatClampNeg) ((v8 : Int32).toInt64) = 0 then (k_let (x4 + 4) fun v18 => rec23 σ12 v18) else (some (0, σ12))) else (k_let (x4 + 4) fun v16 => rec23 σ12 v16)) else (some (0, σ12))
set_option maxHeartbeats 4000000 in
set_option maxRecDepth 100000 in
theorem B_La_law_307 {p : Program} {l : Launch} {e : Env} {s : State} {m : MethodId} {below : List Frame} {meth : Method} {c : Code} {D : va_G} {a : Nat → Nat} {c9 : Nat → ClassId} {b L : Nat} {xs : Nat → Int32} {σo : kS} (C0 : k_Lx D c9 l p s m meth c b L xs) {n : Nat} {rec23 : kS → Int32 → Option (Int32 × kS)} (hrec : ∀ (σ : kS) (x4 : Int32) (H : Heap) (locs : List Loc) (ls : Array Slot) (cells slots : Nat), cells + 6 * n ≤ 601024 → slots + 36 * n ≤ 7293034 → va_P D kcl (kw a c9 σ) H → va_D (fun q => s.heap.size ≤ q) (kw a c9 σ) → va_S (fun q => s.heap.size ≤ q) s.heap H locs → lv_has ls 7 [(0, .ref b), (1, .ref (a 0)), (2, .ref (a 6)), (3, .ref (a 65)), (4, .int x4)] → rec23 σ x4 = some (1, σo) → W p l e room_1 s m #[Value.ref b] below meth c H locs cells slots (lw_Z below #[Value.ref b] s) (F0 m 23 ls [])) (σ : kS) (x4 : Int32) (H : Heap) (locs : List Loc) (ls : Array Slot) (cells slots : Nat) (hcl : cells + 6 * n + 6 ≤ 601024) (hsl : slots + 36 * n + 36 ≤ 7293034) (hP : va_P D kcl (kw a c9 σ) H) (hD : va_D (fun q => s.heap.size ≤ q) (kw a c9 σ)) (hS : va_S (fun q => s.heap.size ≤ q) s.heap H locs) (hl : lv_has ls 7 [(0, .ref b), (1, .ref (a 0)), (2, .ref (a 6)), (3, .ref (a 65)), (4, .int x4)]) (h : M_La_law_307 L xs rec23 σ x4 = some (1, σo)) : W p l e room_1 s m #[Value.ref b] below meth c H locs cells slots (lw_Z below #[Value.ref b] s) (F0 m 307 ls []) := by
  obtain ⟨hx, hb, hml, hown, hts, hr, hlk, hK, hN, hst, hX, hY, hSc, hbl⟩ := id C0
  have hA : ∀ q : Nat, s.heap.size ≤ q → (fun q : Nat => s.heap.size ≤ q) q := fun _ h => h
  have hbA : ¬ (fun q : Nat => s.heap.size ≤ q) b := Nat.not_le.mpr hbl
  unfold M_La_law_307 at h
  refine lv_aload_n hx hb d_La_law_307 rfl (lv_at hl 1 rfl) ?_
  refine lv_aload_n hx hb d_La_law_308 rfl (lv_at hl 0 rfl) ?_
  refine lv_iload hx hb d_La_law_309 (lv_at hl 4 rfl) ?_
  refine lv_iconst (v := 1) hx hb d_La_law_311 (by decide) ?_
  refine lv_iadd hx hb d_La_law_312 ?_
  obtain ⟨v1, ev1, hv1, h⟩ := k_ld_e h
  refine va_sld hx hb hSc hbl hbA hS hv1 d_La_law_313 (k_top ev1 ?_)
  refine lv_aload_n hx hb d_La_law_314 rfl (lv_at hl 0 rfl) ?_
  refine lv_iload hx hb d_La_law_315 (lv_at hl 4 rfl) ?_
  refine lv_iconst (v := 2) hx hb d_La_law_317 (by decide) ?_
  refine lv_iadd hx hb d_La_law_318 ?_
  obtain ⟨v2, ev2, hv2, h⟩ := k_ld_e h
  refine va_sld hx hb hSc hbl hbA hS hv2 d_La_law_319 (k_top ev2 ?_)
  refine lv_aload_n hx hb d_La_law_320 rfl (lv_at hl 3 rfl) ?_
  obtain ⟨v3, σ4, hc5, h⟩ := k_call_e h
  refine k_calli (vx_runSW (As := [.ref (a 0), .int v1, .int v2, .ref (a 65)]) (rest := []) ⟨hx, hb, hml, hown, hts⟩ (K_La_hole l hst D a c9 H.size hc5) (vx_cwSW 4 hts (k_gSW q_399 q_400 q_0 w_401) rfl rfl rfl h_La_hole.2 ⟨Nat.le_of_ble_eq_true rfl, Nat.le_of_ble_eq_true rfl⟩) (k_preSY hP hK hN hD hX hY hS hA) rfl rfl hl.1 rfl (lv_room (Nat.le_of_ble_eq_true rfl)) d_La_law_321 ⟨by show _ ≤ 601024; omega, by show _ ≤ 7293034; omega⟩) hD hS hA (fun H locs hP hD hS => ?_)
  refine lv_istore (lv' := [(5, .int v3), (0, .ref b), (1, .ref (a 0)), (2, .ref (a 6)), (3, .ref (a 65)), (4, .int x4)]) hx hb d_La_law_324 hl (by decide) rfl (fun ls hl => ?_)
  refine lv_aload_n hx hb d_La_law_326 rfl (lv_at hl 3 rfl) ?_
  refine lv_aload_n hx hb d_La_law_327 rfl (lv_at hl 1 rfl) ?_
  refine lv_iload hx hb d_La_law_328 (lv_at hl 5 rfl) ?_
  refine lv_iconst (v := 1) hx hb d_La_law_330 (by decide) ?_
  refine lv_iadd hx hb d_La_law_331 ?_
  obtain ⟨v6, ev6, hv6, h⟩ := k_ld_e h
  refine va_sld hx hb hSc hbl hbA hS hv6 d_La_law_332 (k_top ev6 ?_)
  refine lv_aload_n hx hb d_La_law_333 rfl (lv_at hl 1 rfl) ?_
  refine lv_iload hx hb d_La_law_334 (lv_at hl 5 rfl) ?_
  refine lv_iconst (v := 2) hx hb d_La_law_336 (by decide) ?_
  refine lv_iadd hx hb d_La_law_337 ?_
  obtain ⟨v7, ev7, hv7, h⟩ := k_ld_e h
  refine va_sld hx hb hSc hbl hbA hS hv7 d_La_law_338 (k_top ev7 ?_)
  obtain ⟨v8, σ9, hc10, h⟩ := k_call_e h
  refine k_calli (va_runV (As := [.int v6, .int v7]) (rest := []) ⟨hx, hb, hml, hown, hts⟩ (K_Md_hole l D a c9 H.size hc10) (cwV 2 hts (k_gV q_862 q_863 q_864 q_7 q_865) rfl rfl rfl h_Md_hole ⟨Nat.le_of_ble_eq_true rfl, Nat.le_of_ble_eq_true rfl⟩) (k_preV (ci := 1) (q0 := 6) rfl kw_6 hP hK hN hD) rfl rfl hl.1 rfl (lv_room (Nat.le_of_ble_eq_true rfl)) d_La_law_339 ⟨by show _ ≤ 601024; omega, by show _ ≤ 7293034; omega⟩) hD hS hA (fun H locs hP hD hS => ?_)
  refine lv_istore (lv' := [(6, .int v8), (5, .int v3), (0, .ref b), (1, .ref (a 0)), (2, .ref (a 6)), (3, .ref (a 65)), (4, .int x4)]) hx hb d_La_law_342 hl (by decide) rfl (fun ls hl => ?_)
  refine lv_aload_n hx hb d_La_law_344 rfl (lv_at hl 4 rfl) ?_
  obtain ⟨v11, σ12, hc13, h⟩ := k_call_e h
  refine k_calli (va_runV (As := []) (rest := []) ⟨hx, hb, hml, hown, hts⟩ (K_Md_thrown l D a c9 H.size hc13) (cwV 0 hts (k_gV q_846 q_847 q_848 q_7 q_849) rfl rfl rfl h_Md_thrown ⟨Nat.le_of_ble_eq_true rfl, Nat.le_of_ble_eq_true rfl⟩) (k_preV (ci := 1) (q0 := 6) rfl kw_6 hP hK hN hD) rfl rfl hl.1 rfl (lv_room (Nat.le_of_ble_eq_true rfl)) d_La_law_345 ⟨by show _ ≤ 601024; omega, by show _ ≤ 7293034; omega⟩) hD hS hA (fun H locs hP hD hS => ?_)
  refine lv_iload hx hb d_La_law_348 (lv_at hl 1 rfl) ?_
  refine lv_icmp_eq (tgt := 355) hx hb d_La_law_350 (by decide) (fun cn14 => ?_) (fun cn14 => ?_)
  · replace h := (if_pos cn14).symm.trans h
    refine lv_iload hx hb d_La_law_355 (lv_at hl 1 rfl) ?_
    refine lv_if_ne (tgt := 372) hx hb d_La_law_357 (by decide) (fun cn15 => ?_) (fun cn15 => ?_)
    · replace h := (if_neg cn15).symm.trans h
      refine lv_goto (tgt := 1113) hx hb d_La_law_372 (by decide) ?_
      obtain ⟨v16, ev16, h⟩ := k_let_e h
      refine lv_iinc (v := v16) (lv' := [(4, .int v16), (6, .int v8), (5, .int v3), (0, .ref b), (1, .ref (a 0)), (2, .ref (a 6)), (3, .ref (a 65))]) hx hb d_La_law_1113 hl (k := 6) rfl (by rw [ev16]; rfl) (by decide) rfl (fun ls hl => ?_)
      refine lv_goto (tgt := 23) hx hb d_La_law_1116 (by decide) ?_
      exact hrec _ _ H locs ls _ _ (by omega) (by omega) hP hD hS (lv_sub hl [3, 4, 5, 6, 0] rfl) h
    · replace h := (if_pos cn15).symm.trans h
      refine lv_aload_n hx hb d_La_law_360 rfl (lv_at hl 5 rfl) ?_
      refine lv_iconst (v := 0) hx hb d_La_law_361 (by decide) ?_
      refine va_lald hx hb hK hP 65 2 kw_65 rfl k_in01 d_La_law_362 ?_
      refine lv_iload hx hb d_La_law_363 (lv_at hl 0 rfl) ?_
      refine lv_i2l (v := (v8 : Int32).toInt64) hx hb d_La_law_365 rfl ?_
      refine W.lcmp hx hb d_La_law_366 ?_
      refine lv_if_eq (tgt := 372) hx hb d_La_law_367 (by decide) (fun cn17 => ?_) (fun cn17 => ?_)
      · replace h := (if_pos cn17).symm.trans h
        refine lv_goto (tgt := 1113) hx hb d_La_law_372 (by decide) ?_
        obtain ⟨v18, ev18, h⟩ := k_let_e h
        refine lv_iinc (v := v18) (lv' := [(4, .int v18), (6, .int v8), (5, .int v3), (0, .ref b), (1, .ref (a 0)), (2, .ref (a 6)), (3, .ref (a 65))]) hx hb d_La_law_1113 hl (k := 6) rfl (by rw [ev18]; rfl) (by decide) rfl (fun ls hl => ?_)
        refine lv_goto (tgt := 23) hx hb d_La_law_1116 (by decide) ?_
        exact hrec _ _ H locs ls _ _ (by omega) (by omega) hP hD hS (lv_sub hl [3, 4, 5, 6, 0] rfl) h
      · replace h := (if_neg cn17).symm.trans h
        refine lv_iconst (v := 0) hx hb d_La_law_370 (by decide) ?_
        exact (k_no01 h).elim
  · replace h := (if_neg cn14).symm.trans h
    refine lv_iconst (v := 0) hx hb d_La_law_353 (by decide) ?_
    exact (k_no01 h).elim
/-- pc 375 -/
def M_La_law_375 (L : Nat) (xs : Nat → Int32) (rec23 : kS → Int32 → Option (Int32 × kS)) (σ : kS) (x4 : Int32) : Option (Int32 × kS) := k_ld xs L ((x4 + 1)) fun v1 => k_ld xs L ((x4 + 2)) fun v2 => k_ld xs L ((x4 + 3)) fun v3 => k_call (M_La_test σ v1 v2 v3) fun v4 σ5 => k_ld xs L ((x4 + 1)) fun v7 => k_ld xs L ((x4 + 2)) fun v8 => k_ld xs L ((x4 + 3)) fun v9 => k_call (M_Md_test σ5 v7 v8 v9) fun v10 σ11 => k_call (M_Md_thrown σ11) fun v13 σ14 => if v13 = v4 then (if v4 = 0 then (if v10 = 0 then (if lg_cmp (σ14.2.2 (0 : Int32).toNatClampNeg) (0) = 0 then (k_let (x4 + 4) fun v21 => rec23 σ14 v21) else (some (0, σ14))) else (if lg_cmp (σ14.2.2 (0 : Int32).toNatClampNeg) (1) = 0 then (k_let (x4 + 4) fun v23 => rec23 σ14 v23) else (some (0, σ14)))) else (k_let (x4 + 4) fun v18 => rec23 σ14 v18)) else (some (0, σ14))
set_option maxHeartbeats 4000000 in
set_option maxRecDepth 100000 in
theorem B_La_law_375 {p : Program} {l : Launch} {e : Env} {s : State} {m : MethodId} {below : List Frame} {meth : Method} {c : Code} {D : va_G} {a : Nat → Nat} {c9 : Nat → ClassId} {b L : Nat} {xs : Nat → Int32} {σo : kS} (C0 : k_Lx D c9 l p s m meth c b L xs) {n : Nat} {rec23 : kS → Int32 → Option (Int32 × kS)} (hrec : ∀ (σ : kS) (x4 : Int32) (H : Heap) (locs : List Loc) (ls : Array Slot) (cells slots : Nat), cells + 6 * n ≤ 601024 → slots + 36 * n ≤ 7293034 → va_P D kcl (kw a c9 σ) H → va_D (fun q => s.heap.size ≤ q) (kw a c9 σ) → va_S (fun q => s.heap.size ≤ q) s.heap H locs → lv_has ls 7 [(0, .ref b), (1, .ref (a 0)), (2, .ref (a 6)), (3, .ref (a 65)), (4, .int x4)] → rec23 σ x4 = some (1, σo) → W p l e room_1 s m #[Value.ref b] below meth c H locs cells slots (lw_Z below #[Value.ref b] s) (F0 m 23 ls [])) (σ : kS) (x4 : Int32) (H : Heap) (locs : List Loc) (ls : Array Slot) (cells slots : Nat) (hcl : cells + 6 * n + 6 ≤ 601024) (hsl : slots + 36 * n + 36 ≤ 7293034) (hP : va_P D kcl (kw a c9 σ) H) (hD : va_D (fun q => s.heap.size ≤ q) (kw a c9 σ)) (hS : va_S (fun q => s.heap.size ≤ q) s.heap H locs) (hl : lv_has ls 7 [(0, .ref b), (1, .ref (a 0)), (2, .ref (a 6)), (3, .ref (a 65)), (4, .int x4)]) (h : M_La_law_375 L xs rec23 σ x4 = some (1, σo)) : W p l e room_1 s m #[Value.ref b] below meth c H locs cells slots (lw_Z below #[Value.ref b] s) (F0 m 375 ls []) := by
  obtain ⟨hx, hb, hml, hown, hts, hr, hlk, hK, hN, hst, hX, hY, hSc, hbl⟩ := id C0
  have hA : ∀ q : Nat, s.heap.size ≤ q → (fun q : Nat => s.heap.size ≤ q) q := fun _ h => h
  have hbA : ¬ (fun q : Nat => s.heap.size ≤ q) b := Nat.not_le.mpr hbl
  unfold M_La_law_375 at h
  refine lv_aload_n hx hb d_La_law_375 rfl (lv_at hl 1 rfl) ?_
  refine lv_aload_n hx hb d_La_law_376 rfl (lv_at hl 0 rfl) ?_
  refine lv_iload hx hb d_La_law_377 (lv_at hl 4 rfl) ?_
  refine lv_iconst (v := 1) hx hb d_La_law_379 (by decide) ?_
  refine lv_iadd hx hb d_La_law_380 ?_
  obtain ⟨v1, ev1, hv1, h⟩ := k_ld_e h
  refine va_sld hx hb hSc hbl hbA hS hv1 d_La_law_381 (k_top ev1 ?_)
  refine lv_aload_n hx hb d_La_law_382 rfl (lv_at hl 0 rfl) ?_
  refine lv_iload hx hb d_La_law_383 (lv_at hl 4 rfl) ?_
  refine lv_iconst (v := 2) hx hb d_La_law_385 (by decide) ?_
  refine lv_iadd hx hb d_La_law_386 ?_
  obtain ⟨v2, ev2, hv2, h⟩ := k_ld_e h
  refine va_sld hx hb hSc hbl hbA hS hv2 d_La_law_387 (k_top ev2 ?_)
  refine lv_aload_n hx hb d_La_law_388 rfl (lv_at hl 0 rfl) ?_
  refine lv_iload hx hb d_La_law_389 (lv_at hl 4 rfl) ?_
  refine lv_iconst (v := 3) hx hb d_La_law_391 (by decide) ?_
  refine lv_iadd hx hb d_La_law_392 ?_
  obtain ⟨v3, ev3, hv3, h⟩ := k_ld_e h
  refine va_sld hx hb hSc hbl hbA hS hv3 d_La_law_393 (k_top ev3 ?_)
  refine lv_aload_n hx hb d_La_law_394 rfl (lv_at hl 3 rfl) ?_
  obtain ⟨v4, σ5, hc6, h⟩ := k_call_e h
  refine k_calli (vx_runSW (As := [.ref (a 0), .int v1, .int v2, .int v3, .ref (a 65)]) (rest := []) ⟨hx, hb, hml, hown, hts⟩ (K_La_test l hst D a c9 H.size hc6) (vx_cwSW 5 hts (k_gSW q_406 q_407 q_0 w_408) rfl rfl rfl h_La_test.2 ⟨Nat.le_of_ble_eq_true rfl, Nat.le_of_ble_eq_true rfl⟩) (k_preSY hP hK hN hD hX hY hS hA) rfl rfl hl.1 rfl (lv_room (Nat.le_of_ble_eq_true rfl)) d_La_law_395 ⟨by show _ ≤ 601024; omega, by show _ ≤ 7293034; omega⟩) hD hS hA (fun H locs hP hD hS => ?_)
  refine lv_istore (lv' := [(5, .int v4), (0, .ref b), (1, .ref (a 0)), (2, .ref (a 6)), (3, .ref (a 65)), (4, .int x4)]) hx hb d_La_law_398 hl (by decide) rfl (fun ls hl => ?_)
  refine lv_aload_n hx hb d_La_law_400 rfl (lv_at hl 3 rfl) ?_
  refine lv_aload_n hx hb d_La_law_401 rfl (lv_at hl 1 rfl) ?_
  refine lv_iload hx hb d_La_law_402 (lv_at hl 5 rfl) ?_
  refine lv_iconst (v := 1) hx hb d_La_law_404 (by decide) ?_
  refine lv_iadd hx hb d_La_law_405 ?_
  obtain ⟨v7, ev7, hv7, h⟩ := k_ld_e h
  refine va_sld hx hb hSc hbl hbA hS hv7 d_La_law_406 (k_top ev7 ?_)
  refine lv_aload_n hx hb d_La_law_407 rfl (lv_at hl 1 rfl) ?_
  refine lv_iload hx hb d_La_law_408 (lv_at hl 5 rfl) ?_
  refine lv_iconst (v := 2) hx hb d_La_law_410 (by decide) ?_
  refine lv_iadd hx hb d_La_law_411 ?_
  obtain ⟨v8, ev8, hv8, h⟩ := k_ld_e h
  refine va_sld hx hb hSc hbl hbA hS hv8 d_La_law_412 (k_top ev8 ?_)
  refine lv_aload_n hx hb d_La_law_413 rfl (lv_at hl 1 rfl) ?_
  refine lv_iload hx hb d_La_law_414 (lv_at hl 5 rfl) ?_
  refine lv_iconst (v := 3) hx hb d_La_law_416 (by decide) ?_
  refine lv_iadd hx hb d_La_law_417 ?_
  obtain ⟨v9, ev9, hv9, h⟩ := k_ld_e h
  refine va_sld hx hb hSc hbl hbA hS hv9 d_La_law_418 (k_top ev9 ?_)
  obtain ⟨v10, σ11, hc12, h⟩ := k_call_e h
  refine k_calli (va_runV (As := [.int v7, .int v8, .int v9]) (rest := []) ⟨hx, hb, hml, hown, hts⟩ (K_Md_test l D a c9 H.size hc12) (cwV 3 hts (k_gV q_881 q_882 q_883 q_7 q_884) rfl rfl rfl h_Md_test ⟨Nat.le_of_ble_eq_true rfl, Nat.le_of_ble_eq_true rfl⟩) (k_preV (ci := 1) (q0 := 6) rfl kw_6 hP hK hN hD) rfl rfl hl.1 rfl (lv_room (Nat.le_of_ble_eq_true rfl)) d_La_law_419 ⟨by show _ ≤ 601024; omega, by show _ ≤ 7293034; omega⟩) hD hS hA (fun H locs hP hD hS => ?_)
  refine lv_istore (lv' := [(6, .int v10), (5, .int v4), (0, .ref b), (1, .ref (a 0)), (2, .ref (a 6)), (3, .ref (a 65)), (4, .int x4)]) hx hb d_La_law_422 hl (by decide) rfl (fun ls hl => ?_)
  refine lv_aload_n hx hb d_La_law_424 rfl (lv_at hl 4 rfl) ?_
  obtain ⟨v13, σ14, hc15, h⟩ := k_call_e h
  refine k_calli (va_runV (As := []) (rest := []) ⟨hx, hb, hml, hown, hts⟩ (K_Md_thrown l D a c9 H.size hc15) (cwV 0 hts (k_gV q_846 q_847 q_848 q_7 q_849) rfl rfl rfl h_Md_thrown ⟨Nat.le_of_ble_eq_true rfl, Nat.le_of_ble_eq_true rfl⟩) (k_preV (ci := 1) (q0 := 6) rfl kw_6 hP hK hN hD) rfl rfl hl.1 rfl (lv_room (Nat.le_of_ble_eq_true rfl)) d_La_law_425 ⟨by show _ ≤ 601024; omega, by show _ ≤ 7293034; omega⟩) hD hS hA (fun H locs hP hD hS => ?_)
  refine lv_iload hx hb d_La_law_428 (lv_at hl 1 rfl) ?_
  refine lv_icmp_eq (tgt := 435) hx hb d_La_law_430 (by decide) (fun cn16 => ?_) (fun cn16 => ?_)
  · replace h := (if_pos cn16).symm.trans h
    refine lv_iload hx hb d_La_law_435 (lv_at hl 1 rfl) ?_
    refine lv_if_ne (tgt := 459) hx hb d_La_law_437 (by decide) (fun cn17 => ?_) (fun cn17 => ?_)
    · replace h := (if_neg cn17).symm.trans h
      refine lv_goto (tgt := 1113) hx hb d_La_law_459 (by decide) ?_
      obtain ⟨v18, ev18, h⟩ := k_let_e h
      refine lv_iinc (v := v18) (lv' := [(4, .int v18), (6, .int v10), (5, .int v4), (0, .ref b), (1, .ref (a 0)), (2, .ref (a 6)), (3, .ref (a 65))]) hx hb d_La_law_1113 hl (k := 6) rfl (by rw [ev18]; rfl) (by decide) rfl (fun ls hl => ?_)
      refine lv_goto (tgt := 23) hx hb d_La_law_1116 (by decide) ?_
      exact hrec _ _ H locs ls _ _ (by omega) (by omega) hP hD hS (lv_sub hl [3, 4, 5, 6, 0] rfl) h
    · replace h := (if_pos cn17).symm.trans h
      refine lv_aload_n hx hb d_La_law_440 rfl (lv_at hl 5 rfl) ?_
      refine lv_iconst (v := 0) hx hb d_La_law_441 (by decide) ?_
      refine va_lald hx hb hK hP 65 2 kw_65 rfl k_in01 d_La_law_442 ?_
      refine lv_iload hx hb d_La_law_443 (lv_at hl 0 rfl) ?_
      refine lv_if_eq (tgt := 452) hx hb d_La_law_445 (by decide) (fun cn19 => ?_) (fun cn19 => ?_)
      · replace h := (if_pos cn19).symm.trans h
        refine lv_lconst (v := 0) hx hb d_La_law_452 rfl ?_
        refine W.lcmp hx hb d_La_law_453 ?_
        refine lv_if_eq (tgt := 459) hx hb d_La_law_454 (by decide) (fun cn20 => ?_) (fun cn20 => ?_)
        · replace h := (if_pos cn20).symm.trans h
          refine lv_goto (tgt := 1113) hx hb d_La_law_459 (by decide) ?_
          obtain ⟨v21, ev21, h⟩ := k_let_e h
          refine lv_iinc (v := v21) (lv' := [(4, .int v21), (6, .int v10), (5, .int v4), (0, .ref b), (1, .ref (a 0)), (2, .ref (a 6)), (3, .ref (a 65))]) hx hb d_La_law_1113 hl (k := 6) rfl (by rw [ev21]; rfl) (by decide) rfl (fun ls hl => ?_)
          refine lv_goto (tgt := 23) hx hb d_La_law_1116 (by decide) ?_
          exact hrec _ _ H locs ls _ _ (by omega) (by omega) hP hD hS (lv_sub hl [3, 4, 5, 6, 0] rfl) h
        · replace h := (if_neg cn20).symm.trans h
          refine lv_iconst (v := 0) hx hb d_La_law_457 (by decide) ?_
          exact (k_no01 h).elim
      · replace h := (if_neg cn19).symm.trans h
        refine lv_lconst (v := 1) hx hb d_La_law_448 rfl ?_
        refine lv_goto (tgt := 453) hx hb d_La_law_449 (by decide) ?_
        refine W.lcmp hx hb d_La_law_453 ?_
        refine lv_if_eq (tgt := 459) hx hb d_La_law_454 (by decide) (fun cn22 => ?_) (fun cn22 => ?_)
        · replace h := (if_pos cn22).symm.trans h
          refine lv_goto (tgt := 1113) hx hb d_La_law_459 (by decide) ?_
          obtain ⟨v23, ev23, h⟩ := k_let_e h
          refine lv_iinc (v := v23) (lv' := [(4, .int v23), (6, .int v10), (5, .int v4), (0, .ref b), (1, .ref (a 0)), (2, .ref (a 6)), (3, .ref (a 65))]) hx hb d_La_law_1113 hl (k := 6) rfl (by rw [ev23]; rfl) (by decide) rfl (fun ls hl => ?_)
          refine lv_goto (tgt := 23) hx hb d_La_law_1116 (by decide) ?_
          exact hrec _ _ H locs ls _ _ (by omega) (by omega) hP hD hS (lv_sub hl [3, 4, 5, 6, 0] rfl) h
        · replace h := (if_neg cn22).symm.trans h
          refine lv_iconst (v := 0) hx hb d_La_law_457 (by decide) ?_
          exact (k_no01 h).elim
  · replace h := (if_neg cn16).symm.trans h
    refine lv_iconst (v := 0) hx hb d_La_law_433 (by decide) ?_
    exact (k_no01 h).elim
/-- pc 462 -/
def M_La_law_462 (L : Nat) (xs : Nat → Int32) (rec23 : kS → Int32 → Option (Int32 × kS)) (σ : kS) (x4 : Int32) : Option (Int32 × kS) := k_ld xs L ((x4 + 1)) fun v1 => k_ld xs L ((x4 + 2)) fun v2 => k_ld xs L ((x4 + 3)) fun v3 => k_call (M_La_match σ v1 v2 v3) fun v4 σ5 => k_ld xs L ((x4 + 1)) fun v7 => k_ld xs L ((x4 + 2)) fun v8 => k_ld xs L ((x4 + 3)) fun v9 => k_call (M_Md_match σ5 v7 v8 v9) fun v10 σ11 => k_call (M_Md_thrown σ11) fun v13 σ14 => if v13 = v4 then (if v4 = 0 then (if lg_cmp (σ14.2.2 (0 : Int32).toNatClampNeg) ((v10 : Int32).toInt64) = 0 then (k_let (x4 + 4) fun v20 => rec23 σ14 v20) else (some (0, σ14))) else (k_let (x4 + 4) fun v18 => rec23 σ14 v18)) else (some (0, σ14))
set_option maxHeartbeats 4000000 in
set_option maxRecDepth 100000 in
theorem B_La_law_462 {p : Program} {l : Launch} {e : Env} {s : State} {m : MethodId} {below : List Frame} {meth : Method} {c : Code} {D : va_G} {a : Nat → Nat} {c9 : Nat → ClassId} {b L : Nat} {xs : Nat → Int32} {σo : kS} (C0 : k_Lx D c9 l p s m meth c b L xs) {n : Nat} {rec23 : kS → Int32 → Option (Int32 × kS)} (hrec : ∀ (σ : kS) (x4 : Int32) (H : Heap) (locs : List Loc) (ls : Array Slot) (cells slots : Nat), cells + 6 * n ≤ 601024 → slots + 36 * n ≤ 7293034 → va_P D kcl (kw a c9 σ) H → va_D (fun q => s.heap.size ≤ q) (kw a c9 σ) → va_S (fun q => s.heap.size ≤ q) s.heap H locs → lv_has ls 7 [(0, .ref b), (1, .ref (a 0)), (2, .ref (a 6)), (3, .ref (a 65)), (4, .int x4)] → rec23 σ x4 = some (1, σo) → W p l e room_1 s m #[Value.ref b] below meth c H locs cells slots (lw_Z below #[Value.ref b] s) (F0 m 23 ls [])) (σ : kS) (x4 : Int32) (H : Heap) (locs : List Loc) (ls : Array Slot) (cells slots : Nat) (hcl : cells + 6 * n + 6 ≤ 601024) (hsl : slots + 36 * n + 36 ≤ 7293034) (hP : va_P D kcl (kw a c9 σ) H) (hD : va_D (fun q => s.heap.size ≤ q) (kw a c9 σ)) (hS : va_S (fun q => s.heap.size ≤ q) s.heap H locs) (hl : lv_has ls 7 [(0, .ref b), (1, .ref (a 0)), (2, .ref (a 6)), (3, .ref (a 65)), (4, .int x4)]) (h : M_La_law_462 L xs rec23 σ x4 = some (1, σo)) : W p l e room_1 s m #[Value.ref b] below meth c H locs cells slots (lw_Z below #[Value.ref b] s) (F0 m 462 ls []) := by
  obtain ⟨hx, hb, hml, hown, hts, hr, hlk, hK, hN, hst, hX, hY, hSc, hbl⟩ := id C0
  have hA : ∀ q : Nat, s.heap.size ≤ q → (fun q : Nat => s.heap.size ≤ q) q := fun _ h => h
  have hbA : ¬ (fun q : Nat => s.heap.size ≤ q) b := Nat.not_le.mpr hbl
  unfold M_La_law_462 at h
  refine lv_aload_n hx hb d_La_law_462 rfl (lv_at hl 1 rfl) ?_
  refine lv_aload_n hx hb d_La_law_463 rfl (lv_at hl 0 rfl) ?_
  refine lv_iload hx hb d_La_law_464 (lv_at hl 4 rfl) ?_
  refine lv_iconst (v := 1) hx hb d_La_law_466 (by decide) ?_
  refine lv_iadd hx hb d_La_law_467 ?_
  obtain ⟨v1, ev1, hv1, h⟩ := k_ld_e h
  refine va_sld hx hb hSc hbl hbA hS hv1 d_La_law_468 (k_top ev1 ?_)
  refine lv_aload_n hx hb d_La_law_469 rfl (lv_at hl 0 rfl) ?_
  refine lv_iload hx hb d_La_law_470 (lv_at hl 4 rfl) ?_
  refine lv_iconst (v := 2) hx hb d_La_law_472 (by decide) ?_
  refine lv_iadd hx hb d_La_law_473 ?_
  obtain ⟨v2, ev2, hv2, h⟩ := k_ld_e h
  refine va_sld hx hb hSc hbl hbA hS hv2 d_La_law_474 (k_top ev2 ?_)
  refine lv_aload_n hx hb d_La_law_475 rfl (lv_at hl 0 rfl) ?_
  refine lv_iload hx hb d_La_law_476 (lv_at hl 4 rfl) ?_
  refine lv_iconst (v := 3) hx hb d_La_law_478 (by decide) ?_
  refine lv_iadd hx hb d_La_law_479 ?_
  obtain ⟨v3, ev3, hv3, h⟩ := k_ld_e h
  refine va_sld hx hb hSc hbl hbA hS hv3 d_La_law_480 (k_top ev3 ?_)
  refine lv_aload_n hx hb d_La_law_481 rfl (lv_at hl 3 rfl) ?_
  obtain ⟨v4, σ5, hc6, h⟩ := k_call_e h
  refine k_calli (vx_runSW (As := [.ref (a 0), .int v1, .int v2, .int v3, .ref (a 65)]) (rest := []) ⟨hx, hb, hml, hown, hts⟩ (K_La_match l hst D a c9 H.size hc6) (vx_cwSW 5 hts (k_gSW q_422 q_423 q_0 w_424) rfl rfl rfl h_La_match.2 ⟨Nat.le_of_ble_eq_true rfl, Nat.le_of_ble_eq_true rfl⟩) (k_preSY hP hK hN hD hX hY hS hA) rfl rfl hl.1 rfl (lv_room (Nat.le_of_ble_eq_true rfl)) d_La_law_482 ⟨by show _ ≤ 601024; omega, by show _ ≤ 7293034; omega⟩) hD hS hA (fun H locs hP hD hS => ?_)
  refine lv_istore (lv' := [(5, .int v4), (0, .ref b), (1, .ref (a 0)), (2, .ref (a 6)), (3, .ref (a 65)), (4, .int x4)]) hx hb d_La_law_485 hl (by decide) rfl (fun ls hl => ?_)
  refine lv_aload_n hx hb d_La_law_487 rfl (lv_at hl 3 rfl) ?_
  refine lv_aload_n hx hb d_La_law_488 rfl (lv_at hl 1 rfl) ?_
  refine lv_iload hx hb d_La_law_489 (lv_at hl 5 rfl) ?_
  refine lv_iconst (v := 1) hx hb d_La_law_491 (by decide) ?_
  refine lv_iadd hx hb d_La_law_492 ?_
  obtain ⟨v7, ev7, hv7, h⟩ := k_ld_e h
  refine va_sld hx hb hSc hbl hbA hS hv7 d_La_law_493 (k_top ev7 ?_)
  refine lv_aload_n hx hb d_La_law_494 rfl (lv_at hl 1 rfl) ?_
  refine lv_iload hx hb d_La_law_495 (lv_at hl 5 rfl) ?_
  refine lv_iconst (v := 2) hx hb d_La_law_497 (by decide) ?_
  refine lv_iadd hx hb d_La_law_498 ?_
  obtain ⟨v8, ev8, hv8, h⟩ := k_ld_e h
  refine va_sld hx hb hSc hbl hbA hS hv8 d_La_law_499 (k_top ev8 ?_)
  refine lv_aload_n hx hb d_La_law_500 rfl (lv_at hl 1 rfl) ?_
  refine lv_iload hx hb d_La_law_501 (lv_at hl 5 rfl) ?_
  refine lv_iconst (v := 3) hx hb d_La_law_503 (by decide) ?_
  refine lv_iadd hx hb d_La_law_504 ?_
  obtain ⟨v9, ev9, hv9, h⟩ := k_ld_e h
  refine va_sld hx hb hSc hbl hbA hS hv9 d_La_law_505 (k_top ev9 ?_)
  obtain ⟨v10, σ11, hc12, h⟩ := k_call_e h
  refine k_calli (va_runV (As := [.int v7, .int v8, .int v9]) (rest := []) ⟨hx, hb, hml, hown, hts⟩ (K_Md_match l D a c9 H.size hc12) (cwV 3 hts (k_gV q_885 q_886 q_887 q_7 q_888) rfl rfl rfl h_Md_match ⟨Nat.le_of_ble_eq_true rfl, Nat.le_of_ble_eq_true rfl⟩) (k_preV (ci := 1) (q0 := 6) rfl kw_6 hP hK hN hD) rfl rfl hl.1 rfl (lv_room (Nat.le_of_ble_eq_true rfl)) d_La_law_506 ⟨by show _ ≤ 601024; omega, by show _ ≤ 7293034; omega⟩) hD hS hA (fun H locs hP hD hS => ?_)
  refine lv_istore (lv' := [(6, .int v10), (5, .int v4), (0, .ref b), (1, .ref (a 0)), (2, .ref (a 6)), (3, .ref (a 65)), (4, .int x4)]) hx hb d_La_law_509 hl (by decide) rfl (fun ls hl => ?_)
  refine lv_aload_n hx hb d_La_law_511 rfl (lv_at hl 4 rfl) ?_
  obtain ⟨v13, σ14, hc15, h⟩ := k_call_e h
  refine k_calli (va_runV (As := []) (rest := []) ⟨hx, hb, hml, hown, hts⟩ (K_Md_thrown l D a c9 H.size hc15) (cwV 0 hts (k_gV q_846 q_847 q_848 q_7 q_849) rfl rfl rfl h_Md_thrown ⟨Nat.le_of_ble_eq_true rfl, Nat.le_of_ble_eq_true rfl⟩) (k_preV (ci := 1) (q0 := 6) rfl kw_6 hP hK hN hD) rfl rfl hl.1 rfl (lv_room (Nat.le_of_ble_eq_true rfl)) d_La_law_512 ⟨by show _ ≤ 601024; omega, by show _ ≤ 7293034; omega⟩) hD hS hA (fun H locs hP hD hS => ?_)
  refine lv_iload hx hb d_La_law_515 (lv_at hl 1 rfl) ?_
  refine lv_icmp_eq (tgt := 522) hx hb d_La_law_517 (by decide) (fun cn16 => ?_) (fun cn16 => ?_)
  · replace h := (if_pos cn16).symm.trans h
    refine lv_iload hx hb d_La_law_522 (lv_at hl 1 rfl) ?_
    refine lv_if_ne (tgt := 539) hx hb d_La_law_524 (by decide) (fun cn17 => ?_) (fun cn17 => ?_)
    · replace h := (if_neg cn17).symm.trans h
      refine lv_goto (tgt := 1113) hx hb d_La_law_539 (by decide) ?_
      obtain ⟨v18, ev18, h⟩ := k_let_e h
      refine lv_iinc (v := v18) (lv' := [(4, .int v18), (6, .int v10), (5, .int v4), (0, .ref b), (1, .ref (a 0)), (2, .ref (a 6)), (3, .ref (a 65))]) hx hb d_La_law_1113 hl (k := 6) rfl (by rw [ev18]; rfl) (by decide) rfl (fun ls hl => ?_)
      refine lv_goto (tgt := 23) hx hb d_La_law_1116 (by decide) ?_
      exact hrec _ _ H locs ls _ _ (by omega) (by omega) hP hD hS (lv_sub hl [3, 4, 5, 6, 0] rfl) h
    · replace h := (if_pos cn17).symm.trans h
      refine lv_aload_n hx hb d_La_law_527 rfl (lv_at hl 5 rfl) ?_
      refine lv_iconst (v := 0) hx hb d_La_law_528 (by decide) ?_
      refine va_lald hx hb hK hP 65 2 kw_65 rfl k_in01 d_La_law_529 ?_
      refine lv_iload hx hb d_La_law_530 (lv_at hl 0 rfl) ?_
      refine lv_i2l (v := (v10 : Int32).toInt64) hx hb d_La_law_532 rfl ?_
      refine W.lcmp hx hb d_La_law_533 ?_
      refine lv_if_eq (tgt := 539) hx hb d_La_law_534 (by decide) (fun cn19 => ?_) (fun cn19 => ?_)
      · replace h := (if_pos cn19).symm.trans h
        refine lv_goto (tgt := 1113) hx hb d_La_law_539 (by decide) ?_
        obtain ⟨v20, ev20, h⟩ := k_let_e h
        refine lv_iinc (v := v20) (lv' := [(4, .int v20), (6, .int v10), (5, .int v4), (0, .ref b), (1, .ref (a 0)), (2, .ref (a 6)), (3, .ref (a 65))]) hx hb d_La_law_1113 hl (k := 6) rfl (by rw [ev20]; rfl) (by decide) rfl (fun ls hl => ?_)
        refine lv_goto (tgt := 23) hx hb d_La_law_1116 (by decide) ?_
        exact hrec _ _ H locs ls _ _ (by omega) (by omega) hP hD hS (lv_sub hl [3, 4, 5, 6, 0] rfl) h
      · replace h := (if_neg cn19).symm.trans h
        refine lv_iconst (v := 0) hx hb d_La_law_537 (by decide) ?_
        exact (k_no01 h).elim
  · replace h := (if_neg cn16).symm.trans h
    refine lv_iconst (v := 0) hx hb d_La_law_520 (by decide) ?_
    exact (k_no01 h).elim
/-- pc 542 -/
def M_La_law_542 (L : Nat) (xs : Nat → Int32) (rec23 : kS → Int32 → Option (Int32 × kS)) (σ : kS) (x4 : Int32) : Option (Int32 × kS) := k_call (M_SM_tried σ) fun v1 σ2 => k_call (M_Md_tried σ2) fun v4 σ5 => if v1 = v4 then (k_let (x4 + 4) fun v8 => rec23 σ5 v8) else (some (0, σ5))
set_option maxHeartbeats 4000000 in
set_option maxRecDepth 100000 in
theorem B_La_law_542 {p : Program} {l : Launch} {e : Env} {s : State} {m : MethodId} {below : List Frame} {meth : Method} {c : Code} {D : va_G} {a : Nat → Nat} {c9 : Nat → ClassId} {b L : Nat} {xs : Nat → Int32} {σo : kS} (C0 : k_Lx D c9 l p s m meth c b L xs) {n : Nat} {rec23 : kS → Int32 → Option (Int32 × kS)} (hrec : ∀ (σ : kS) (x4 : Int32) (H : Heap) (locs : List Loc) (ls : Array Slot) (cells slots : Nat), cells + 6 * n ≤ 601024 → slots + 36 * n ≤ 7293034 → va_P D kcl (kw a c9 σ) H → va_D (fun q => s.heap.size ≤ q) (kw a c9 σ) → va_S (fun q => s.heap.size ≤ q) s.heap H locs → lv_has ls 7 [(0, .ref b), (1, .ref (a 0)), (2, .ref (a 6)), (3, .ref (a 65)), (4, .int x4)] → rec23 σ x4 = some (1, σo) → W p l e room_1 s m #[Value.ref b] below meth c H locs cells slots (lw_Z below #[Value.ref b] s) (F0 m 23 ls [])) (σ : kS) (x4 : Int32) (H : Heap) (locs : List Loc) (ls : Array Slot) (cells slots : Nat) (hcl : cells + 6 * n + 6 ≤ 601024) (hsl : slots + 36 * n + 36 ≤ 7293034) (hP : va_P D kcl (kw a c9 σ) H) (hD : va_D (fun q => s.heap.size ≤ q) (kw a c9 σ)) (hS : va_S (fun q => s.heap.size ≤ q) s.heap H locs) (hl : lv_has ls 7 [(0, .ref b), (1, .ref (a 0)), (2, .ref (a 6)), (3, .ref (a 65)), (4, .int x4)]) (h : M_La_law_542 L xs rec23 σ x4 = some (1, σo)) : W p l e room_1 s m #[Value.ref b] below meth c H locs cells slots (lw_Z below #[Value.ref b] s) (F0 m 542 ls []) := by
  obtain ⟨hx, hb, hml, hown, hts, hr, hlk, hK, hN, hst, hX, hY, hSc, hbl⟩ := id C0
  have hA : ∀ q : Nat, s.heap.size ≤ q → (fun q : Nat => s.heap.size ≤ q) q := fun _ h => h
  have hbA : ¬ (fun q : Nat => s.heap.size ≤ q) b := Nat.not_le.mpr hbl
  unfold M_La_law_542 at h
  refine lv_aload_n hx hb d_La_law_542 rfl (lv_at hl 1 rfl) ?_
  obtain ⟨v1, σ2, hc3, h⟩ := k_call_e h
  refine k_calli (va_runV (As := []) (rest := []) ⟨hx, hb, hml, hown, hts⟩ (K_SM_tried l D a c9 H.size hc3) (cwV 0 hts (k_gV q_193 q_194 q_195 q_1 q_196) rfl rfl rfl h_SM_tried ⟨Nat.le_of_ble_eq_true rfl, Nat.le_of_ble_eq_true rfl⟩) (k_preV (ci := 0) (q0 := 0) rfl kw_0 hP hK hN hD) rfl rfl hl.1 rfl (lv_room (Nat.le_of_ble_eq_true rfl)) d_La_law_543 ⟨by show _ ≤ 601024; omega, by show _ ≤ 7293034; omega⟩) hD hS hA (fun H locs hP hD hS => ?_)
  refine lv_aload_n hx hb d_La_law_546 rfl (lv_at hl 2 rfl) ?_
  obtain ⟨v4, σ5, hc6, h⟩ := k_call_e h
  refine k_calli (va_runV (As := []) (rest := [.int v1]) ⟨hx, hb, hml, hown, hts⟩ (K_Md_tried l D a c9 H.size hc6) (cwV 0 hts (k_gV q_946 q_947 q_948 q_7 q_949) rfl rfl rfl h_Md_tried ⟨Nat.le_of_ble_eq_true rfl, Nat.le_of_ble_eq_true rfl⟩) (k_preV (ci := 1) (q0 := 6) rfl kw_6 hP hK hN hD) rfl rfl hl.1 rfl (lv_room (Nat.le_of_ble_eq_true rfl)) d_La_law_547 ⟨by show _ ≤ 601024; omega, by show _ ≤ 7293034; omega⟩) hD hS hA (fun H locs hP hD hS => ?_)
  refine lv_icmp_eq (tgt := 1113) hx hb d_La_law_550 (by decide) (fun cn7 => ?_) (fun cn7 => ?_)
  · replace h := (if_pos cn7).symm.trans h
    obtain ⟨v8, ev8, h⟩ := k_let_e h
    refine lv_iinc (v := v8) (lv' := [(4, .int v8), (0, .ref b), (1, .ref (a 0)), (2, .ref (a 6)), (3, .ref (a 65))]) hx hb d_La_law_1113 hl (k := 4) rfl (by rw [ev8]; rfl) (by decide) rfl (fun ls hl => ?_)
    refine lv_goto (tgt := 23) hx hb d_La_law_1116 (by decide) ?_
    exact hrec _ _ H locs ls _ _ (by omega) (by omega) hP hD hS (lv_sub hl [1, 2, 3, 4, 0] rfl) h
  · replace h := (if_neg cn7).symm.trans h
    refine lv_iconst (v := 0) hx hb d_La_law_553 (by decide) ?_
    exact (k_no01 h).elim
/-- pc 555 -/
def M_La_law_555 (L : Nat) (xs : Nat → Int32) (rec23 : kS → Int32 → Option (Int32 × kS)) (σ : kS) (x4 : Int32) : Option (Int32 × kS) := k_ld xs L ((x4 + 1)) fun v1 => k_ld xs L ((x4 + 2)) fun v2 => k_ld xs L ((x4 + 3)) fun v3 => k_call (M_La_bound σ v1 v2 v3) fun v4 σ5 => k_ld xs L ((x4 + 1)) fun v7 => k_ld xs L ((x4 + 2)) fun v8 => k_ld xs L ((x4 + 3)) fun v9 => k_call (M_Md_bound σ5 v7 v8 v9) fun v10 σ11 => k_call (M_Md_thrown σ11) fun v13 σ14 => if v13 = v4 then (if v4 = 0 then (if lg_cmp (σ14.2.2 (0 : Int32).toNatClampNeg) ((v10 : Int32).toInt64) = 0 then (k_let (x4 + 4) fun v20 => rec23 σ14 v20) else (some (0, σ14))) else (k_let (x4 + 4) fun v18 => rec23 σ14 v18)) else (some (0, σ14))
set_option maxHeartbeats 4000000 in
set_option maxRecDepth 100000 in
theorem B_La_law_555 {p : Program} {l : Launch} {e : Env} {s : State} {m : MethodId} {below : List Frame} {meth : Method} {c : Code} {D : va_G} {a : Nat → Nat} {c9 : Nat → ClassId} {b L : Nat} {xs : Nat → Int32} {σo : kS} (C0 : k_Lx D c9 l p s m meth c b L xs) {n : Nat} {rec23 : kS → Int32 → Option (Int32 × kS)} (hrec : ∀ (σ : kS) (x4 : Int32) (H : Heap) (locs : List Loc) (ls : Array Slot) (cells slots : Nat), cells + 6 * n ≤ 601024 → slots + 36 * n ≤ 7293034 → va_P D kcl (kw a c9 σ) H → va_D (fun q => s.heap.size ≤ q) (kw a c9 σ) → va_S (fun q => s.heap.size ≤ q) s.heap H locs → lv_has ls 7 [(0, .ref b), (1, .ref (a 0)), (2, .ref (a 6)), (3, .ref (a 65)), (4, .int x4)] → rec23 σ x4 = some (1, σo) → W p l e room_1 s m #[Value.ref b] below meth c H locs cells slots (lw_Z below #[Value.ref b] s) (F0 m 23 ls [])) (σ : kS) (x4 : Int32) (H : Heap) (locs : List Loc) (ls : Array Slot) (cells slots : Nat) (hcl : cells + 6 * n + 6 ≤ 601024) (hsl : slots + 36 * n + 36 ≤ 7293034) (hP : va_P D kcl (kw a c9 σ) H) (hD : va_D (fun q => s.heap.size ≤ q) (kw a c9 σ)) (hS : va_S (fun q => s.heap.size ≤ q) s.heap H locs) (hl : lv_has ls 7 [(0, .ref b), (1, .ref (a 0)), (2, .ref (a 6)), (3, .ref (a 65)), (4, .int x4)]) (h : M_La_law_555 L xs rec23 σ x4 = some (1, σo)) : W p l e room_1 s m #[Value.ref b] below meth c H locs cells slots (lw_Z below #[Value.ref b] s) (F0 m 555 ls []) := by
  obtain ⟨hx, hb, hml, hown, hts, hr, hlk, hK, hN, hst, hX, hY, hSc, hbl⟩ := id C0
  have hA : ∀ q : Nat, s.heap.size ≤ q → (fun q : Nat => s.heap.size ≤ q) q := fun _ h => h
  have hbA : ¬ (fun q : Nat => s.heap.size ≤ q) b := Nat.not_le.mpr hbl
  unfold M_La_law_555 at h
  refine lv_aload_n hx hb d_La_law_555 rfl (lv_at hl 1 rfl) ?_
  refine lv_aload_n hx hb d_La_law_556 rfl (lv_at hl 0 rfl) ?_
  refine lv_iload hx hb d_La_law_557 (lv_at hl 4 rfl) ?_
  refine lv_iconst (v := 1) hx hb d_La_law_559 (by decide) ?_
  refine lv_iadd hx hb d_La_law_560 ?_
  obtain ⟨v1, ev1, hv1, h⟩ := k_ld_e h
  refine va_sld hx hb hSc hbl hbA hS hv1 d_La_law_561 (k_top ev1 ?_)
  refine lv_aload_n hx hb d_La_law_562 rfl (lv_at hl 0 rfl) ?_
  refine lv_iload hx hb d_La_law_563 (lv_at hl 4 rfl) ?_
  refine lv_iconst (v := 2) hx hb d_La_law_565 (by decide) ?_
  refine lv_iadd hx hb d_La_law_566 ?_
  obtain ⟨v2, ev2, hv2, h⟩ := k_ld_e h
  refine va_sld hx hb hSc hbl hbA hS hv2 d_La_law_567 (k_top ev2 ?_)
  refine lv_aload_n hx hb d_La_law_568 rfl (lv_at hl 0 rfl) ?_
  refine lv_iload hx hb d_La_law_569 (lv_at hl 4 rfl) ?_
  refine lv_iconst (v := 3) hx hb d_La_law_571 (by decide) ?_
  refine lv_iadd hx hb d_La_law_572 ?_
  obtain ⟨v3, ev3, hv3, h⟩ := k_ld_e h
  refine va_sld hx hb hSc hbl hbA hS hv3 d_La_law_573 (k_top ev3 ?_)
  refine lv_aload_n hx hb d_La_law_574 rfl (lv_at hl 3 rfl) ?_
  obtain ⟨v4, σ5, hc6, h⟩ := k_call_e h
  refine k_calli (vx_runSW (As := [.ref (a 0), .int v1, .int v2, .int v3, .ref (a 65)]) (rest := []) ⟨hx, hb, hml, hown, hts⟩ (K_La_bound l hst D a c9 H.size hc6) (vx_cwSW 5 hts (k_gSW q_613 q_614 q_0 w_615) rfl rfl rfl h_La_bound.2 ⟨Nat.le_of_ble_eq_true rfl, Nat.le_of_ble_eq_true rfl⟩) (k_preSY hP hK hN hD hX hY hS hA) rfl rfl hl.1 rfl (lv_room (Nat.le_of_ble_eq_true rfl)) d_La_law_575 ⟨by show _ ≤ 601024; omega, by show _ ≤ 7293034; omega⟩) hD hS hA (fun H locs hP hD hS => ?_)
  refine lv_istore (lv' := [(5, .int v4), (0, .ref b), (1, .ref (a 0)), (2, .ref (a 6)), (3, .ref (a 65)), (4, .int x4)]) hx hb d_La_law_578 hl (by decide) rfl (fun ls hl => ?_)
  refine lv_aload_n hx hb d_La_law_580 rfl (lv_at hl 3 rfl) ?_
  refine lv_aload_n hx hb d_La_law_581 rfl (lv_at hl 1 rfl) ?_
  refine lv_iload hx hb d_La_law_582 (lv_at hl 5 rfl) ?_
  refine lv_iconst (v := 1) hx hb d_La_law_584 (by decide) ?_
  refine lv_iadd hx hb d_La_law_585 ?_
  obtain ⟨v7, ev7, hv7, h⟩ := k_ld_e h
  refine va_sld hx hb hSc hbl hbA hS hv7 d_La_law_586 (k_top ev7 ?_)
  refine lv_aload_n hx hb d_La_law_587 rfl (lv_at hl 1 rfl) ?_
  refine lv_iload hx hb d_La_law_588 (lv_at hl 5 rfl) ?_
  refine lv_iconst (v := 2) hx hb d_La_law_590 (by decide) ?_
  refine lv_iadd hx hb d_La_law_591 ?_
  obtain ⟨v8, ev8, hv8, h⟩ := k_ld_e h
  refine va_sld hx hb hSc hbl hbA hS hv8 d_La_law_592 (k_top ev8 ?_)
  refine lv_aload_n hx hb d_La_law_593 rfl (lv_at hl 1 rfl) ?_
  refine lv_iload hx hb d_La_law_594 (lv_at hl 5 rfl) ?_
  refine lv_iconst (v := 3) hx hb d_La_law_596 (by decide) ?_
  refine lv_iadd hx hb d_La_law_597 ?_
  obtain ⟨v9, ev9, hv9, h⟩ := k_ld_e h
  refine va_sld hx hb hSc hbl hbA hS hv9 d_La_law_598 (k_top ev9 ?_)
  obtain ⟨v10, σ11, hc12, h⟩ := k_call_e h
  refine k_calli (va_runV (As := [.int v7, .int v8, .int v9]) (rest := []) ⟨hx, hb, hml, hown, hts⟩ (K_Md_bound l D a c9 H.size hc12) (cwV 3 hts (k_gV q_950 q_951 q_952 q_7 q_953) rfl rfl rfl h_Md_bound ⟨Nat.le_of_ble_eq_true rfl, Nat.le_of_ble_eq_true rfl⟩) (k_preV (ci := 1) (q0 := 6) rfl kw_6 hP hK hN hD) rfl rfl hl.1 rfl (lv_room (Nat.le_of_ble_eq_true rfl)) d_La_law_599 ⟨by show _ ≤ 601024; omega, by show _ ≤ 7293034; omega⟩) hD hS hA (fun H locs hP hD hS => ?_)
  refine lv_istore (lv' := [(6, .int v10), (5, .int v4), (0, .ref b), (1, .ref (a 0)), (2, .ref (a 6)), (3, .ref (a 65)), (4, .int x4)]) hx hb d_La_law_602 hl (by decide) rfl (fun ls hl => ?_)
  refine lv_aload_n hx hb d_La_law_604 rfl (lv_at hl 4 rfl) ?_
  obtain ⟨v13, σ14, hc15, h⟩ := k_call_e h
  refine k_calli (va_runV (As := []) (rest := []) ⟨hx, hb, hml, hown, hts⟩ (K_Md_thrown l D a c9 H.size hc15) (cwV 0 hts (k_gV q_846 q_847 q_848 q_7 q_849) rfl rfl rfl h_Md_thrown ⟨Nat.le_of_ble_eq_true rfl, Nat.le_of_ble_eq_true rfl⟩) (k_preV (ci := 1) (q0 := 6) rfl kw_6 hP hK hN hD) rfl rfl hl.1 rfl (lv_room (Nat.le_of_ble_eq_true rfl)) d_La_law_605 ⟨by show _ ≤ 601024; omega, by show _ ≤ 7293034; omega⟩) hD hS hA (fun H locs hP hD hS => ?_)
  refine lv_iload hx hb d_La_law_608 (lv_at hl 1 rfl) ?_
  refine lv_icmp_eq (tgt := 615) hx hb d_La_law_610 (by decide) (fun cn16 => ?_) (fun cn16 => ?_)
  · replace h := (if_pos cn16).symm.trans h
    refine lv_iload hx hb d_La_law_615 (lv_at hl 1 rfl) ?_
    refine lv_if_ne (tgt := 632) hx hb d_La_law_617 (by decide) (fun cn17 => ?_) (fun cn17 => ?_)
    · replace h := (if_neg cn17).symm.trans h
      refine lv_goto (tgt := 1113) hx hb d_La_law_632 (by decide) ?_
      obtain ⟨v18, ev18, h⟩ := k_let_e h
      refine lv_iinc (v := v18) (lv' := [(4, .int v18), (6, .int v10), (5, .int v4), (0, .ref b), (1, .ref (a 0)), (2, .ref (a 6)), (3, .ref (a 65))]) hx hb d_La_law_1113 hl (k := 6) rfl (by rw [ev18]; rfl) (by decide) rfl (fun ls hl => ?_)
      refine lv_goto (tgt := 23) hx hb d_La_law_1116 (by decide) ?_
      exact hrec _ _ H locs ls _ _ (by omega) (by omega) hP hD hS (lv_sub hl [3, 4, 5, 6, 0] rfl) h
    · replace h := (if_pos cn17).symm.trans h
      refine lv_aload_n hx hb d_La_law_620 rfl (lv_at hl 5 rfl) ?_
      refine lv_iconst (v := 0) hx hb d_La_law_621 (by decide) ?_
      refine va_lald hx hb hK hP 65 2 kw_65 rfl k_in01 d_La_law_622 ?_
      refine lv_iload hx hb d_La_law_623 (lv_at hl 0 rfl) ?_
      refine lv_i2l (v := (v10 : Int32).toInt64) hx hb d_La_law_625 rfl ?_
      refine W.lcmp hx hb d_La_law_626 ?_
      refine lv_if_eq (tgt := 632) hx hb d_La_law_627 (by decide) (fun cn19 => ?_) (fun cn19 => ?_)
      · replace h := (if_pos cn19).symm.trans h
        refine lv_goto (tgt := 1113) hx hb d_La_law_632 (by decide) ?_
        obtain ⟨v20, ev20, h⟩ := k_let_e h
        refine lv_iinc (v := v20) (lv' := [(4, .int v20), (6, .int v10), (5, .int v4), (0, .ref b), (1, .ref (a 0)), (2, .ref (a 6)), (3, .ref (a 65))]) hx hb d_La_law_1113 hl (k := 6) rfl (by rw [ev20]; rfl) (by decide) rfl (fun ls hl => ?_)
        refine lv_goto (tgt := 23) hx hb d_La_law_1116 (by decide) ?_
        exact hrec _ _ H locs ls _ _ (by omega) (by omega) hP hD hS (lv_sub hl [3, 4, 5, 6, 0] rfl) h
      · replace h := (if_neg cn19).symm.trans h
        refine lv_iconst (v := 0) hx hb d_La_law_630 (by decide) ?_
        exact (k_no01 h).elim
  · replace h := (if_neg cn16).symm.trans h
    refine lv_iconst (v := 0) hx hb d_La_law_613 (by decide) ?_
    exact (k_no01 h).elim
/-- pc 635 -/
def M_La_law_635 (L : Nat) (xs : Nat → Int32) (rec23 : kS → Int32 → Option (Int32 × kS)) (σ : kS) (x4 : Int32) : Option (Int32 × kS) := k_ld xs L ((x4 + 1)) fun v1 => k_ld xs L ((x4 + 2)) fun v2 => k_call (M_La_many σ v1 v2) fun v3 σ4 => k_ld xs L ((x4 + 1)) fun v6 => k_ld xs L ((x4 + 2)) fun v7 => k_call (M_Md_many σ4 v6 v7) fun v8 σ9 => k_call (M_Md_thrown σ9) fun v11 σ12 => if v11 = v3 then (if v3 = 0 then (if lg_cmp (σ12.2.2 (0 : Int32).toNatClampNeg) ((v8 : Int32).toInt64) = 0 then (k_let (x4 + 4) fun v18 => rec23 σ12 v18) else (some (0, σ12))) else (k_let (x4 + 4) fun v16 => rec23 σ12 v16)) else (some (0, σ12))
set_option maxHeartbeats 4000000 in
set_option maxRecDepth 100000 in
theorem B_La_law_635 {p : Program} {l : Launch} {e : Env} {s : State} {m : MethodId} {below : List Frame} {meth : Method} {c : Code} {D : va_G} {a : Nat → Nat} {c9 : Nat → ClassId} {b L : Nat} {xs : Nat → Int32} {σo : kS} (C0 : k_Lx D c9 l p s m meth c b L xs) {n : Nat} {rec23 : kS → Int32 → Option (Int32 × kS)} (hrec : ∀ (σ : kS) (x4 : Int32) (H : Heap) (locs : List Loc) (ls : Array Slot) (cells slots : Nat), cells + 6 * n ≤ 601024 → slots + 36 * n ≤ 7293034 → va_P D kcl (kw a c9 σ) H → va_D (fun q => s.heap.size ≤ q) (kw a c9 σ) → va_S (fun q => s.heap.size ≤ q) s.heap H locs → lv_has ls 7 [(0, .ref b), (1, .ref (a 0)), (2, .ref (a 6)), (3, .ref (a 65)), (4, .int x4)] → rec23 σ x4 = some (1, σo) → W p l e room_1 s m #[Value.ref b] below meth c H locs cells slots (lw_Z below #[Value.ref b] s) (F0 m 23 ls [])) (σ : kS) (x4 : Int32) (H : Heap) (locs : List Loc) (ls : Array Slot) (cells slots : Nat) (hcl : cells + 6 * n + 6 ≤ 601024) (hsl : slots + 36 * n + 36 ≤ 7293034) (hP : va_P D kcl (kw a c9 σ) H) (hD : va_D (fun q => s.heap.size ≤ q) (kw a c9 σ)) (hS : va_S (fun q => s.heap.size ≤ q) s.heap H locs) (hl : lv_has ls 7 [(0, .ref b), (1, .ref (a 0)), (2, .ref (a 6)), (3, .ref (a 65)), (4, .int x4)]) (h : M_La_law_635 L xs rec23 σ x4 = some (1, σo)) : W p l e room_1 s m #[Value.ref b] below meth c H locs cells slots (lw_Z below #[Value.ref b] s) (F0 m 635 ls []) := by
  obtain ⟨hx, hb, hml, hown, hts, hr, hlk, hK, hN, hst, hX, hY, hSc, hbl⟩ := id C0
  have hA : ∀ q : Nat, s.heap.size ≤ q → (fun q : Nat => s.heap.size ≤ q) q := fun _ h => h
  have hbA : ¬ (fun q : Nat => s.heap.size ≤ q) b := Nat.not_le.mpr hbl
  unfold M_La_law_635 at h
  refine lv_aload_n hx hb d_La_law_635 rfl (lv_at hl 1 rfl) ?_
  refine lv_aload_n hx hb d_La_law_636 rfl (lv_at hl 0 rfl) ?_
  refine lv_iload hx hb d_La_law_637 (lv_at hl 4 rfl) ?_
  refine lv_iconst (v := 1) hx hb d_La_law_639 (by decide) ?_
  refine lv_iadd hx hb d_La_law_640 ?_
  obtain ⟨v1, ev1, hv1, h⟩ := k_ld_e h
  refine va_sld hx hb hSc hbl hbA hS hv1 d_La_law_641 (k_top ev1 ?_)
  refine lv_aload_n hx hb d_La_law_642 rfl (lv_at hl 0 rfl) ?_
  refine lv_iload hx hb d_La_law_643 (lv_at hl 4 rfl) ?_
  refine lv_iconst (v := 2) hx hb d_La_law_645 (by decide) ?_
  refine lv_iadd hx hb d_La_law_646 ?_
  obtain ⟨v2, ev2, hv2, h⟩ := k_ld_e h
  refine va_sld hx hb hSc hbl hbA hS hv2 d_La_law_647 (k_top ev2 ?_)
  refine lv_aload_n hx hb d_La_law_648 rfl (lv_at hl 3 rfl) ?_
  obtain ⟨v3, σ4, hc5, h⟩ := k_call_e h
  refine k_calli (vx_runSW (As := [.ref (a 0), .int v1, .int v2, .ref (a 65)]) (rest := []) ⟨hx, hb, hml, hown, hts⟩ (K_La_many l hst D a c9 H.size hc5) (vx_cwSW 4 hts (k_gSW q_633 q_634 q_0 w_635) rfl rfl rfl h_La_many.2 ⟨Nat.le_of_ble_eq_true rfl, Nat.le_of_ble_eq_true rfl⟩) (k_preSY hP hK hN hD hX hY hS hA) rfl rfl hl.1 rfl (lv_room (Nat.le_of_ble_eq_true rfl)) d_La_law_649 ⟨by show _ ≤ 601024; omega, by show _ ≤ 7293034; omega⟩) hD hS hA (fun H locs hP hD hS => ?_)
  refine lv_istore (lv' := [(5, .int v3), (0, .ref b), (1, .ref (a 0)), (2, .ref (a 6)), (3, .ref (a 65)), (4, .int x4)]) hx hb d_La_law_652 hl (by decide) rfl (fun ls hl => ?_)
  refine lv_aload_n hx hb d_La_law_654 rfl (lv_at hl 3 rfl) ?_
  refine lv_aload_n hx hb d_La_law_655 rfl (lv_at hl 1 rfl) ?_
  refine lv_iload hx hb d_La_law_656 (lv_at hl 5 rfl) ?_
  refine lv_iconst (v := 1) hx hb d_La_law_658 (by decide) ?_
  refine lv_iadd hx hb d_La_law_659 ?_
  obtain ⟨v6, ev6, hv6, h⟩ := k_ld_e h
  refine va_sld hx hb hSc hbl hbA hS hv6 d_La_law_660 (k_top ev6 ?_)
  refine lv_aload_n hx hb d_La_law_661 rfl (lv_at hl 1 rfl) ?_
  refine lv_iload hx hb d_La_law_662 (lv_at hl 5 rfl) ?_
  refine lv_iconst (v := 2) hx hb d_La_law_664 (by decide) ?_
  refine lv_iadd hx hb d_La_law_665 ?_
  obtain ⟨v7, ev7, hv7, h⟩ := k_ld_e h
  refine va_sld hx hb hSc hbl hbA hS hv7 d_La_law_666 (k_top ev7 ?_)
  obtain ⟨v8, σ9, hc10, h⟩ := k_call_e h
  refine k_calli (va_runV (As := [.int v6, .int v7]) (rest := []) ⟨hx, hb, hml, hown, hts⟩ (K_Md_many l D a c9 H.size hc10) (cwV 2 hts (k_gV q_954 q_955 q_956 q_7 q_957) rfl rfl rfl h_Md_many ⟨Nat.le_of_ble_eq_true rfl, Nat.le_of_ble_eq_true rfl⟩) (k_preV (ci := 1) (q0 := 6) rfl kw_6 hP hK hN hD) rfl rfl hl.1 rfl (lv_room (Nat.le_of_ble_eq_true rfl)) d_La_law_667 ⟨by show _ ≤ 601024; omega, by show _ ≤ 7293034; omega⟩) hD hS hA (fun H locs hP hD hS => ?_)
  refine lv_istore (lv' := [(6, .int v8), (5, .int v3), (0, .ref b), (1, .ref (a 0)), (2, .ref (a 6)), (3, .ref (a 65)), (4, .int x4)]) hx hb d_La_law_670 hl (by decide) rfl (fun ls hl => ?_)
  refine lv_aload_n hx hb d_La_law_672 rfl (lv_at hl 4 rfl) ?_
  obtain ⟨v11, σ12, hc13, h⟩ := k_call_e h
  refine k_calli (va_runV (As := []) (rest := []) ⟨hx, hb, hml, hown, hts⟩ (K_Md_thrown l D a c9 H.size hc13) (cwV 0 hts (k_gV q_846 q_847 q_848 q_7 q_849) rfl rfl rfl h_Md_thrown ⟨Nat.le_of_ble_eq_true rfl, Nat.le_of_ble_eq_true rfl⟩) (k_preV (ci := 1) (q0 := 6) rfl kw_6 hP hK hN hD) rfl rfl hl.1 rfl (lv_room (Nat.le_of_ble_eq_true rfl)) d_La_law_673 ⟨by show _ ≤ 601024; omega, by show _ ≤ 7293034; omega⟩) hD hS hA (fun H locs hP hD hS => ?_)
  refine lv_iload hx hb d_La_law_676 (lv_at hl 1 rfl) ?_
  refine lv_icmp_eq (tgt := 683) hx hb d_La_law_678 (by decide) (fun cn14 => ?_) (fun cn14 => ?_)
  · replace h := (if_pos cn14).symm.trans h
    refine lv_iload hx hb d_La_law_683 (lv_at hl 1 rfl) ?_
    refine lv_if_ne (tgt := 700) hx hb d_La_law_685 (by decide) (fun cn15 => ?_) (fun cn15 => ?_)
    · replace h := (if_neg cn15).symm.trans h
      refine lv_goto (tgt := 1113) hx hb d_La_law_700 (by decide) ?_
      obtain ⟨v16, ev16, h⟩ := k_let_e h
      refine lv_iinc (v := v16) (lv' := [(4, .int v16), (6, .int v8), (5, .int v3), (0, .ref b), (1, .ref (a 0)), (2, .ref (a 6)), (3, .ref (a 65))]) hx hb d_La_law_1113 hl (k := 6) rfl (by rw [ev16]; rfl) (by decide) rfl (fun ls hl => ?_)
      refine lv_goto (tgt := 23) hx hb d_La_law_1116 (by decide) ?_
      exact hrec _ _ H locs ls _ _ (by omega) (by omega) hP hD hS (lv_sub hl [3, 4, 5, 6, 0] rfl) h
    · replace h := (if_pos cn15).symm.trans h
      refine lv_aload_n hx hb d_La_law_688 rfl (lv_at hl 5 rfl) ?_
      refine lv_iconst (v := 0) hx hb d_La_law_689 (by decide) ?_
      refine va_lald hx hb hK hP 65 2 kw_65 rfl k_in01 d_La_law_690 ?_
      refine lv_iload hx hb d_La_law_691 (lv_at hl 0 rfl) ?_
      refine lv_i2l (v := (v8 : Int32).toInt64) hx hb d_La_law_693 rfl ?_
      refine W.lcmp hx hb d_La_law_694 ?_
      refine lv_if_eq (tgt := 700) hx hb d_La_law_695 (by decide) (fun cn17 => ?_) (fun cn17 => ?_)
      · replace h := (if_pos cn17).symm.trans h
        refine lv_goto (tgt := 1113) hx hb d_La_law_700 (by decide) ?_
        obtain ⟨v18, ev18, h⟩ := k_let_e h
        refine lv_iinc (v := v18) (lv' := [(4, .int v18), (6, .int v8), (5, .int v3), (0, .ref b), (1, .ref (a 0)), (2, .ref (a 6)), (3, .ref (a 65))]) hx hb d_La_law_1113 hl (k := 6) rfl (by rw [ev18]; rfl) (by decide) rfl (fun ls hl => ?_)
        refine lv_goto (tgt := 23) hx hb d_La_law_1116 (by decide) ?_
        exact hrec _ _ H locs ls _ _ (by omega) (by omega) hP hD hS (lv_sub hl [3, 4, 5, 6, 0] rfl) h
      · replace h := (if_neg cn17).symm.trans h
        refine lv_iconst (v := 0) hx hb d_La_law_698 (by decide) ?_
        exact (k_no01 h).elim
  · replace h := (if_neg cn14).symm.trans h
    refine lv_iconst (v := 0) hx hb d_La_law_681 (by decide) ?_
    exact (k_no01 h).elim
/-- pc 703 -/
def M_La_law_703 (L : Nat) (xs : Nat → Int32) (rec23 : kS → Int32 → Option (Int32 × kS)) (σ : kS) (x4 : Int32) : Option (Int32 × kS) := k_ld xs L ((x4 + 1)) fun v1 => k_call (M_La_rule σ v1) fun v2 σ3 => k_ld xs L ((x4 + 1)) fun v5 => k_call (M_Md_rule σ3 v5) fun v6 σ7 => k_call (M_Md_thrown σ7) fun v9 σ10 => if v9 = v2 then (if v2 = 0 then (if lg_cmp (σ10.2.2 (0 : Int32).toNatClampNeg) ((v6 : Int32).toInt64) = 0 then (k_let (x4 + 4) fun v16 => rec23 σ10 v16) else (some (0, σ10))) else (k_let (x4 + 4) fun v14 => rec23 σ10 v14)) else (some (0, σ10))
set_option maxHeartbeats 4000000 in
set_option maxRecDepth 100000 in
theorem B_La_law_703 {p : Program} {l : Launch} {e : Env} {s : State} {m : MethodId} {below : List Frame} {meth : Method} {c : Code} {D : va_G} {a : Nat → Nat} {c9 : Nat → ClassId} {b L : Nat} {xs : Nat → Int32} {σo : kS} (C0 : k_Lx D c9 l p s m meth c b L xs) {n : Nat} {rec23 : kS → Int32 → Option (Int32 × kS)} (hrec : ∀ (σ : kS) (x4 : Int32) (H : Heap) (locs : List Loc) (ls : Array Slot) (cells slots : Nat), cells + 6 * n ≤ 601024 → slots + 36 * n ≤ 7293034 → va_P D kcl (kw a c9 σ) H → va_D (fun q => s.heap.size ≤ q) (kw a c9 σ) → va_S (fun q => s.heap.size ≤ q) s.heap H locs → lv_has ls 7 [(0, .ref b), (1, .ref (a 0)), (2, .ref (a 6)), (3, .ref (a 65)), (4, .int x4)] → rec23 σ x4 = some (1, σo) → W p l e room_1 s m #[Value.ref b] below meth c H locs cells slots (lw_Z below #[Value.ref b] s) (F0 m 23 ls [])) (σ : kS) (x4 : Int32) (H : Heap) (locs : List Loc) (ls : Array Slot) (cells slots : Nat) (hcl : cells + 6 * n + 6 ≤ 601024) (hsl : slots + 36 * n + 36 ≤ 7293034) (hP : va_P D kcl (kw a c9 σ) H) (hD : va_D (fun q => s.heap.size ≤ q) (kw a c9 σ)) (hS : va_S (fun q => s.heap.size ≤ q) s.heap H locs) (hl : lv_has ls 7 [(0, .ref b), (1, .ref (a 0)), (2, .ref (a 6)), (3, .ref (a 65)), (4, .int x4)]) (h : M_La_law_703 L xs rec23 σ x4 = some (1, σo)) : W p l e room_1 s m #[Value.ref b] below meth c H locs cells slots (lw_Z below #[Value.ref b] s) (F0 m 703 ls []) := by
  obtain ⟨hx, hb, hml, hown, hts, hr, hlk, hK, hN, hst, hX, hY, hSc, hbl⟩ := id C0
  have hA : ∀ q : Nat, s.heap.size ≤ q → (fun q : Nat => s.heap.size ≤ q) q := fun _ h => h
  have hbA : ¬ (fun q : Nat => s.heap.size ≤ q) b := Nat.not_le.mpr hbl
  unfold M_La_law_703 at h
  refine lv_aload_n hx hb d_La_law_703 rfl (lv_at hl 1 rfl) ?_
  refine lv_aload_n hx hb d_La_law_704 rfl (lv_at hl 0 rfl) ?_
  refine lv_iload hx hb d_La_law_705 (lv_at hl 4 rfl) ?_
  refine lv_iconst (v := 1) hx hb d_La_law_707 (by decide) ?_
  refine lv_iadd hx hb d_La_law_708 ?_
  obtain ⟨v1, ev1, hv1, h⟩ := k_ld_e h
  refine va_sld hx hb hSc hbl hbA hS hv1 d_La_law_709 (k_top ev1 ?_)
  refine lv_aload_n hx hb d_La_law_710 rfl (lv_at hl 3 rfl) ?_
  obtain ⟨v2, σ3, hc4, h⟩ := k_call_e h
  refine k_calli (vx_runSW (As := [.ref (a 0), .int v1, .ref (a 65)]) (rest := []) ⟨hx, hb, hml, hown, hts⟩ (K_La_rule l hst D a c9 H.size hc4) (vx_cwSW 3 hts (k_gSW q_641 q_642 q_0 w_643) rfl rfl rfl h_La_rule.2 ⟨Nat.le_of_ble_eq_true rfl, Nat.le_of_ble_eq_true rfl⟩) (k_preSY hP hK hN hD hX hY hS hA) rfl rfl hl.1 rfl (lv_room (Nat.le_of_ble_eq_true rfl)) d_La_law_711 ⟨by show _ ≤ 601024; omega, by show _ ≤ 7293034; omega⟩) hD hS hA (fun H locs hP hD hS => ?_)
  refine lv_istore (lv' := [(5, .int v2), (0, .ref b), (1, .ref (a 0)), (2, .ref (a 6)), (3, .ref (a 65)), (4, .int x4)]) hx hb d_La_law_714 hl (by decide) rfl (fun ls hl => ?_)
  refine lv_aload_n hx hb d_La_law_716 rfl (lv_at hl 3 rfl) ?_
  refine lv_aload_n hx hb d_La_law_717 rfl (lv_at hl 1 rfl) ?_
  refine lv_iload hx hb d_La_law_718 (lv_at hl 5 rfl) ?_
  refine lv_iconst (v := 1) hx hb d_La_law_720 (by decide) ?_
  refine lv_iadd hx hb d_La_law_721 ?_
  obtain ⟨v5, ev5, hv5, h⟩ := k_ld_e h
  refine va_sld hx hb hSc hbl hbA hS hv5 d_La_law_722 (k_top ev5 ?_)
  obtain ⟨v6, σ7, hc8, h⟩ := k_call_e h
  refine k_calli (va_runV (As := [.int v5]) (rest := []) ⟨hx, hb, hml, hown, hts⟩ (K_Md_rule l D a c9 H.size hc8) (cwV 1 hts (k_gV q_958 q_959 q_960 q_7 q_961) rfl rfl rfl h_Md_rule ⟨Nat.le_of_ble_eq_true rfl, Nat.le_of_ble_eq_true rfl⟩) (k_preV (ci := 1) (q0 := 6) rfl kw_6 hP hK hN hD) rfl rfl hl.1 rfl (lv_room (Nat.le_of_ble_eq_true rfl)) d_La_law_723 ⟨by show _ ≤ 601024; omega, by show _ ≤ 7293034; omega⟩) hD hS hA (fun H locs hP hD hS => ?_)
  refine lv_istore (lv' := [(6, .int v6), (5, .int v2), (0, .ref b), (1, .ref (a 0)), (2, .ref (a 6)), (3, .ref (a 65)), (4, .int x4)]) hx hb d_La_law_726 hl (by decide) rfl (fun ls hl => ?_)
  refine lv_aload_n hx hb d_La_law_728 rfl (lv_at hl 4 rfl) ?_
  obtain ⟨v9, σ10, hc11, h⟩ := k_call_e h
  refine k_calli (va_runV (As := []) (rest := []) ⟨hx, hb, hml, hown, hts⟩ (K_Md_thrown l D a c9 H.size hc11) (cwV 0 hts (k_gV q_846 q_847 q_848 q_7 q_849) rfl rfl rfl h_Md_thrown ⟨Nat.le_of_ble_eq_true rfl, Nat.le_of_ble_eq_true rfl⟩) (k_preV (ci := 1) (q0 := 6) rfl kw_6 hP hK hN hD) rfl rfl hl.1 rfl (lv_room (Nat.le_of_ble_eq_true rfl)) d_La_law_729 ⟨by show _ ≤ 601024; omega, by show _ ≤ 7293034; omega⟩) hD hS hA (fun H locs hP hD hS => ?_)
  refine lv_iload hx hb d_La_law_732 (lv_at hl 1 rfl) ?_
  refine lv_icmp_eq (tgt := 739) hx hb d_La_law_734 (by decide) (fun cn12 => ?_) (fun cn12 => ?_)
  · replace h := (if_pos cn12).symm.trans h
    refine lv_iload hx hb d_La_law_739 (lv_at hl 1 rfl) ?_
    refine lv_if_ne (tgt := 756) hx hb d_La_law_741 (by decide) (fun cn13 => ?_) (fun cn13 => ?_)
    · replace h := (if_neg cn13).symm.trans h
      refine lv_goto (tgt := 1113) hx hb d_La_law_756 (by decide) ?_
      obtain ⟨v14, ev14, h⟩ := k_let_e h
      refine lv_iinc (v := v14) (lv' := [(4, .int v14), (6, .int v6), (5, .int v2), (0, .ref b), (1, .ref (a 0)), (2, .ref (a 6)), (3, .ref (a 65))]) hx hb d_La_law_1113 hl (k := 6) rfl (by rw [ev14]; rfl) (by decide) rfl (fun ls hl => ?_)
      refine lv_goto (tgt := 23) hx hb d_La_law_1116 (by decide) ?_
      exact hrec _ _ H locs ls _ _ (by omega) (by omega) hP hD hS (lv_sub hl [3, 4, 5, 6, 0] rfl) h
    · replace h := (if_pos cn13).symm.trans h
      refine lv_aload_n hx hb d_La_law_744 rfl (lv_at hl 5 rfl) ?_
      refine lv_iconst (v := 0) hx hb d_La_law_745 (by decide) ?_
      refine va_lald hx hb hK hP 65 2 kw_65 rfl k_in01 d_La_law_746 ?_
      refine lv_iload hx hb d_La_law_747 (lv_at hl 0 rfl) ?_
      refine lv_i2l (v := (v6 : Int32).toInt64) hx hb d_La_law_749 rfl ?_
      refine W.lcmp hx hb d_La_law_750 ?_
      refine lv_if_eq (tgt := 756) hx hb d_La_law_751 (by decide) (fun cn15 => ?_) (fun cn15 => ?_)
      · replace h := (if_pos cn15).symm.trans h
        refine lv_goto (tgt := 1113) hx hb d_La_law_756 (by decide) ?_
        obtain ⟨v16, ev16, h⟩ := k_let_e h
        refine lv_iinc (v := v16) (lv' := [(4, .int v16), (6, .int v6), (5, .int v2), (0, .ref b), (1, .ref (a 0)), (2, .ref (a 6)), (3, .ref (a 65))]) hx hb d_La_law_1113 hl (k := 6) rfl (by rw [ev16]; rfl) (by decide) rfl (fun ls hl => ?_)
        refine lv_goto (tgt := 23) hx hb d_La_law_1116 (by decide) ?_
        exact hrec _ _ H locs ls _ _ (by omega) (by omega) hP hD hS (lv_sub hl [3, 4, 5, 6, 0] rfl) h
      · replace h := (if_neg cn15).symm.trans h
        refine lv_iconst (v := 0) hx hb d_La_law_754 (by decide) ?_
        exact (k_no01 h).elim
  · replace h := (if_neg cn12).symm.trans h
    refine lv_iconst (v := 0) hx hb d_La_law_737 (by decide) ?_
    exact (k_no01 h).elim
/-- pc 759 -/
def M_La_law_759 (L : Nat) (xs : Nat → Int32) (rec23 : kS → Int32 → Option (Int32 × kS)) (σ : kS) (x4 : Int32) : Option (Int32 × kS) := k_ld xs L ((x4 + 1)) fun v1 => k_call (M_La_net σ v1) fun v2 σ3 => k_ld xs L ((x4 + 1)) fun v5 => k_call (M_Md_net σ3 v5) fun v6 σ7 => k_call (M_Md_thrown σ7) fun v9 σ10 => if v9 = v2 then (if v2 = 0 then (if lg_cmp (σ10.2.2 (0 : Int32).toNatClampNeg) ((v6 : Int32).toInt64) = 0 then (k_let (x4 + 4) fun v16 => rec23 σ10 v16) else (some (0, σ10))) else (k_let (x4 + 4) fun v14 => rec23 σ10 v14)) else (some (0, σ10))
set_option maxHeartbeats 4000000 in
set_option maxRecDepth 100000 in
theorem B_La_law_759 {p : Program} {l : Launch} {e : Env} {s : State} {m : MethodId} {below : List Frame} {meth : Method} {c : Code} {D : va_G} {a : Nat → Nat} {c9 : Nat → ClassId} {b L : Nat} {xs : Nat → Int32} {σo : kS} (C0 : k_Lx D c9 l p s m meth c b L xs) {n : Nat} {rec23 : kS → Int32 → Option (Int32 × kS)} (hrec : ∀ (σ : kS) (x4 : Int32) (H : Heap) (locs : List Loc) (ls : Array Slot) (cells slots : Nat), cells + 6 * n ≤ 601024 → slots + 36 * n ≤ 7293034 → va_P D kcl (kw a c9 σ) H → va_D (fun q => s.heap.size ≤ q) (kw a c9 σ) → va_S (fun q => s.heap.size ≤ q) s.heap H locs → lv_has ls 7 [(0, .ref b), (1, .ref (a 0)), (2, .ref (a 6)), (3, .ref (a 65)), (4, .int x4)] → rec23 σ x4 = some (1, σo) → W p l e room_1 s m #[Value.ref b] below meth c H locs cells slots (lw_Z below #[Value.ref b] s) (F0 m 23 ls [])) (σ : kS) (x4 : Int32) (H : Heap) (locs : List Loc) (ls : Array Slot) (cells slots : Nat) (hcl : cells + 6 * n + 6 ≤ 601024) (hsl : slots + 36 * n + 36 ≤ 7293034) (hP : va_P D kcl (kw a c9 σ) H) (hD : va_D (fun q => s.heap.size ≤ q) (kw a c9 σ)) (hS : va_S (fun q => s.heap.size ≤ q) s.heap H locs) (hl : lv_has ls 7 [(0, .ref b), (1, .ref (a 0)), (2, .ref (a 6)), (3, .ref (a 65)), (4, .int x4)]) (h : M_La_law_759 L xs rec23 σ x4 = some (1, σo)) : W p l e room_1 s m #[Value.ref b] below meth c H locs cells slots (lw_Z below #[Value.ref b] s) (F0 m 759 ls []) := by
  obtain ⟨hx, hb, hml, hown, hts, hr, hlk, hK, hN, hst, hX, hY, hSc, hbl⟩ := id C0
  have hA : ∀ q : Nat, s.heap.size ≤ q → (fun q : Nat => s.heap.size ≤ q) q := fun _ h => h
  have hbA : ¬ (fun q : Nat => s.heap.size ≤ q) b := Nat.not_le.mpr hbl
  unfold M_La_law_759 at h
  refine lv_aload_n hx hb d_La_law_759 rfl (lv_at hl 1 rfl) ?_
  refine lv_aload_n hx hb d_La_law_760 rfl (lv_at hl 0 rfl) ?_
  refine lv_iload hx hb d_La_law_761 (lv_at hl 4 rfl) ?_
  refine lv_iconst (v := 1) hx hb d_La_law_763 (by decide) ?_
  refine lv_iadd hx hb d_La_law_764 ?_
  obtain ⟨v1, ev1, hv1, h⟩ := k_ld_e h
  refine va_sld hx hb hSc hbl hbA hS hv1 d_La_law_765 (k_top ev1 ?_)
  refine lv_aload_n hx hb d_La_law_766 rfl (lv_at hl 3 rfl) ?_
  obtain ⟨v2, σ3, hc4, h⟩ := k_call_e h
  refine k_calli (vx_runSW (As := [.ref (a 0), .int v1, .ref (a 65)]) (rest := []) ⟨hx, hb, hml, hown, hts⟩ (K_La_net l hst D a c9 H.size hc4) (vx_cwSW 3 hts (k_gSW q_653 q_654 q_0 w_655) rfl rfl rfl h_La_net.2 ⟨Nat.le_of_ble_eq_true rfl, Nat.le_of_ble_eq_true rfl⟩) (k_preSY hP hK hN hD hX hY hS hA) rfl rfl hl.1 rfl (lv_room (Nat.le_of_ble_eq_true rfl)) d_La_law_767 ⟨by show _ ≤ 601024; omega, by show _ ≤ 7293034; omega⟩) hD hS hA (fun H locs hP hD hS => ?_)
  refine lv_istore (lv' := [(5, .int v2), (0, .ref b), (1, .ref (a 0)), (2, .ref (a 6)), (3, .ref (a 65)), (4, .int x4)]) hx hb d_La_law_770 hl (by decide) rfl (fun ls hl => ?_)
  refine lv_aload_n hx hb d_La_law_772 rfl (lv_at hl 3 rfl) ?_
  refine lv_aload_n hx hb d_La_law_773 rfl (lv_at hl 1 rfl) ?_
  refine lv_iload hx hb d_La_law_774 (lv_at hl 5 rfl) ?_
  refine lv_iconst (v := 1) hx hb d_La_law_776 (by decide) ?_
  refine lv_iadd hx hb d_La_law_777 ?_
  obtain ⟨v5, ev5, hv5, h⟩ := k_ld_e h
  refine va_sld hx hb hSc hbl hbA hS hv5 d_La_law_778 (k_top ev5 ?_)
  obtain ⟨v6, σ7, hc8, h⟩ := k_call_e h
  refine k_calli (va_runV (As := [.int v5]) (rest := []) ⟨hx, hb, hml, hown, hts⟩ (K_Md_net l D a c9 H.size hc8) (cwV 1 hts (k_gV q_962 q_963 q_964 q_7 q_965) rfl rfl rfl h_Md_net ⟨Nat.le_of_ble_eq_true rfl, Nat.le_of_ble_eq_true rfl⟩) (k_preV (ci := 1) (q0 := 6) rfl kw_6 hP hK hN hD) rfl rfl hl.1 rfl (lv_room (Nat.le_of_ble_eq_true rfl)) d_La_law_779 ⟨by show _ ≤ 601024; omega, by show _ ≤ 7293034; omega⟩) hD hS hA (fun H locs hP hD hS => ?_)
  refine lv_istore (lv' := [(6, .int v6), (5, .int v2), (0, .ref b), (1, .ref (a 0)), (2, .ref (a 6)), (3, .ref (a 65)), (4, .int x4)]) hx hb d_La_law_782 hl (by decide) rfl (fun ls hl => ?_)
  refine lv_aload_n hx hb d_La_law_784 rfl (lv_at hl 4 rfl) ?_
  obtain ⟨v9, σ10, hc11, h⟩ := k_call_e h
  refine k_calli (va_runV (As := []) (rest := []) ⟨hx, hb, hml, hown, hts⟩ (K_Md_thrown l D a c9 H.size hc11) (cwV 0 hts (k_gV q_846 q_847 q_848 q_7 q_849) rfl rfl rfl h_Md_thrown ⟨Nat.le_of_ble_eq_true rfl, Nat.le_of_ble_eq_true rfl⟩) (k_preV (ci := 1) (q0 := 6) rfl kw_6 hP hK hN hD) rfl rfl hl.1 rfl (lv_room (Nat.le_of_ble_eq_true rfl)) d_La_law_785 ⟨by show _ ≤ 601024; omega, by show _ ≤ 7293034; omega⟩) hD hS hA (fun H locs hP hD hS => ?_)
  refine lv_iload hx hb d_La_law_788 (lv_at hl 1 rfl) ?_
  refine lv_icmp_eq (tgt := 795) hx hb d_La_law_790 (by decide) (fun cn12 => ?_) (fun cn12 => ?_)
  · replace h := (if_pos cn12).symm.trans h
    refine lv_iload hx hb d_La_law_795 (lv_at hl 1 rfl) ?_
    refine lv_if_ne (tgt := 812) hx hb d_La_law_797 (by decide) (fun cn13 => ?_) (fun cn13 => ?_)
    · replace h := (if_neg cn13).symm.trans h
      refine lv_goto (tgt := 1113) hx hb d_La_law_812 (by decide) ?_
      obtain ⟨v14, ev14, h⟩ := k_let_e h
      refine lv_iinc (v := v14) (lv' := [(4, .int v14), (6, .int v6), (5, .int v2), (0, .ref b), (1, .ref (a 0)), (2, .ref (a 6)), (3, .ref (a 65))]) hx hb d_La_law_1113 hl (k := 6) rfl (by rw [ev14]; rfl) (by decide) rfl (fun ls hl => ?_)
      refine lv_goto (tgt := 23) hx hb d_La_law_1116 (by decide) ?_
      exact hrec _ _ H locs ls _ _ (by omega) (by omega) hP hD hS (lv_sub hl [3, 4, 5, 6, 0] rfl) h
    · replace h := (if_pos cn13).symm.trans h
      refine lv_aload_n hx hb d_La_law_800 rfl (lv_at hl 5 rfl) ?_
      refine lv_iconst (v := 0) hx hb d_La_law_801 (by decide) ?_
      refine va_lald hx hb hK hP 65 2 kw_65 rfl k_in01 d_La_law_802 ?_
      refine lv_iload hx hb d_La_law_803 (lv_at hl 0 rfl) ?_
      refine lv_i2l (v := (v6 : Int32).toInt64) hx hb d_La_law_805 rfl ?_
      refine W.lcmp hx hb d_La_law_806 ?_
      refine lv_if_eq (tgt := 812) hx hb d_La_law_807 (by decide) (fun cn15 => ?_) (fun cn15 => ?_)
      · replace h := (if_pos cn15).symm.trans h
        refine lv_goto (tgt := 1113) hx hb d_La_law_812 (by decide) ?_
        obtain ⟨v16, ev16, h⟩ := k_let_e h
        refine lv_iinc (v := v16) (lv' := [(4, .int v16), (6, .int v6), (5, .int v2), (0, .ref b), (1, .ref (a 0)), (2, .ref (a 6)), (3, .ref (a 65))]) hx hb d_La_law_1113 hl (k := 6) rfl (by rw [ev16]; rfl) (by decide) rfl (fun ls hl => ?_)
        refine lv_goto (tgt := 23) hx hb d_La_law_1116 (by decide) ?_
        exact hrec _ _ H locs ls _ _ (by omega) (by omega) hP hD hS (lv_sub hl [3, 4, 5, 6, 0] rfl) h
      · replace h := (if_neg cn15).symm.trans h
        refine lv_iconst (v := 0) hx hb d_La_law_810 (by decide) ?_
        exact (k_no01 h).elim
  · replace h := (if_neg cn12).symm.trans h
    refine lv_iconst (v := 0) hx hb d_La_law_793 (by decide) ?_
    exact (k_no01 h).elim
/-- pc 815 -/
def M_La_law_815 (L : Nat) (xs : Nat → Int32) (rec23 : kS → Int32 → Option (Int32 × kS)) (σ : kS) (x4 : Int32) : Option (Int32 × kS) := k_ld xs L ((x4 + 1)) fun v1 => k_call (M_SM_rules σ v1) fun v2 σ3 => k_ld xs L ((x4 + 1)) fun v5 => k_call (M_Md_rules σ3 v5) fun v6 σ7 => if v2 = v6 then (k_let (x4 + 4) fun v10 => rec23 σ7 v10) else (some (0, σ7))
set_option maxHeartbeats 4000000 in
set_option maxRecDepth 100000 in
theorem B_La_law_815 {p : Program} {l : Launch} {e : Env} {s : State} {m : MethodId} {below : List Frame} {meth : Method} {c : Code} {D : va_G} {a : Nat → Nat} {c9 : Nat → ClassId} {b L : Nat} {xs : Nat → Int32} {σo : kS} (C0 : k_Lx D c9 l p s m meth c b L xs) {n : Nat} {rec23 : kS → Int32 → Option (Int32 × kS)} (hrec : ∀ (σ : kS) (x4 : Int32) (H : Heap) (locs : List Loc) (ls : Array Slot) (cells slots : Nat), cells + 6 * n ≤ 601024 → slots + 36 * n ≤ 7293034 → va_P D kcl (kw a c9 σ) H → va_D (fun q => s.heap.size ≤ q) (kw a c9 σ) → va_S (fun q => s.heap.size ≤ q) s.heap H locs → lv_has ls 7 [(0, .ref b), (1, .ref (a 0)), (2, .ref (a 6)), (3, .ref (a 65)), (4, .int x4)] → rec23 σ x4 = some (1, σo) → W p l e room_1 s m #[Value.ref b] below meth c H locs cells slots (lw_Z below #[Value.ref b] s) (F0 m 23 ls [])) (σ : kS) (x4 : Int32) (H : Heap) (locs : List Loc) (ls : Array Slot) (cells slots : Nat) (hcl : cells + 6 * n + 6 ≤ 601024) (hsl : slots + 36 * n + 36 ≤ 7293034) (hP : va_P D kcl (kw a c9 σ) H) (hD : va_D (fun q => s.heap.size ≤ q) (kw a c9 σ)) (hS : va_S (fun q => s.heap.size ≤ q) s.heap H locs) (hl : lv_has ls 7 [(0, .ref b), (1, .ref (a 0)), (2, .ref (a 6)), (3, .ref (a 65)), (4, .int x4)]) (h : M_La_law_815 L xs rec23 σ x4 = some (1, σo)) : W p l e room_1 s m #[Value.ref b] below meth c H locs cells slots (lw_Z below #[Value.ref b] s) (F0 m 815 ls []) := by
  obtain ⟨hx, hb, hml, hown, hts, hr, hlk, hK, hN, hst, hX, hY, hSc, hbl⟩ := id C0
  have hA : ∀ q : Nat, s.heap.size ≤ q → (fun q : Nat => s.heap.size ≤ q) q := fun _ h => h
  have hbA : ¬ (fun q : Nat => s.heap.size ≤ q) b := Nat.not_le.mpr hbl
  unfold M_La_law_815 at h
  refine lv_aload_n hx hb d_La_law_815 rfl (lv_at hl 1 rfl) ?_
  refine lv_aload_n hx hb d_La_law_816 rfl (lv_at hl 0 rfl) ?_
  refine lv_iload hx hb d_La_law_817 (lv_at hl 4 rfl) ?_
  refine lv_iconst (v := 1) hx hb d_La_law_819 (by decide) ?_
  refine lv_iadd hx hb d_La_law_820 ?_
  obtain ⟨v1, ev1, hv1, h⟩ := k_ld_e h
  refine va_sld hx hb hSc hbl hbA hS hv1 d_La_law_821 (k_top ev1 ?_)
  obtain ⟨v2, σ3, hc4, h⟩ := k_call_e h
  refine k_calli (va_runV (As := [.int v1]) (rest := []) ⟨hx, hb, hml, hown, hts⟩ (K_SM_rules l D a c9 H.size hc4) (cwV 1 hts (k_gV q_201 q_202 q_203 q_1 q_204) rfl rfl rfl h_SM_rules ⟨Nat.le_of_ble_eq_true rfl, Nat.le_of_ble_eq_true rfl⟩) (k_preV (ci := 0) (q0 := 0) rfl kw_0 hP hK hN hD) rfl rfl hl.1 rfl (lv_room (Nat.le_of_ble_eq_true rfl)) d_La_law_822 ⟨by show _ ≤ 601024; omega, by show _ ≤ 7293034; omega⟩) hD hS hA (fun H locs hP hD hS => ?_)
  refine lv_aload_n hx hb d_La_law_825 rfl (lv_at hl 2 rfl) ?_
  refine lv_aload_n hx hb d_La_law_826 rfl (lv_at hl 0 rfl) ?_
  refine lv_iload hx hb d_La_law_827 (lv_at hl 4 rfl) ?_
  refine lv_iconst (v := 1) hx hb d_La_law_829 (by decide) ?_
  refine lv_iadd hx hb d_La_law_830 ?_
  obtain ⟨v5, ev5, hv5, h⟩ := k_ld_e h
  refine va_sld hx hb hSc hbl hbA hS hv5 d_La_law_831 (k_top ev5 ?_)
  obtain ⟨v6, σ7, hc8, h⟩ := k_call_e h
  refine k_calli (va_runV (As := [.int v5]) (rest := [.int v2]) ⟨hx, hb, hml, hown, hts⟩ (K_Md_rules l D a c9 H.size hc8) (cwV 1 hts (k_gV q_970 q_971 q_972 q_7 q_973) rfl rfl rfl h_Md_rules ⟨Nat.le_of_ble_eq_true rfl, Nat.le_of_ble_eq_true rfl⟩) (k_preV (ci := 1) (q0 := 6) rfl kw_6 hP hK hN hD) rfl rfl hl.1 rfl (lv_room (Nat.le_of_ble_eq_true rfl)) d_La_law_832 ⟨by show _ ≤ 601024; omega, by show _ ≤ 7293034; omega⟩) hD hS hA (fun H locs hP hD hS => ?_)
  refine lv_icmp_eq (tgt := 1113) hx hb d_La_law_835 (by decide) (fun cn9 => ?_) (fun cn9 => ?_)
  · replace h := (if_pos cn9).symm.trans h
    obtain ⟨v10, ev10, h⟩ := k_let_e h
    refine lv_iinc (v := v10) (lv' := [(4, .int v10), (0, .ref b), (1, .ref (a 0)), (2, .ref (a 6)), (3, .ref (a 65))]) hx hb d_La_law_1113 hl (k := 4) rfl (by rw [ev10]; rfl) (by decide) rfl (fun ls hl => ?_)
    refine lv_goto (tgt := 23) hx hb d_La_law_1116 (by decide) ?_
    exact hrec _ _ H locs ls _ _ (by omega) (by omega) hP hD hS (lv_sub hl [1, 2, 3, 4, 0] rfl) h
  · replace h := (if_neg cn9).symm.trans h
    refine lv_iconst (v := 0) hx hb d_La_law_838 (by decide) ?_
    exact (k_no01 h).elim
/-- pc 840 -/
def M_La_law_840 (L : Nat) (xs : Nat → Int32) (rec23 : kS → Int32 → Option (Int32 × kS)) (σ : kS) (x4 : Int32) : Option (Int32 × kS) := k_ld xs L ((x4 + 1)) fun v1 => k_call (M_La_first σ v1) fun v2 σ3 => k_ld xs L ((x4 + 1)) fun v5 => k_call (M_Md_first σ3 v5) fun v6 σ7 => k_call (M_Md_thrown σ7) fun v9 σ10 => if v9 = v2 then (if v2 = 0 then (if lg_cmp (σ10.2.2 (0 : Int32).toNatClampNeg) ((v6 : Int32).toInt64) = 0 then (k_let (x4 + 4) fun v16 => rec23 σ10 v16) else (some (0, σ10))) else (k_let (x4 + 4) fun v14 => rec23 σ10 v14)) else (some (0, σ10))
set_option maxHeartbeats 4000000 in
set_option maxRecDepth 100000 in
theorem B_La_law_840 {p : Program} {l : Launch} {e : Env} {s : State} {m : MethodId} {below : List Frame} {meth : Method} {c : Code} {D : va_G} {a : Nat → Nat} {c9 : Nat → ClassId} {b L : Nat} {xs : Nat → Int32} {σo : kS} (C0 : k_Lx D c9 l p s m meth c b L xs) {n : Nat} {rec23 : kS → Int32 → Option (Int32 × kS)} (hrec : ∀ (σ : kS) (x4 : Int32) (H : Heap) (locs : List Loc) (ls : Array Slot) (cells slots : Nat), cells + 6 * n ≤ 601024 → slots + 36 * n ≤ 7293034 → va_P D kcl (kw a c9 σ) H → va_D (fun q => s.heap.size ≤ q) (kw a c9 σ) → va_S (fun q => s.heap.size ≤ q) s.heap H locs → lv_has ls 7 [(0, .ref b), (1, .ref (a 0)), (2, .ref (a 6)), (3, .ref (a 65)), (4, .int x4)] → rec23 σ x4 = some (1, σo) → W p l e room_1 s m #[Value.ref b] below meth c H locs cells slots (lw_Z below #[Value.ref b] s) (F0 m 23 ls [])) (σ : kS) (x4 : Int32) (H : Heap) (locs : List Loc) (ls : Array Slot) (cells slots : Nat) (hcl : cells + 6 * n + 6 ≤ 601024) (hsl : slots + 36 * n + 36 ≤ 7293034) (hP : va_P D kcl (kw a c9 σ) H) (hD : va_D (fun q => s.heap.size ≤ q) (kw a c9 σ)) (hS : va_S (fun q => s.heap.size ≤ q) s.heap H locs) (hl : lv_has ls 7 [(0, .ref b), (1, .ref (a 0)), (2, .ref (a 6)), (3, .ref (a 65)), (4, .int x4)]) (h : M_La_law_840 L xs rec23 σ x4 = some (1, σo)) : W p l e room_1 s m #[Value.ref b] below meth c H locs cells slots (lw_Z below #[Value.ref b] s) (F0 m 840 ls []) := by
  obtain ⟨hx, hb, hml, hown, hts, hr, hlk, hK, hN, hst, hX, hY, hSc, hbl⟩ := id C0
  have hA : ∀ q : Nat, s.heap.size ≤ q → (fun q : Nat => s.heap.size ≤ q) q := fun _ h => h
  have hbA : ¬ (fun q : Nat => s.heap.size ≤ q) b := Nat.not_le.mpr hbl
  unfold M_La_law_840 at h
  refine lv_aload_n hx hb d_La_law_840 rfl (lv_at hl 1 rfl) ?_
  refine lv_aload_n hx hb d_La_law_841 rfl (lv_at hl 0 rfl) ?_
  refine lv_iload hx hb d_La_law_842 (lv_at hl 4 rfl) ?_
  refine lv_iconst (v := 1) hx hb d_La_law_844 (by decide) ?_
  refine lv_iadd hx hb d_La_law_845 ?_
  obtain ⟨v1, ev1, hv1, h⟩ := k_ld_e h
  refine va_sld hx hb hSc hbl hbA hS hv1 d_La_law_846 (k_top ev1 ?_)
  refine lv_aload_n hx hb d_La_law_847 rfl (lv_at hl 3 rfl) ?_
  obtain ⟨v2, σ3, hc4, h⟩ := k_call_e h
  refine k_calli (vx_runSW (As := [.ref (a 0), .int v1, .ref (a 65)]) (rest := []) ⟨hx, hb, hml, hown, hts⟩ (K_La_first l hst D a c9 H.size hc4) (vx_cwSW 3 hts (k_gSW q_675 q_676 q_0 w_677) rfl rfl rfl h_La_first.2 ⟨Nat.le_of_ble_eq_true rfl, Nat.le_of_ble_eq_true rfl⟩) (k_preSY hP hK hN hD hX hY hS hA) rfl rfl hl.1 rfl (lv_room (Nat.le_of_ble_eq_true rfl)) d_La_law_848 ⟨by show _ ≤ 601024; omega, by show _ ≤ 7293034; omega⟩) hD hS hA (fun H locs hP hD hS => ?_)
  refine lv_istore (lv' := [(5, .int v2), (0, .ref b), (1, .ref (a 0)), (2, .ref (a 6)), (3, .ref (a 65)), (4, .int x4)]) hx hb d_La_law_851 hl (by decide) rfl (fun ls hl => ?_)
  refine lv_aload_n hx hb d_La_law_853 rfl (lv_at hl 3 rfl) ?_
  refine lv_aload_n hx hb d_La_law_854 rfl (lv_at hl 1 rfl) ?_
  refine lv_iload hx hb d_La_law_855 (lv_at hl 5 rfl) ?_
  refine lv_iconst (v := 1) hx hb d_La_law_857 (by decide) ?_
  refine lv_iadd hx hb d_La_law_858 ?_
  obtain ⟨v5, ev5, hv5, h⟩ := k_ld_e h
  refine va_sld hx hb hSc hbl hbA hS hv5 d_La_law_859 (k_top ev5 ?_)
  obtain ⟨v6, σ7, hc8, h⟩ := k_call_e h
  refine k_calli (va_runV (As := [.int v5]) (rest := []) ⟨hx, hb, hml, hown, hts⟩ (K_Md_first l D a c9 H.size hc8) (cwV 1 hts (k_gV q_974 q_975 q_976 q_7 q_977) rfl rfl rfl h_Md_first ⟨Nat.le_of_ble_eq_true rfl, Nat.le_of_ble_eq_true rfl⟩) (k_preV (ci := 1) (q0 := 6) rfl kw_6 hP hK hN hD) rfl rfl hl.1 rfl (lv_room (Nat.le_of_ble_eq_true rfl)) d_La_law_860 ⟨by show _ ≤ 601024; omega, by show _ ≤ 7293034; omega⟩) hD hS hA (fun H locs hP hD hS => ?_)
  refine lv_istore (lv' := [(6, .int v6), (5, .int v2), (0, .ref b), (1, .ref (a 0)), (2, .ref (a 6)), (3, .ref (a 65)), (4, .int x4)]) hx hb d_La_law_863 hl (by decide) rfl (fun ls hl => ?_)
  refine lv_aload_n hx hb d_La_law_865 rfl (lv_at hl 4 rfl) ?_
  obtain ⟨v9, σ10, hc11, h⟩ := k_call_e h
  refine k_calli (va_runV (As := []) (rest := []) ⟨hx, hb, hml, hown, hts⟩ (K_Md_thrown l D a c9 H.size hc11) (cwV 0 hts (k_gV q_846 q_847 q_848 q_7 q_849) rfl rfl rfl h_Md_thrown ⟨Nat.le_of_ble_eq_true rfl, Nat.le_of_ble_eq_true rfl⟩) (k_preV (ci := 1) (q0 := 6) rfl kw_6 hP hK hN hD) rfl rfl hl.1 rfl (lv_room (Nat.le_of_ble_eq_true rfl)) d_La_law_866 ⟨by show _ ≤ 601024; omega, by show _ ≤ 7293034; omega⟩) hD hS hA (fun H locs hP hD hS => ?_)
  refine lv_iload hx hb d_La_law_869 (lv_at hl 1 rfl) ?_
  refine lv_icmp_eq (tgt := 876) hx hb d_La_law_871 (by decide) (fun cn12 => ?_) (fun cn12 => ?_)
  · replace h := (if_pos cn12).symm.trans h
    refine lv_iload hx hb d_La_law_876 (lv_at hl 1 rfl) ?_
    refine lv_if_ne (tgt := 893) hx hb d_La_law_878 (by decide) (fun cn13 => ?_) (fun cn13 => ?_)
    · replace h := (if_neg cn13).symm.trans h
      refine lv_goto (tgt := 1113) hx hb d_La_law_893 (by decide) ?_
      obtain ⟨v14, ev14, h⟩ := k_let_e h
      refine lv_iinc (v := v14) (lv' := [(4, .int v14), (6, .int v6), (5, .int v2), (0, .ref b), (1, .ref (a 0)), (2, .ref (a 6)), (3, .ref (a 65))]) hx hb d_La_law_1113 hl (k := 6) rfl (by rw [ev14]; rfl) (by decide) rfl (fun ls hl => ?_)
      refine lv_goto (tgt := 23) hx hb d_La_law_1116 (by decide) ?_
      exact hrec _ _ H locs ls _ _ (by omega) (by omega) hP hD hS (lv_sub hl [3, 4, 5, 6, 0] rfl) h
    · replace h := (if_pos cn13).symm.trans h
      refine lv_aload_n hx hb d_La_law_881 rfl (lv_at hl 5 rfl) ?_
      refine lv_iconst (v := 0) hx hb d_La_law_882 (by decide) ?_
      refine va_lald hx hb hK hP 65 2 kw_65 rfl k_in01 d_La_law_883 ?_
      refine lv_iload hx hb d_La_law_884 (lv_at hl 0 rfl) ?_
      refine lv_i2l (v := (v6 : Int32).toInt64) hx hb d_La_law_886 rfl ?_
      refine W.lcmp hx hb d_La_law_887 ?_
      refine lv_if_eq (tgt := 893) hx hb d_La_law_888 (by decide) (fun cn15 => ?_) (fun cn15 => ?_)
      · replace h := (if_pos cn15).symm.trans h
        refine lv_goto (tgt := 1113) hx hb d_La_law_893 (by decide) ?_
        obtain ⟨v16, ev16, h⟩ := k_let_e h
        refine lv_iinc (v := v16) (lv' := [(4, .int v16), (6, .int v6), (5, .int v2), (0, .ref b), (1, .ref (a 0)), (2, .ref (a 6)), (3, .ref (a 65))]) hx hb d_La_law_1113 hl (k := 6) rfl (by rw [ev16]; rfl) (by decide) rfl (fun ls hl => ?_)
        refine lv_goto (tgt := 23) hx hb d_La_law_1116 (by decide) ?_
        exact hrec _ _ H locs ls _ _ (by omega) (by omega) hP hD hS (lv_sub hl [3, 4, 5, 6, 0] rfl) h
      · replace h := (if_neg cn15).symm.trans h
        refine lv_iconst (v := 0) hx hb d_La_law_891 (by decide) ?_
        exact (k_no01 h).elim
  · replace h := (if_neg cn12).symm.trans h
    refine lv_iconst (v := 0) hx hb d_La_law_874 (by decide) ?_
    exact (k_no01 h).elim
/-- pc 896 -/
def M_La_law_896 (L : Nat) (xs : Nat → Int32) (rec23 : kS → Int32 → Option (Int32 × kS)) (σ : kS) (x4 : Int32) : Option (Int32 × kS) := k_ld xs L ((x4 + 1)) fun v1 => k_ld xs L ((x4 + 2)) fun v2 => k_call (M_La_order σ v1 v2) fun v3 σ4 => k_ld xs L ((x4 + 1)) fun v6 => k_ld xs L ((x4 + 2)) fun v7 => k_call (M_Md_order σ4 v6 v7) fun v8 σ9 => k_call (M_Md_thrown σ9) fun v11 σ12 => if v11 = v3 then (if v3 = 0 then (if lg_cmp (σ12.2.2 (0 : Int32).toNatClampNeg) ((v8 : Int32).toInt64) = 0 then (k_let (x4 + 4) fun v18 => rec23 σ12 v18) else (some (0, σ12))) else (k_let (x4 + 4) fun v16 => rec23 σ12 v16)) else (some (0, σ12))
set_option maxHeartbeats 4000000 in
set_option maxRecDepth 100000 in
theorem B_La_law_896 {p : Program} {l : Launch} {e : Env} {s : State} {m : MethodId} {below : List Frame} {meth : Method} {c : Code} {D : va_G} {a : Nat → Nat} {c9 : Nat → ClassId} {b L : Nat} {xs : Nat → Int32} {σo : kS} (C0 : k_Lx D c9 l p s m meth c b L xs) {n : Nat} {rec23 : kS → Int32 → Option (Int32 × kS)} (hrec : ∀ (σ : kS) (x4 : Int32) (H : Heap) (locs : List Loc) (ls : Array Slot) (cells slots : Nat), cells + 6 * n ≤ 601024 → slots + 36 * n ≤ 7293034 → va_P D kcl (kw a c9 σ) H → va_D (fun q => s.heap.size ≤ q) (kw a c9 σ) → va_S (fun q => s.heap.size ≤ q) s.heap H locs → lv_has ls 7 [(0, .ref b), (1, .ref (a 0)), (2, .ref (a 6)), (3, .ref (a 65)), (4, .int x4)] → rec23 σ x4 = some (1, σo) → W p l e room_1 s m #[Value.ref b] below meth c H locs cells slots (lw_Z below #[Value.ref b] s) (F0 m 23 ls [])) (σ : kS) (x4 : Int32) (H : Heap) (locs : List Loc) (ls : Array Slot) (cells slots : Nat) (hcl : cells + 6 * n + 6 ≤ 601024) (hsl : slots + 36 * n + 36 ≤ 7293034) (hP : va_P D kcl (kw a c9 σ) H) (hD : va_D (fun q => s.heap.size ≤ q) (kw a c9 σ)) (hS : va_S (fun q => s.heap.size ≤ q) s.heap H locs) (hl : lv_has ls 7 [(0, .ref b), (1, .ref (a 0)), (2, .ref (a 6)), (3, .ref (a 65)), (4, .int x4)]) (h : M_La_law_896 L xs rec23 σ x4 = some (1, σo)) : W p l e room_1 s m #[Value.ref b] below meth c H locs cells slots (lw_Z below #[Value.ref b] s) (F0 m 896 ls []) := by
  obtain ⟨hx, hb, hml, hown, hts, hr, hlk, hK, hN, hst, hX, hY, hSc, hbl⟩ := id C0
  have hA : ∀ q : Nat, s.heap.size ≤ q → (fun q : Nat => s.heap.size ≤ q) q := fun _ h => h
  have hbA : ¬ (fun q : Nat => s.heap.size ≤ q) b := Nat.not_le.mpr hbl
  unfold M_La_law_896 at h
  refine lv_aload_n hx hb d_La_law_896 rfl (lv_at hl 1 rfl) ?_
  refine lv_aload_n hx hb d_La_law_897 rfl (lv_at hl 0 rfl) ?_
  refine lv_iload hx hb d_La_law_898 (lv_at hl 4 rfl) ?_
  refine lv_iconst (v := 1) hx hb d_La_law_900 (by decide) ?_
  refine lv_iadd hx hb d_La_law_901 ?_
  obtain ⟨v1, ev1, hv1, h⟩ := k_ld_e h
  refine va_sld hx hb hSc hbl hbA hS hv1 d_La_law_902 (k_top ev1 ?_)
  refine lv_aload_n hx hb d_La_law_903 rfl (lv_at hl 0 rfl) ?_
  refine lv_iload hx hb d_La_law_904 (lv_at hl 4 rfl) ?_
  refine lv_iconst (v := 2) hx hb d_La_law_906 (by decide) ?_
  refine lv_iadd hx hb d_La_law_907 ?_
  obtain ⟨v2, ev2, hv2, h⟩ := k_ld_e h
  refine va_sld hx hb hSc hbl hbA hS hv2 d_La_law_908 (k_top ev2 ?_)
  refine lv_aload_n hx hb d_La_law_909 rfl (lv_at hl 3 rfl) ?_
  obtain ⟨v3, σ4, hc5, h⟩ := k_call_e h
  refine k_calli (vx_runSW (As := [.ref (a 0), .int v1, .int v2, .ref (a 65)]) (rest := []) ⟨hx, hb, hml, hown, hts⟩ (K_La_order l hst D a c9 H.size hc5) (vx_cwSW 4 hts (k_gSW q_683 q_684 q_0 w_685) rfl rfl rfl h_La_order.2 ⟨Nat.le_of_ble_eq_true rfl, Nat.le_of_ble_eq_true rfl⟩) (k_preSY hP hK hN hD hX hY hS hA) rfl rfl hl.1 rfl (lv_room (Nat.le_of_ble_eq_true rfl)) d_La_law_910 ⟨by show _ ≤ 601024; omega, by show _ ≤ 7293034; omega⟩) hD hS hA (fun H locs hP hD hS => ?_)
  refine lv_istore (lv' := [(5, .int v3), (0, .ref b), (1, .ref (a 0)), (2, .ref (a 6)), (3, .ref (a 65)), (4, .int x4)]) hx hb d_La_law_913 hl (by decide) rfl (fun ls hl => ?_)
  refine lv_aload_n hx hb d_La_law_915 rfl (lv_at hl 3 rfl) ?_
  refine lv_aload_n hx hb d_La_law_916 rfl (lv_at hl 1 rfl) ?_
  refine lv_iload hx hb d_La_law_917 (lv_at hl 5 rfl) ?_
  refine lv_iconst (v := 1) hx hb d_La_law_919 (by decide) ?_
  refine lv_iadd hx hb d_La_law_920 ?_
  obtain ⟨v6, ev6, hv6, h⟩ := k_ld_e h
  refine va_sld hx hb hSc hbl hbA hS hv6 d_La_law_921 (k_top ev6 ?_)
  refine lv_aload_n hx hb d_La_law_922 rfl (lv_at hl 1 rfl) ?_
  refine lv_iload hx hb d_La_law_923 (lv_at hl 5 rfl) ?_
  refine lv_iconst (v := 2) hx hb d_La_law_925 (by decide) ?_
  refine lv_iadd hx hb d_La_law_926 ?_
  obtain ⟨v7, ev7, hv7, h⟩ := k_ld_e h
  refine va_sld hx hb hSc hbl hbA hS hv7 d_La_law_927 (k_top ev7 ?_)
  obtain ⟨v8, σ9, hc10, h⟩ := k_call_e h
  refine k_calli (va_runV (As := [.int v6, .int v7]) (rest := []) ⟨hx, hb, hml, hown, hts⟩ (K_Md_order l D a c9 H.size hc10) (cwV 2 hts (k_gV q_978 q_979 q_980 q_7 q_981) rfl rfl rfl h_Md_order ⟨Nat.le_of_ble_eq_true rfl, Nat.le_of_ble_eq_true rfl⟩) (k_preV (ci := 1) (q0 := 6) rfl kw_6 hP hK hN hD) rfl rfl hl.1 rfl (lv_room (Nat.le_of_ble_eq_true rfl)) d_La_law_928 ⟨by show _ ≤ 601024; omega, by show _ ≤ 7293034; omega⟩) hD hS hA (fun H locs hP hD hS => ?_)
  refine lv_istore (lv' := [(6, .int v8), (5, .int v3), (0, .ref b), (1, .ref (a 0)), (2, .ref (a 6)), (3, .ref (a 65)), (4, .int x4)]) hx hb d_La_law_931 hl (by decide) rfl (fun ls hl => ?_)
  refine lv_aload_n hx hb d_La_law_933 rfl (lv_at hl 4 rfl) ?_
  obtain ⟨v11, σ12, hc13, h⟩ := k_call_e h
  refine k_calli (va_runV (As := []) (rest := []) ⟨hx, hb, hml, hown, hts⟩ (K_Md_thrown l D a c9 H.size hc13) (cwV 0 hts (k_gV q_846 q_847 q_848 q_7 q_849) rfl rfl rfl h_Md_thrown ⟨Nat.le_of_ble_eq_true rfl, Nat.le_of_ble_eq_true rfl⟩) (k_preV (ci := 1) (q0 := 6) rfl kw_6 hP hK hN hD) rfl rfl hl.1 rfl (lv_room (Nat.le_of_ble_eq_true rfl)) d_La_law_934 ⟨by show _ ≤ 601024; omega, by show _ ≤ 7293034; omega⟩) hD hS hA (fun H locs hP hD hS => ?_)
  refine lv_iload hx hb d_La_law_937 (lv_at hl 1 rfl) ?_
  refine lv_icmp_eq (tgt := 944) hx hb d_La_law_939 (by decide) (fun cn14 => ?_) (fun cn14 => ?_)
  · replace h := (if_pos cn14).symm.trans h
    refine lv_iload hx hb d_La_law_944 (lv_at hl 1 rfl) ?_
    refine lv_if_ne (tgt := 961) hx hb d_La_law_946 (by decide) (fun cn15 => ?_) (fun cn15 => ?_)
    · replace h := (if_neg cn15).symm.trans h
      refine lv_goto (tgt := 1113) hx hb d_La_law_961 (by decide) ?_
      obtain ⟨v16, ev16, h⟩ := k_let_e h
      refine lv_iinc (v := v16) (lv' := [(4, .int v16), (6, .int v8), (5, .int v3), (0, .ref b), (1, .ref (a 0)), (2, .ref (a 6)), (3, .ref (a 65))]) hx hb d_La_law_1113 hl (k := 6) rfl (by rw [ev16]; rfl) (by decide) rfl (fun ls hl => ?_)
      refine lv_goto (tgt := 23) hx hb d_La_law_1116 (by decide) ?_
      exact hrec _ _ H locs ls _ _ (by omega) (by omega) hP hD hS (lv_sub hl [3, 4, 5, 6, 0] rfl) h
    · replace h := (if_pos cn15).symm.trans h
      refine lv_aload_n hx hb d_La_law_949 rfl (lv_at hl 5 rfl) ?_
      refine lv_iconst (v := 0) hx hb d_La_law_950 (by decide) ?_
      refine va_lald hx hb hK hP 65 2 kw_65 rfl k_in01 d_La_law_951 ?_
      refine lv_iload hx hb d_La_law_952 (lv_at hl 0 rfl) ?_
      refine lv_i2l (v := (v8 : Int32).toInt64) hx hb d_La_law_954 rfl ?_
      refine W.lcmp hx hb d_La_law_955 ?_
      refine lv_if_eq (tgt := 961) hx hb d_La_law_956 (by decide) (fun cn17 => ?_) (fun cn17 => ?_)
      · replace h := (if_pos cn17).symm.trans h
        refine lv_goto (tgt := 1113) hx hb d_La_law_961 (by decide) ?_
        obtain ⟨v18, ev18, h⟩ := k_let_e h
        refine lv_iinc (v := v18) (lv' := [(4, .int v18), (6, .int v8), (5, .int v3), (0, .ref b), (1, .ref (a 0)), (2, .ref (a 6)), (3, .ref (a 65))]) hx hb d_La_law_1113 hl (k := 6) rfl (by rw [ev18]; rfl) (by decide) rfl (fun ls hl => ?_)
        refine lv_goto (tgt := 23) hx hb d_La_law_1116 (by decide) ?_
        exact hrec _ _ H locs ls _ _ (by omega) (by omega) hP hD hS (lv_sub hl [3, 4, 5, 6, 0] rfl) h
      · replace h := (if_neg cn17).symm.trans h
        refine lv_iconst (v := 0) hx hb d_La_law_959 (by decide) ?_
        exact (k_no01 h).elim
  · replace h := (if_neg cn14).symm.trans h
    refine lv_iconst (v := 0) hx hb d_La_law_942 (by decide) ?_
    exact (k_no01 h).elim
/-- pc 964 -/
def M_La_law_964 (L : Nat) (xs : Nat → Int32) (rec23 : kS → Int32 → Option (Int32 × kS)) (σ : kS) (x4 : Int32) : Option (Int32 × kS) := k_ld xs L ((x4 + 1)) fun v1 => k_call (M_La_parts σ v1) fun v2 σ3 => k_ld xs L ((x4 + 1)) fun v5 => k_call (M_Md_parts σ3 v5) fun v6 σ7 => k_call (M_Md_thrown σ7) fun v9 σ10 => if v9 = v2 then (if v2 = 0 then (if lg_cmp (σ10.2.2 (0 : Int32).toNatClampNeg) ((v6 : Int32).toInt64) = 0 then (k_let (x4 + 4) fun v16 => rec23 σ10 v16) else (some (0, σ10))) else (k_let (x4 + 4) fun v14 => rec23 σ10 v14)) else (some (0, σ10))
set_option maxHeartbeats 4000000 in
set_option maxRecDepth 100000 in
theorem B_La_law_964 {p : Program} {l : Launch} {e : Env} {s : State} {m : MethodId} {below : List Frame} {meth : Method} {c : Code} {D : va_G} {a : Nat → Nat} {c9 : Nat → ClassId} {b L : Nat} {xs : Nat → Int32} {σo : kS} (C0 : k_Lx D c9 l p s m meth c b L xs) {n : Nat} {rec23 : kS → Int32 → Option (Int32 × kS)} (hrec : ∀ (σ : kS) (x4 : Int32) (H : Heap) (locs : List Loc) (ls : Array Slot) (cells slots : Nat), cells + 6 * n ≤ 601024 → slots + 36 * n ≤ 7293034 → va_P D kcl (kw a c9 σ) H → va_D (fun q => s.heap.size ≤ q) (kw a c9 σ) → va_S (fun q => s.heap.size ≤ q) s.heap H locs → lv_has ls 7 [(0, .ref b), (1, .ref (a 0)), (2, .ref (a 6)), (3, .ref (a 65)), (4, .int x4)] → rec23 σ x4 = some (1, σo) → W p l e room_1 s m #[Value.ref b] below meth c H locs cells slots (lw_Z below #[Value.ref b] s) (F0 m 23 ls [])) (σ : kS) (x4 : Int32) (H : Heap) (locs : List Loc) (ls : Array Slot) (cells slots : Nat) (hcl : cells + 6 * n + 6 ≤ 601024) (hsl : slots + 36 * n + 36 ≤ 7293034) (hP : va_P D kcl (kw a c9 σ) H) (hD : va_D (fun q => s.heap.size ≤ q) (kw a c9 σ)) (hS : va_S (fun q => s.heap.size ≤ q) s.heap H locs) (hl : lv_has ls 7 [(0, .ref b), (1, .ref (a 0)), (2, .ref (a 6)), (3, .ref (a 65)), (4, .int x4)]) (h : M_La_law_964 L xs rec23 σ x4 = some (1, σo)) : W p l e room_1 s m #[Value.ref b] below meth c H locs cells slots (lw_Z below #[Value.ref b] s) (F0 m 964 ls []) := by
  obtain ⟨hx, hb, hml, hown, hts, hr, hlk, hK, hN, hst, hX, hY, hSc, hbl⟩ := id C0
  have hA : ∀ q : Nat, s.heap.size ≤ q → (fun q : Nat => s.heap.size ≤ q) q := fun _ h => h
  have hbA : ¬ (fun q : Nat => s.heap.size ≤ q) b := Nat.not_le.mpr hbl
  unfold M_La_law_964 at h
  refine lv_aload_n hx hb d_La_law_964 rfl (lv_at hl 1 rfl) ?_
  refine lv_aload_n hx hb d_La_law_965 rfl (lv_at hl 0 rfl) ?_
  refine lv_iload hx hb d_La_law_966 (lv_at hl 4 rfl) ?_
  refine lv_iconst (v := 1) hx hb d_La_law_968 (by decide) ?_
  refine lv_iadd hx hb d_La_law_969 ?_
  obtain ⟨v1, ev1, hv1, h⟩ := k_ld_e h
  refine va_sld hx hb hSc hbl hbA hS hv1 d_La_law_970 (k_top ev1 ?_)
  refine lv_aload_n hx hb d_La_law_971 rfl (lv_at hl 3 rfl) ?_
  obtain ⟨v2, σ3, hc4, h⟩ := k_call_e h
  refine k_calli (vx_runSW (As := [.ref (a 0), .int v1, .ref (a 65)]) (rest := []) ⟨hx, hb, hml, hown, hts⟩ (K_La_parts l hst D a c9 H.size hc4) (vx_cwSW 3 hts (k_gSW q_691 q_692 q_0 w_693) rfl rfl rfl h_La_parts.2 ⟨Nat.le_of_ble_eq_true rfl, Nat.le_of_ble_eq_true rfl⟩) (k_preSY hP hK hN hD hX hY hS hA) rfl rfl hl.1 rfl (lv_room (Nat.le_of_ble_eq_true rfl)) d_La_law_972 ⟨by show _ ≤ 601024; omega, by show _ ≤ 7293034; omega⟩) hD hS hA (fun H locs hP hD hS => ?_)
  refine lv_istore (lv' := [(5, .int v2), (0, .ref b), (1, .ref (a 0)), (2, .ref (a 6)), (3, .ref (a 65)), (4, .int x4)]) hx hb d_La_law_975 hl (by decide) rfl (fun ls hl => ?_)
  refine lv_aload_n hx hb d_La_law_977 rfl (lv_at hl 3 rfl) ?_
  refine lv_aload_n hx hb d_La_law_978 rfl (lv_at hl 1 rfl) ?_
  refine lv_iload hx hb d_La_law_979 (lv_at hl 5 rfl) ?_
  refine lv_iconst (v := 1) hx hb d_La_law_981 (by decide) ?_
  refine lv_iadd hx hb d_La_law_982 ?_
  obtain ⟨v5, ev5, hv5, h⟩ := k_ld_e h
  refine va_sld hx hb hSc hbl hbA hS hv5 d_La_law_983 (k_top ev5 ?_)
  obtain ⟨v6, σ7, hc8, h⟩ := k_call_e h
  refine k_calli (va_runV (As := [.int v5]) (rest := []) ⟨hx, hb, hml, hown, hts⟩ (K_Md_parts l D a c9 H.size hc8) (cwV 1 hts (k_gV q_982 q_983 q_984 q_7 q_985) rfl rfl rfl h_Md_parts ⟨Nat.le_of_ble_eq_true rfl, Nat.le_of_ble_eq_true rfl⟩) (k_preV (ci := 1) (q0 := 6) rfl kw_6 hP hK hN hD) rfl rfl hl.1 rfl (lv_room (Nat.le_of_ble_eq_true rfl)) d_La_law_984 ⟨by show _ ≤ 601024; omega, by show _ ≤ 7293034; omega⟩) hD hS hA (fun H locs hP hD hS => ?_)
  refine lv_istore (lv' := [(6, .int v6), (5, .int v2), (0, .ref b), (1, .ref (a 0)), (2, .ref (a 6)), (3, .ref (a 65)), (4, .int x4)]) hx hb d_La_law_987 hl (by decide) rfl (fun ls hl => ?_)
  refine lv_aload_n hx hb d_La_law_989 rfl (lv_at hl 4 rfl) ?_
  obtain ⟨v9, σ10, hc11, h⟩ := k_call_e h
  refine k_calli (va_runV (As := []) (rest := []) ⟨hx, hb, hml, hown, hts⟩ (K_Md_thrown l D a c9 H.size hc11) (cwV 0 hts (k_gV q_846 q_847 q_848 q_7 q_849) rfl rfl rfl h_Md_thrown ⟨Nat.le_of_ble_eq_true rfl, Nat.le_of_ble_eq_true rfl⟩) (k_preV (ci := 1) (q0 := 6) rfl kw_6 hP hK hN hD) rfl rfl hl.1 rfl (lv_room (Nat.le_of_ble_eq_true rfl)) d_La_law_990 ⟨by show _ ≤ 601024; omega, by show _ ≤ 7293034; omega⟩) hD hS hA (fun H locs hP hD hS => ?_)
  refine lv_iload hx hb d_La_law_993 (lv_at hl 1 rfl) ?_
  refine lv_icmp_eq (tgt := 1000) hx hb d_La_law_995 (by decide) (fun cn12 => ?_) (fun cn12 => ?_)
  · replace h := (if_pos cn12).symm.trans h
    refine lv_iload hx hb d_La_law_1000 (lv_at hl 1 rfl) ?_
    refine lv_if_ne (tgt := 1017) hx hb d_La_law_1002 (by decide) (fun cn13 => ?_) (fun cn13 => ?_)
    · replace h := (if_neg cn13).symm.trans h
      refine lv_goto (tgt := 1113) hx hb d_La_law_1017 (by decide) ?_
      obtain ⟨v14, ev14, h⟩ := k_let_e h
      refine lv_iinc (v := v14) (lv' := [(4, .int v14), (6, .int v6), (5, .int v2), (0, .ref b), (1, .ref (a 0)), (2, .ref (a 6)), (3, .ref (a 65))]) hx hb d_La_law_1113 hl (k := 6) rfl (by rw [ev14]; rfl) (by decide) rfl (fun ls hl => ?_)
      refine lv_goto (tgt := 23) hx hb d_La_law_1116 (by decide) ?_
      exact hrec _ _ H locs ls _ _ (by omega) (by omega) hP hD hS (lv_sub hl [3, 4, 5, 6, 0] rfl) h
    · replace h := (if_pos cn13).symm.trans h
      refine lv_aload_n hx hb d_La_law_1005 rfl (lv_at hl 5 rfl) ?_
      refine lv_iconst (v := 0) hx hb d_La_law_1006 (by decide) ?_
      refine va_lald hx hb hK hP 65 2 kw_65 rfl k_in01 d_La_law_1007 ?_
      refine lv_iload hx hb d_La_law_1008 (lv_at hl 0 rfl) ?_
      refine lv_i2l (v := (v6 : Int32).toInt64) hx hb d_La_law_1010 rfl ?_
      refine W.lcmp hx hb d_La_law_1011 ?_
      refine lv_if_eq (tgt := 1017) hx hb d_La_law_1012 (by decide) (fun cn15 => ?_) (fun cn15 => ?_)
      · replace h := (if_pos cn15).symm.trans h
        refine lv_goto (tgt := 1113) hx hb d_La_law_1017 (by decide) ?_
        obtain ⟨v16, ev16, h⟩ := k_let_e h
        refine lv_iinc (v := v16) (lv' := [(4, .int v16), (6, .int v6), (5, .int v2), (0, .ref b), (1, .ref (a 0)), (2, .ref (a 6)), (3, .ref (a 65))]) hx hb d_La_law_1113 hl (k := 6) rfl (by rw [ev16]; rfl) (by decide) rfl (fun ls hl => ?_)
        refine lv_goto (tgt := 23) hx hb d_La_law_1116 (by decide) ?_
        exact hrec _ _ H locs ls _ _ (by omega) (by omega) hP hD hS (lv_sub hl [3, 4, 5, 6, 0] rfl) h
      · replace h := (if_neg cn15).symm.trans h
        refine lv_iconst (v := 0) hx hb d_La_law_1015 (by decide) ?_
        exact (k_no01 h).elim
  · replace h := (if_neg cn12).symm.trans h
    refine lv_iconst (v := 0) hx hb d_La_law_998 (by decide) ?_
    exact (k_no01 h).elim
/-- pc 1020 -/
def M_La_law_1020 (L : Nat) (xs : Nat → Int32) (rec23 : kS → Int32 → Option (Int32 × kS)) (σ : kS) (x4 : Int32) : Option (Int32 × kS) := k_ld xs L ((x4 + 1)) fun v1 => k_ld xs L ((x4 + 2)) fun v2 => k_call (M_La_part σ v1 v2) fun v3 σ4 => k_ld xs L ((x4 + 1)) fun v6 => k_ld xs L ((x4 + 2)) fun v7 => k_call (M_Md_part σ4 v6 v7) fun v8 σ9 => k_call (M_Md_thrown σ9) fun v11 σ12 => if v11 = v3 then (if v3 = 0 then (if lg_cmp (σ12.2.2 (0 : Int32).toNatClampNeg) ((v8 : Int32).toInt64) = 0 then (k_let (x4 + 4) fun v18 => rec23 σ12 v18) else (some (0, σ12))) else (k_let (x4 + 4) fun v16 => rec23 σ12 v16)) else (some (0, σ12))
set_option maxHeartbeats 4000000 in
set_option maxRecDepth 100000 in
theorem B_La_law_1020 {p : Program} {l : Launch} {e : Env} {s : State} {m : MethodId} {below : List Frame} {meth : Method} {c : Code} {D : va_G} {a : Nat → Nat} {c9 : Nat → ClassId} {b L : Nat} {xs : Nat → Int32} {σo : kS} (C0 : k_Lx D c9 l p s m meth c b L xs) {n : Nat} {rec23 : kS → Int32 → Option (Int32 × kS)} (hrec : ∀ (σ : kS) (x4 : Int32) (H : Heap) (locs : List Loc) (ls : Array Slot) (cells slots : Nat), cells + 6 * n ≤ 601024 → slots + 36 * n ≤ 7293034 → va_P D kcl (kw a c9 σ) H → va_D (fun q => s.heap.size ≤ q) (kw a c9 σ) → va_S (fun q => s.heap.size ≤ q) s.heap H locs → lv_has ls 7 [(0, .ref b), (1, .ref (a 0)), (2, .ref (a 6)), (3, .ref (a 65)), (4, .int x4)] → rec23 σ x4 = some (1, σo) → W p l e room_1 s m #[Value.ref b] below meth c H locs cells slots (lw_Z below #[Value.ref b] s) (F0 m 23 ls [])) (σ : kS) (x4 : Int32) (H : Heap) (locs : List Loc) (ls : Array Slot) (cells slots : Nat) (hcl : cells + 6 * n + 6 ≤ 601024) (hsl : slots + 36 * n + 36 ≤ 7293034) (hP : va_P D kcl (kw a c9 σ) H) (hD : va_D (fun q => s.heap.size ≤ q) (kw a c9 σ)) (hS : va_S (fun q => s.heap.size ≤ q) s.heap H locs) (hl : lv_has ls 7 [(0, .ref b), (1, .ref (a 0)), (2, .ref (a 6)), (3, .ref (a 65)), (4, .int x4)]) (h : M_La_law_1020 L xs rec23 σ x4 = some (1, σo)) : W p l e room_1 s m #[Value.ref b] below meth c H locs cells slots (lw_Z below #[Value.ref b] s) (F0 m 1020 ls []) := by
  obtain ⟨hx, hb, hml, hown, hts, hr, hlk, hK, hN, hst, hX, hY, hSc, hbl⟩ := id C0
  have hA : ∀ q : Nat, s.heap.size ≤ q → (fun q : Nat => s.heap.size ≤ q) q := fun _ h => h
  have hbA : ¬ (fun q : Nat => s.heap.size ≤ q) b := Nat.not_le.mpr hbl
  unfold M_La_law_1020 at h
  refine lv_aload_n hx hb d_La_law_1020 rfl (lv_at hl 1 rfl) ?_
  refine lv_aload_n hx hb d_La_law_1021 rfl (lv_at hl 0 rfl) ?_
  refine lv_iload hx hb d_La_law_1022 (lv_at hl 4 rfl) ?_
  refine lv_iconst (v := 1) hx hb d_La_law_1024 (by decide) ?_
  refine lv_iadd hx hb d_La_law_1025 ?_
  obtain ⟨v1, ev1, hv1, h⟩ := k_ld_e h
  refine va_sld hx hb hSc hbl hbA hS hv1 d_La_law_1026 (k_top ev1 ?_)
  refine lv_aload_n hx hb d_La_law_1027 rfl (lv_at hl 0 rfl) ?_
  refine lv_iload hx hb d_La_law_1028 (lv_at hl 4 rfl) ?_
  refine lv_iconst (v := 2) hx hb d_La_law_1030 (by decide) ?_
  refine lv_iadd hx hb d_La_law_1031 ?_
  obtain ⟨v2, ev2, hv2, h⟩ := k_ld_e h
  refine va_sld hx hb hSc hbl hbA hS hv2 d_La_law_1032 (k_top ev2 ?_)
  refine lv_aload_n hx hb d_La_law_1033 rfl (lv_at hl 3 rfl) ?_
  obtain ⟨v3, σ4, hc5, h⟩ := k_call_e h
  refine k_calli (vx_runSW (As := [.ref (a 0), .int v1, .int v2, .ref (a 65)]) (rest := []) ⟨hx, hb, hml, hown, hts⟩ (K_La_part l hst D a c9 H.size hc5) (vx_cwSW 4 hts (k_gSW q_699 q_700 q_0 w_701) rfl rfl rfl h_La_part.2 ⟨Nat.le_of_ble_eq_true rfl, Nat.le_of_ble_eq_true rfl⟩) (k_preSY hP hK hN hD hX hY hS hA) rfl rfl hl.1 rfl (lv_room (Nat.le_of_ble_eq_true rfl)) d_La_law_1034 ⟨by show _ ≤ 601024; omega, by show _ ≤ 7293034; omega⟩) hD hS hA (fun H locs hP hD hS => ?_)
  refine lv_istore (lv' := [(5, .int v3), (0, .ref b), (1, .ref (a 0)), (2, .ref (a 6)), (3, .ref (a 65)), (4, .int x4)]) hx hb d_La_law_1037 hl (by decide) rfl (fun ls hl => ?_)
  refine lv_aload_n hx hb d_La_law_1039 rfl (lv_at hl 3 rfl) ?_
  refine lv_aload_n hx hb d_La_law_1040 rfl (lv_at hl 1 rfl) ?_
  refine lv_iload hx hb d_La_law_1041 (lv_at hl 5 rfl) ?_
  refine lv_iconst (v := 1) hx hb d_La_law_1043 (by decide) ?_
  refine lv_iadd hx hb d_La_law_1044 ?_
  obtain ⟨v6, ev6, hv6, h⟩ := k_ld_e h
  refine va_sld hx hb hSc hbl hbA hS hv6 d_La_law_1045 (k_top ev6 ?_)
  refine lv_aload_n hx hb d_La_law_1046 rfl (lv_at hl 1 rfl) ?_
  refine lv_iload hx hb d_La_law_1047 (lv_at hl 5 rfl) ?_
  refine lv_iconst (v := 2) hx hb d_La_law_1049 (by decide) ?_
  refine lv_iadd hx hb d_La_law_1050 ?_
  obtain ⟨v7, ev7, hv7, h⟩ := k_ld_e h
  refine va_sld hx hb hSc hbl hbA hS hv7 d_La_law_1051 (k_top ev7 ?_)
  obtain ⟨v8, σ9, hc10, h⟩ := k_call_e h
  refine k_calli (va_runV (As := [.int v6, .int v7]) (rest := []) ⟨hx, hb, hml, hown, hts⟩ (K_Md_part l D a c9 H.size hc10) (cwV 2 hts (k_gV q_986 q_987 q_988 q_7 q_989) rfl rfl rfl h_Md_part ⟨Nat.le_of_ble_eq_true rfl, Nat.le_of_ble_eq_true rfl⟩) (k_preV (ci := 1) (q0 := 6) rfl kw_6 hP hK hN hD) rfl rfl hl.1 rfl (lv_room (Nat.le_of_ble_eq_true rfl)) d_La_law_1052 ⟨by show _ ≤ 601024; omega, by show _ ≤ 7293034; omega⟩) hD hS hA (fun H locs hP hD hS => ?_)
  refine lv_istore (lv' := [(6, .int v8), (5, .int v3), (0, .ref b), (1, .ref (a 0)), (2, .ref (a 6)), (3, .ref (a 65)), (4, .int x4)]) hx hb d_La_law_1055 hl (by decide) rfl (fun ls hl => ?_)
  refine lv_aload_n hx hb d_La_law_1057 rfl (lv_at hl 4 rfl) ?_
  obtain ⟨v11, σ12, hc13, h⟩ := k_call_e h
  refine k_calli (va_runV (As := []) (rest := []) ⟨hx, hb, hml, hown, hts⟩ (K_Md_thrown l D a c9 H.size hc13) (cwV 0 hts (k_gV q_846 q_847 q_848 q_7 q_849) rfl rfl rfl h_Md_thrown ⟨Nat.le_of_ble_eq_true rfl, Nat.le_of_ble_eq_true rfl⟩) (k_preV (ci := 1) (q0 := 6) rfl kw_6 hP hK hN hD) rfl rfl hl.1 rfl (lv_room (Nat.le_of_ble_eq_true rfl)) d_La_law_1058 ⟨by show _ ≤ 601024; omega, by show _ ≤ 7293034; omega⟩) hD hS hA (fun H locs hP hD hS => ?_)
  refine lv_iload hx hb d_La_law_1061 (lv_at hl 1 rfl) ?_
  refine lv_icmp_eq (tgt := 1068) hx hb d_La_law_1063 (by decide) (fun cn14 => ?_) (fun cn14 => ?_)
  · replace h := (if_pos cn14).symm.trans h
    refine lv_iload hx hb d_La_law_1068 (lv_at hl 1 rfl) ?_
    refine lv_if_ne (tgt := 1085) hx hb d_La_law_1070 (by decide) (fun cn15 => ?_) (fun cn15 => ?_)
    · replace h := (if_neg cn15).symm.trans h
      refine lv_goto (tgt := 1113) hx hb d_La_law_1085 (by decide) ?_
      obtain ⟨v16, ev16, h⟩ := k_let_e h
      refine lv_iinc (v := v16) (lv' := [(4, .int v16), (6, .int v8), (5, .int v3), (0, .ref b), (1, .ref (a 0)), (2, .ref (a 6)), (3, .ref (a 65))]) hx hb d_La_law_1113 hl (k := 6) rfl (by rw [ev16]; rfl) (by decide) rfl (fun ls hl => ?_)
      refine lv_goto (tgt := 23) hx hb d_La_law_1116 (by decide) ?_
      exact hrec _ _ H locs ls _ _ (by omega) (by omega) hP hD hS (lv_sub hl [3, 4, 5, 6, 0] rfl) h
    · replace h := (if_pos cn15).symm.trans h
      refine lv_aload_n hx hb d_La_law_1073 rfl (lv_at hl 5 rfl) ?_
      refine lv_iconst (v := 0) hx hb d_La_law_1074 (by decide) ?_
      refine va_lald hx hb hK hP 65 2 kw_65 rfl k_in01 d_La_law_1075 ?_
      refine lv_iload hx hb d_La_law_1076 (lv_at hl 0 rfl) ?_
      refine lv_i2l (v := (v8 : Int32).toInt64) hx hb d_La_law_1078 rfl ?_
      refine W.lcmp hx hb d_La_law_1079 ?_
      refine lv_if_eq (tgt := 1085) hx hb d_La_law_1080 (by decide) (fun cn17 => ?_) (fun cn17 => ?_)
      · replace h := (if_pos cn17).symm.trans h
        refine lv_goto (tgt := 1113) hx hb d_La_law_1085 (by decide) ?_
        obtain ⟨v18, ev18, h⟩ := k_let_e h
        refine lv_iinc (v := v18) (lv' := [(4, .int v18), (6, .int v8), (5, .int v3), (0, .ref b), (1, .ref (a 0)), (2, .ref (a 6)), (3, .ref (a 65))]) hx hb d_La_law_1113 hl (k := 6) rfl (by rw [ev18]; rfl) (by decide) rfl (fun ls hl => ?_)
        refine lv_goto (tgt := 23) hx hb d_La_law_1116 (by decide) ?_
        exact hrec _ _ H locs ls _ _ (by omega) (by omega) hP hD hS (lv_sub hl [3, 4, 5, 6, 0] rfl) h
      · replace h := (if_neg cn17).symm.trans h
        refine lv_iconst (v := 0) hx hb d_La_law_1083 (by decide) ?_
        exact (k_no01 h).elim
  · replace h := (if_neg cn14).symm.trans h
    refine lv_iconst (v := 0) hx hb d_La_law_1066 (by decide) ?_
    exact (k_no01 h).elim
/-- pc 1088 -/
def M_La_law_1088 (L : Nat) (xs : Nat → Int32) (rec23 : kS → Int32 → Option (Int32 × kS)) (σ : kS) (x4 : Int32) : Option (Int32 × kS) := k_ld xs L ((x4 + 1)) fun v1 => k_call (M_SM_count σ v1) fun v2 σ3 => k_ld xs L ((x4 + 1)) fun v5 => k_call (M_Md_count σ3 v5) fun v6 σ7 => if v2 = v6 then (k_let (x4 + 4) fun v10 => rec23 σ7 v10) else (some (0, σ7))
set_option maxHeartbeats 4000000 in
set_option maxRecDepth 100000 in
theorem B_La_law_1088 {p : Program} {l : Launch} {e : Env} {s : State} {m : MethodId} {below : List Frame} {meth : Method} {c : Code} {D : va_G} {a : Nat → Nat} {c9 : Nat → ClassId} {b L : Nat} {xs : Nat → Int32} {σo : kS} (C0 : k_Lx D c9 l p s m meth c b L xs) {n : Nat} {rec23 : kS → Int32 → Option (Int32 × kS)} (hrec : ∀ (σ : kS) (x4 : Int32) (H : Heap) (locs : List Loc) (ls : Array Slot) (cells slots : Nat), cells + 6 * n ≤ 601024 → slots + 36 * n ≤ 7293034 → va_P D kcl (kw a c9 σ) H → va_D (fun q => s.heap.size ≤ q) (kw a c9 σ) → va_S (fun q => s.heap.size ≤ q) s.heap H locs → lv_has ls 7 [(0, .ref b), (1, .ref (a 0)), (2, .ref (a 6)), (3, .ref (a 65)), (4, .int x4)] → rec23 σ x4 = some (1, σo) → W p l e room_1 s m #[Value.ref b] below meth c H locs cells slots (lw_Z below #[Value.ref b] s) (F0 m 23 ls [])) (σ : kS) (x4 : Int32) (H : Heap) (locs : List Loc) (ls : Array Slot) (cells slots : Nat) (hcl : cells + 6 * n + 6 ≤ 601024) (hsl : slots + 36 * n + 36 ≤ 7293034) (hP : va_P D kcl (kw a c9 σ) H) (hD : va_D (fun q => s.heap.size ≤ q) (kw a c9 σ)) (hS : va_S (fun q => s.heap.size ≤ q) s.heap H locs) (hl : lv_has ls 7 [(0, .ref b), (1, .ref (a 0)), (2, .ref (a 6)), (3, .ref (a 65)), (4, .int x4)]) (h : M_La_law_1088 L xs rec23 σ x4 = some (1, σo)) : W p l e room_1 s m #[Value.ref b] below meth c H locs cells slots (lw_Z below #[Value.ref b] s) (F0 m 1088 ls []) := by
  obtain ⟨hx, hb, hml, hown, hts, hr, hlk, hK, hN, hst, hX, hY, hSc, hbl⟩ := id C0
  have hA : ∀ q : Nat, s.heap.size ≤ q → (fun q : Nat => s.heap.size ≤ q) q := fun _ h => h
  have hbA : ¬ (fun q : Nat => s.heap.size ≤ q) b := Nat.not_le.mpr hbl
  unfold M_La_law_1088 at h
  refine lv_aload_n hx hb d_La_law_1088 rfl (lv_at hl 1 rfl) ?_
  refine lv_aload_n hx hb d_La_law_1089 rfl (lv_at hl 0 rfl) ?_
  refine lv_iload hx hb d_La_law_1090 (lv_at hl 4 rfl) ?_
  refine lv_iconst (v := 1) hx hb d_La_law_1092 (by decide) ?_
  refine lv_iadd hx hb d_La_law_1093 ?_
  obtain ⟨v1, ev1, hv1, h⟩ := k_ld_e h
  refine va_sld hx hb hSc hbl hbA hS hv1 d_La_law_1094 (k_top ev1 ?_)
  obtain ⟨v2, σ3, hc4, h⟩ := k_call_e h
  refine k_calli (va_runV (As := [.int v1]) (rest := []) ⟨hx, hb, hml, hown, hts⟩ (K_SM_count l D a c9 H.size hc4) (cwV 1 hts (k_gV q_205 q_206 q_207 q_1 q_208) rfl rfl rfl h_SM_count ⟨Nat.le_of_ble_eq_true rfl, Nat.le_of_ble_eq_true rfl⟩) (k_preV (ci := 0) (q0 := 0) rfl kw_0 hP hK hN hD) rfl rfl hl.1 rfl (lv_room (Nat.le_of_ble_eq_true rfl)) d_La_law_1095 ⟨by show _ ≤ 601024; omega, by show _ ≤ 7293034; omega⟩) hD hS hA (fun H locs hP hD hS => ?_)
  refine lv_aload_n hx hb d_La_law_1098 rfl (lv_at hl 2 rfl) ?_
  refine lv_aload_n hx hb d_La_law_1099 rfl (lv_at hl 0 rfl) ?_
  refine lv_iload hx hb d_La_law_1100 (lv_at hl 4 rfl) ?_
  refine lv_iconst (v := 1) hx hb d_La_law_1102 (by decide) ?_
  refine lv_iadd hx hb d_La_law_1103 ?_
  obtain ⟨v5, ev5, hv5, h⟩ := k_ld_e h
  refine va_sld hx hb hSc hbl hbA hS hv5 d_La_law_1104 (k_top ev5 ?_)
  obtain ⟨v6, σ7, hc8, h⟩ := k_call_e h
  refine k_calli (va_runV (As := [.int v5]) (rest := [.int v2]) ⟨hx, hb, hml, hown, hts⟩ (K_Md_count l D a c9 H.size hc8) (cwV 1 hts (k_gV q_990 q_991 q_992 q_7 q_993) rfl rfl rfl h_Md_count ⟨Nat.le_of_ble_eq_true rfl, Nat.le_of_ble_eq_true rfl⟩) (k_preV (ci := 1) (q0 := 6) rfl kw_6 hP hK hN hD) rfl rfl hl.1 rfl (lv_room (Nat.le_of_ble_eq_true rfl)) d_La_law_1105 ⟨by show _ ≤ 601024; omega, by show _ ≤ 7293034; omega⟩) hD hS hA (fun H locs hP hD hS => ?_)
  refine lv_icmp_eq (tgt := 1113) hx hb d_La_law_1108 (by decide) (fun cn9 => ?_) (fun cn9 => ?_)
  · replace h := (if_pos cn9).symm.trans h
    obtain ⟨v10, ev10, h⟩ := k_let_e h
    refine lv_iinc (v := v10) (lv' := [(4, .int v10), (0, .ref b), (1, .ref (a 0)), (2, .ref (a 6)), (3, .ref (a 65))]) hx hb d_La_law_1113 hl (k := 4) rfl (by rw [ev10]; rfl) (by decide) rfl (fun ls hl => ?_)
    refine lv_goto (tgt := 23) hx hb d_La_law_1116 (by decide) ?_
    exact hrec _ _ H locs ls _ _ (by omega) (by omega) hP hD hS (lv_sub hl [1, 2, 3, 4, 0] rfl) h
  · replace h := (if_neg cn9).symm.trans h
    refine lv_iconst (v := 0) hx hb d_La_law_1111 (by decide) ?_
    exact (k_no01 h).elim
/-- pc 23 -/
def M_La_law_b (L : Nat) (xs : Nat → Int32) (rec23 : kS → Int32 → Option (Int32 × kS)) (σ : kS) (x4 : Int32) : Option (Int32 × kS) := if (Int32.ofNat L - 4) < x4 then (some (1, σ)) else (k_ld xs L (x4) fun v2 => k_let ((v2 &&& 31)) fun v3 => if v3 = 0 then (M_La_law_120 L xs rec23 σ x4) else (if v3 = 1 then (M_La_law_176 L xs rec23 σ x4) else (if v3 = 2 then (M_La_law_232 L xs rec23 σ x4) else (if v3 = 3 then (M_La_law_307 L xs rec23 σ x4) else (if v3 = 4 then (M_La_law_375 L xs rec23 σ x4) else (if v3 = 5 then (M_La_law_462 L xs rec23 σ x4) else (if v3 = 6 then (M_La_law_542 L xs rec23 σ x4) else (if v3 = 7 then (M_La_law_555 L xs rec23 σ x4) else (if v3 = 8 then (M_La_law_635 L xs rec23 σ x4) else (if v3 = 9 then (M_La_law_703 L xs rec23 σ x4) else (if v3 = 10 then (M_La_law_759 L xs rec23 σ x4) else (if v3 = 11 then (M_La_law_815 L xs rec23 σ x4) else (if v3 = 12 then (M_La_law_840 L xs rec23 σ x4) else (if v3 = 13 then (M_La_law_896 L xs rec23 σ x4) else (if v3 = 14 then (M_La_law_964 L xs rec23 σ x4) else (if v3 = 15 then (M_La_law_1020 L xs rec23 σ x4) else (if v3 = 16 then (M_La_law_1088 L xs rec23 σ x4) else (k_let (x4 + 4) fun v21 => rec23 σ v21))))))))))))))))))
def M_La_law (L : Nat) (xs : Nat → Int32) : Nat → kS → Int32 → Option (Int32 × kS)
  | 0 => fun _ _ => none
  | n + 1 => M_La_law_b L xs (M_La_law L xs n)
set_option maxHeartbeats 4000000 in
set_option maxRecDepth 100000 in
theorem B_La_law_23 {p : Program} {l : Launch} {e : Env} {s : State} {m : MethodId} {below : List Frame} {meth : Method} {c : Code} {D : va_G} {a : Nat → Nat} {c9 : Nat → ClassId} {b L : Nat} {xs : Nat → Int32} {σo : kS} (C0 : k_Lx D c9 l p s m meth c b L xs) : ∀ (n : Nat) (σ : kS) (x4 : Int32) (H : Heap) (locs : List Loc) (ls : Array Slot) (cells slots : Nat), cells + 6 * n ≤ 601024 → slots + 36 * n ≤ 7293034 → va_P D kcl (kw a c9 σ) H → va_D (fun q => s.heap.size ≤ q) (kw a c9 σ) → va_S (fun q => s.heap.size ≤ q) s.heap H locs → lv_has ls 7 [(0, .ref b), (1, .ref (a 0)), (2, .ref (a 6)), (3, .ref (a 65)), (4, .int x4)] → M_La_law L xs n σ x4 = some (1, σo) → W p l e room_1 s m #[Value.ref b] below meth c H locs cells slots (lw_Z below #[Value.ref b] s) (F0 m 23 ls []) := by
  obtain ⟨hx, hb, hml, hown, hts, hr, hlk, hK, hN, hst, hX, hY, hSc, hbl⟩ := id C0
  have hA : ∀ q : Nat, s.heap.size ≤ q → (fun q : Nat => s.heap.size ≤ q) q := fun _ h => h
  have hbA : ¬ (fun q : Nat => s.heap.size ≤ q) b := Nat.not_le.mpr hbl
  intro n
  induction n with
  | zero =>
    intro σ x4 H locs ls cells slots hcl hsl hP hD hS hl h
    replace h : (none : Option (Int32 × kS)) = some (1, σo) := h
    cases h
  | succ n hrec =>
    intro σ x4 H locs ls cells slots hcl0 hsl0 hP hD hS hl h
    have hcl : cells + 6 * n + 6 ≤ 601024 := by omega
    have hsl : slots + 36 * n + 36 ≤ 7293034 := by omega
    replace h : M_La_law_b L xs (M_La_law L xs n) σ x4 = some (1, σo) := h
    unfold M_La_law_b at h
    refine lv_iload hx hb d_La_law_23 (lv_at hl 4 rfl) ?_
    refine lv_aload_n hx hb d_La_law_25 rfl (lv_at hl 0 rfl) ?_
    refine va_slen hx hb hSc hbl hbA hS d_La_law_26 ?_
    refine lv_iconst (v := 4) hx hb d_La_law_27 (by decide) ?_
    refine lv_isub hx hb d_La_law_28 ?_
    refine lv_icmp_gt (tgt := 1119) hx hb d_La_law_29 (by decide) (fun cn1 => ?_) (fun cn1 => ?_)
    · replace h := (if_pos cn1).symm.trans h
      refine lv_iconst (v := 1) hx hb d_La_law_1119 (by decide) ?_
      refine va_forget (fun q hq => hS.2.2 q hq) ?_
      refine W.widen (k := 601024) (n := 7293034) (by omega) (by omega) ?_
      exact lw_ret hx hb hr hlk d_La_law_1120
    · replace h := (if_neg cn1).symm.trans h
      refine lv_aload_n hx hb d_La_law_32 rfl (lv_at hl 0 rfl) ?_
      refine lv_iload hx hb d_La_law_33 (lv_at hl 4 rfl) ?_
      obtain ⟨v2, ev2, hv2, h⟩ := k_ld_e h
      refine va_sld hx hb hSc hbl hbA hS hv2 d_La_law_35 (k_top ev2 ?_)
      refine lv_bipush (v := 31) hx hb d_La_law_36 (by decide) ?_
      refine lv_iand hx hb d_La_law_38 ?_
      obtain ⟨v3, ev3, h⟩ := k_let_e h
      refine k_top ev3 ?_
      by_cases cn4 : v3 = 0
      · replace h := (if_pos cn4).symm.trans h
        refine lv_tableIn (off := 81) (tgt := 120) hx hb d_La_law_39 (by rw [cn4]; decide) (by rw [cn4]; decide) (by rw [cn4]; rfl) (by decide) ?_
        exact B_La_law_120 C0 hrec _ _ H locs ls _ _ hcl hsl hP hD hS (lv_sub hl [0, 1, 2, 3, 4] rfl) h
      replace h := (if_neg cn4).symm.trans h
      by_cases cn5 : v3 = 1
      · replace h := (if_pos cn5).symm.trans h
        refine lv_tableIn (off := 137) (tgt := 176) hx hb d_La_law_39 (by rw [cn5]; decide) (by rw [cn5]; decide) (by rw [cn5]; rfl) (by decide) ?_
        exact B_La_law_176 C0 hrec _ _ H locs ls _ _ hcl hsl hP hD hS (lv_sub hl [0, 1, 2, 3, 4] rfl) h
      replace h := (if_neg cn5).symm.trans h
      by_cases cn6 : v3 = 2
      · replace h := (if_pos cn6).symm.trans h
        refine lv_tableIn (off := 193) (tgt := 232) hx hb d_La_law_39 (by rw [cn6]; decide) (by rw [cn6]; decide) (by rw [cn6]; rfl) (by decide) ?_
        exact B_La_law_232 C0 hrec _ _ H locs ls _ _ hcl hsl hP hD hS (lv_sub hl [0, 1, 2, 3, 4] rfl) h
      replace h := (if_neg cn6).symm.trans h
      by_cases cn7 : v3 = 3
      · replace h := (if_pos cn7).symm.trans h
        refine lv_tableIn (off := 268) (tgt := 307) hx hb d_La_law_39 (by rw [cn7]; decide) (by rw [cn7]; decide) (by rw [cn7]; rfl) (by decide) ?_
        exact B_La_law_307 C0 hrec _ _ H locs ls _ _ hcl hsl hP hD hS (lv_sub hl [0, 1, 2, 3, 4] rfl) h
      replace h := (if_neg cn7).symm.trans h
      by_cases cn8 : v3 = 4
      · replace h := (if_pos cn8).symm.trans h
        refine lv_tableIn (off := 336) (tgt := 375) hx hb d_La_law_39 (by rw [cn8]; decide) (by rw [cn8]; decide) (by rw [cn8]; rfl) (by decide) ?_
        exact B_La_law_375 C0 hrec _ _ H locs ls _ _ hcl hsl hP hD hS (lv_sub hl [0, 1, 2, 3, 4] rfl) h
      replace h := (if_neg cn8).symm.trans h
      by_cases cn9 : v3 = 5
      · replace h := (if_pos cn9).symm.trans h
        refine lv_tableIn (off := 423) (tgt := 462) hx hb d_La_law_39 (by rw [cn9]; decide) (by rw [cn9]; decide) (by rw [cn9]; rfl) (by decide) ?_
        exact B_La_law_462 C0 hrec _ _ H locs ls _ _ hcl hsl hP hD hS (lv_sub hl [0, 1, 2, 3, 4] rfl) h
      replace h := (if_neg cn9).symm.trans h
      by_cases cn10 : v3 = 6
      · replace h := (if_pos cn10).symm.trans h
        refine lv_tableIn (off := 503) (tgt := 542) hx hb d_La_law_39 (by rw [cn10]; decide) (by rw [cn10]; decide) (by rw [cn10]; rfl) (by decide) ?_
        exact B_La_law_542 C0 hrec _ _ H locs ls _ _ hcl hsl hP hD hS (lv_sub hl [0, 1, 2, 3, 4] rfl) h
      replace h := (if_neg cn10).symm.trans h
      by_cases cn11 : v3 = 7
      · replace h := (if_pos cn11).symm.trans h
        refine lv_tableIn (off := 516) (tgt := 555) hx hb d_La_law_39 (by rw [cn11]; decide) (by rw [cn11]; decide) (by rw [cn11]; rfl) (by decide) ?_
        exact B_La_law_555 C0 hrec _ _ H locs ls _ _ hcl hsl hP hD hS (lv_sub hl [0, 1, 2, 3, 4] rfl) h
      replace h := (if_neg cn11).symm.trans h
      by_cases cn12 : v3 = 8
      · replace h := (if_pos cn12).symm.trans h
        refine lv_tableIn (off := 596) (tgt := 635) hx hb d_La_law_39 (by rw [cn12]; decide) (by rw [cn12]; decide) (by rw [cn12]; rfl) (by decide) ?_
        exact B_La_law_635 C0 hrec _ _ H locs ls _ _ hcl hsl hP hD hS (lv_sub hl [0, 1, 2, 3, 4] rfl) h
      replace h := (if_neg cn12).symm.trans h
      by_cases cn13 : v3 = 9
      · replace h := (if_pos cn13).symm.trans h
        refine lv_tableIn (off := 664) (tgt := 703) hx hb d_La_law_39 (by rw [cn13]; decide) (by rw [cn13]; decide) (by rw [cn13]; rfl) (by decide) ?_
        exact B_La_law_703 C0 hrec _ _ H locs ls _ _ hcl hsl hP hD hS (lv_sub hl [0, 1, 2, 3, 4] rfl) h
      replace h := (if_neg cn13).symm.trans h
      by_cases cn14 : v3 = 10
      · replace h := (if_pos cn14).symm.trans h
        refine lv_tableIn (off := 720) (tgt := 759) hx hb d_La_law_39 (by rw [cn14]; decide) (by rw [cn14]; decide) (by rw [cn14]; rfl) (by decide) ?_
        exact B_La_law_759 C0 hrec _ _ H locs ls _ _ hcl hsl hP hD hS (lv_sub hl [0, 1, 2, 3, 4] rfl) h
      replace h := (if_neg cn14).symm.trans h
      by_cases cn15 : v3 = 11
      · replace h := (if_pos cn15).symm.trans h
        refine lv_tableIn (off := 776) (tgt := 815) hx hb d_La_law_39 (by rw [cn15]; decide) (by rw [cn15]; decide) (by rw [cn15]; rfl) (by decide) ?_
        exact B_La_law_815 C0 hrec _ _ H locs ls _ _ hcl hsl hP hD hS (lv_sub hl [0, 1, 2, 3, 4] rfl) h
      replace h := (if_neg cn15).symm.trans h
      by_cases cn16 : v3 = 12
      · replace h := (if_pos cn16).symm.trans h
        refine lv_tableIn (off := 801) (tgt := 840) hx hb d_La_law_39 (by rw [cn16]; decide) (by rw [cn16]; decide) (by rw [cn16]; rfl) (by decide) ?_
        exact B_La_law_840 C0 hrec _ _ H locs ls _ _ hcl hsl hP hD hS (lv_sub hl [0, 1, 2, 3, 4] rfl) h
      replace h := (if_neg cn16).symm.trans h
      by_cases cn17 : v3 = 13
      · replace h := (if_pos cn17).symm.trans h
        refine lv_tableIn (off := 857) (tgt := 896) hx hb d_La_law_39 (by rw [cn17]; decide) (by rw [cn17]; decide) (by rw [cn17]; rfl) (by decide) ?_
        exact B_La_law_896 C0 hrec _ _ H locs ls _ _ hcl hsl hP hD hS (lv_sub hl [0, 1, 2, 3, 4] rfl) h
      replace h := (if_neg cn17).symm.trans h
      by_cases cn18 : v3 = 14
      · replace h := (if_pos cn18).symm.trans h
        refine lv_tableIn (off := 925) (tgt := 964) hx hb d_La_law_39 (by rw [cn18]; decide) (by rw [cn18]; decide) (by rw [cn18]; rfl) (by decide) ?_
        exact B_La_law_964 C0 hrec _ _ H locs ls _ _ hcl hsl hP hD hS (lv_sub hl [0, 1, 2, 3, 4] rfl) h
      replace h := (if_neg cn18).symm.trans h
      by_cases cn19 : v3 = 15
      · replace h := (if_pos cn19).symm.trans h
        refine lv_tableIn (off := 981) (tgt := 1020) hx hb d_La_law_39 (by rw [cn19]; decide) (by rw [cn19]; decide) (by rw [cn19]; rfl) (by decide) ?_
        exact B_La_law_1020 C0 hrec _ _ H locs ls _ _ hcl hsl hP hD hS (lv_sub hl [0, 1, 2, 3, 4] rfl) h
      replace h := (if_neg cn19).symm.trans h
      by_cases cn20 : v3 = 16
      · replace h := (if_pos cn20).symm.trans h
        refine lv_tableIn (off := 1049) (tgt := 1088) hx hb d_La_law_39 (by rw [cn20]; decide) (by rw [cn20]; decide) (by rw [cn20]; rfl) (by decide) ?_
        exact B_La_law_1088 C0 hrec _ _ H locs ls _ _ hcl hsl hP hD hS (lv_sub hl [0, 1, 2, 3, 4] rfl) h
      replace h := (if_neg cn20).symm.trans h
      refine lv_tableOut (tgt := 1113) hx hb d_La_law_39 (by have := lv_neT cn4 (k := 0) (a := 0) (by decide); have := lv_neT cn5 (k := 1) (a := 1) (by decide); have := lv_neT cn6 (k := 2) (a := 2) (by decide); have := lv_neT cn7 (k := 3) (a := 3) (by decide); have := lv_neT cn8 (k := 4) (a := 4) (by decide); have := lv_neT cn9 (k := 5) (a := 5) (by decide); have := lv_neT cn10 (k := 6) (a := 6) (by decide); have := lv_neT cn11 (k := 7) (a := 7) (by decide); have := lv_neT cn12 (k := 8) (a := 8) (by decide); have := lv_neT cn13 (k := 9) (a := 9) (by decide); have := lv_neT cn14 (k := 10) (a := 10) (by decide); have := lv_neT cn15 (k := 11) (a := 11) (by decide); have := lv_neT cn16 (k := 12) (a := 12) (by decide); have := lv_neT cn17 (k := 13) (a := 13) (by decide); have := lv_neT cn18 (k := 14) (a := 14) (by decide); have := lv_neT cn19 (k := 15) (a := 15) (by decide); have := lv_neT cn20 (k := 16) (a := 16) (by decide); omega) (by decide) ?_
      obtain ⟨v21, ev21, h⟩ := k_let_e h
      refine lv_iinc (v := v21) (lv' := [(4, .int v21), (0, .ref b), (1, .ref (a 0)), (2, .ref (a 6)), (3, .ref (a 65))]) hx hb d_La_law_1113 hl (k := 4) rfl (by rw [ev21]; rfl) (by decide) rfl (fun ls hl => ?_)
      refine lv_goto (tgt := 23) hx hb d_La_law_1116 (by decide) ?_
      exact hrec _ _ H locs ls _ _ (by omega) (by omega) hP hD hS (lv_sub hl [1, 2, 3, 4, 0] rfl) h
