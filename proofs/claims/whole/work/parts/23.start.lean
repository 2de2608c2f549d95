theorem k_tb1 {w : Cond} {i : Nat} (h : tables_1_1[i]? = some w) : w ∈ lw_tbl := List.mem_append_right _ (show w ∈ tables_1_1 ++ (tables_1_2 ++ (tables_1_3 ++ (tables_1_4 ++ tables_1_5))) from (List.mem_append_left _ (List.mem_of_getElem? h)))
theorem k_tb2 {w : Cond} {i : Nat} (h : tables_1_2[i]? = some w) : w ∈ lw_tbl := List.mem_append_right _ (show w ∈ tables_1_1 ++ (tables_1_2 ++ (tables_1_3 ++ (tables_1_4 ++ tables_1_5))) from (List.mem_append_right _ (List.mem_append_left _ (List.mem_of_getElem? h))))
theorem k_tb3 {w : Cond} {i : Nat} (h : tables_1_3[i]? = some w) : w ∈ lw_tbl := List.mem_append_right _ (show w ∈ tables_1_1 ++ (tables_1_2 ++ (tables_1_3 ++ (tables_1_4 ++ tables_1_5))) from (List.mem_append_right _ (List.mem_append_right _ (List.mem_append_left _ (List.mem_of_getElem? h)))))
theorem k_tb4 {w : Cond} {i : Nat} (h : tables_1_4[i]? = some w) : w ∈ lw_tbl := List.mem_append_right _ (show w ∈ tables_1_1 ++ (tables_1_2 ++ (tables_1_3 ++ (tables_1_4 ++ tables_1_5))) from (List.mem_append_right _ (List.mem_append_right _ (List.mem_append_right _ (List.mem_append_left _ (List.mem_of_getElem? h))))))
theorem k_tb5 {w : Cond} {i : Nat} (h : tables_1_5[i]? = some w) : w ∈ lw_tbl := List.mem_append_right _ (show w ∈ tables_1_1 ++ (tables_1_2 ++ (tables_1_3 ++ (tables_1_4 ++ tables_1_5))) from (List.mem_append_right _ (List.mem_append_right _ (List.mem_append_right _ (List.mem_append_right _ (List.mem_of_getElem? h))))))
theorem k_str {args : Array Value} {s : State} {k : Nat} {tx : String} (h1 : (Cond.stringRef R_SM k tx).before args s = true) (h2 : (Cond.exactly (.string R_SM k) "java/lang/String").before args s = true) : ∃ sa, vk_R R_SM k tx sa s := by
  obtain ⟨a, c, cell, kk, q1, -⟩ := Cond.exactly_spec h2
  exact ⟨a, vk_R.of h1 q1⟩
set_option maxHeartbeats 4000000 in
set_option maxRecDepth 100000 in
/-- what the throws take as given, at the law's entry -/
theorem k_kX {b : Nat} {s : State} (hts0 : ∀ w ∈ lw_tbl, w.before #[Value.ref b] s = true) (hgv : (Jvm.Cond.and given_1 narrow_1).before #[Value.ref b] s = true) : kX (fun q => s.heap.size ≤ q) s s.heap := by
  have hgf := flat_of_before _ hgv
  have hA : ∀ a : Nat, a < s.heap.size → ¬ (fun q : Nat => s.heap.size ≤ q) a := fun a h => Nat.not_le.mpr h
  refine ⟨vx_Zqof (hts0 _ (k_tb2 (i := 20) rfl)) (hts0 _ (k_tb1 (i := 8) rfl)) (hgf _ (by decide +kernel)) hA, vx_Zqof (hts0 _ (k_tb2 (i := 22) rfl)) (hts0 _ (k_tb1 (i := 8) rfl)) (hgf _ (by decide +kernel)) hA, ?_, ?_, ?_⟩
  · intro q hq
    cases hq with
    | head => exact va_Nw.of rfl (hts0 _ (k_tb1 (i := 235) rfl))
    | tail _ hq =>
      cases hq with
      | head => exact va_Nw.of rfl (hts0 _ (k_tb2 (i := 71) rfl))
      | tail _ hq =>
        cases hq with
        | head => exact va_Nw.of rfl (hts0 _ (k_tb2 (i := 114) rfl))
        | tail _ hq =>
          cases hq
  · intro q hq
    cases hq with
    | head => exact va_Nw.of rfl (hts0 _ (k_tb1 (i := 236) rfl))
    | tail _ hq =>
      cases hq with
      | head => exact va_Nw.of rfl (hts0 _ (k_tb1 (i := 237) rfl))
      | tail _ hq =>
        cases hq with
        | head => exact va_Nw.of rfl (hts0 _ (k_tb1 (i := 238) rfl))
        | tail _ hq =>
          cases hq with
          | head => exact va_Nw.of rfl (hts0 _ (k_tb1 (i := 239) rfl))
          | tail _ hq =>
            cases hq with
            | head => exact va_Nw.of rfl (hts0 _ (k_tb2 (i := 0) rfl))
            | tail _ hq =>
              cases hq with
              | head => exact va_Nw.of rfl (hts0 _ (k_tb2 (i := 1) rfl))
              | tail _ hq =>
                cases hq
  · intro q hq
    cases hq with
    | head => exact k_str (hts0 _ (k_tb2 (i := 34) rfl)) (hgf _ (by decide +kernel))
    | tail _ hq =>
      cases hq with
      | head => exact k_str (hts0 _ (k_tb2 (i := 78) rfl)) (hgf _ (by decide +kernel))
      | tail _ hq =>
        cases hq with
        | head => exact k_str (hts0 _ (k_tb2 (i := 121) rfl)) (hgf _ (by decide +kernel))
        | tail _ hq =>
          cases hq with
          | head => exact k_str (hts0 _ (k_tb2 (i := 132) rfl)) (hgf _ (by decide +kernel))
          | tail _ hq =>
            cases hq with
            | head => exact k_str (hts0 _ (k_tb2 (i := 177) rfl)) (hgf _ (by decide +kernel))
            | tail _ hq =>
              cases hq with
              | head => exact k_str (hts0 _ (k_tb2 (i := 197) rfl)) (hgf _ (by decide +kernel))
              | tail _ hq =>
                cases hq with
                | head => exact k_str (hts0 _ (k_tb3 (i := 144) rfl)) (hgf _ (by decide +kernel))
                | tail _ hq =>
                  cases hq with
                  | head => exact k_str (hts0 _ (k_tb3 (i := 168) rfl)) (hgf _ (by decide +kernel))
                  | tail _ hq =>
                    cases hq
set_option maxHeartbeats 4000000 in
set_option maxRecDepth 100000 in
theorem k_kY {b : Nat} {s : State} (hgv : (Jvm.Cond.and given_1 narrow_1).before #[Value.ref b] s = true) : kY s := by
  have hgf := flat_of_before _ hgv
  intro q hq
  cases hq with
  | head => exact va_Nc.of (hgf _ (by decide +kernel))
  | tail _ hq =>
    cases hq with
    | head => exact va_Nc.of (hgf _ (by decide +kernel))
    | tail _ hq =>
      cases hq with
      | head => exact va_Nc.of (hgf _ (by decide +kernel))
      | tail _ hq =>
        cases hq with
        | head => exact va_Nc.of (hgf _ (by decide +kernel))
        | tail _ hq =>
          cases hq with
          | head => exact va_Nc.of (hgf _ (by decide +kernel))
          | tail _ hq =>
            cases hq with
            | head => exact va_Nc.of (hgf _ (by decide +kernel))
            | tail _ hq =>
              cases hq
set_option maxHeartbeats 4000000 in
set_option maxRecDepth 100000 in
/-- THE LAW, from its entry -/
theorem whole_start {p : Program} {e : Env} {s : State} {m : MethodId} {below : List Frame} {meth : Method} {c : Code} (l : Launch) (hst : l.stackTraces = false) {b L : Nat} {xs : Nat → Int32} (hL : L ≤ 2048) (C0 : lw_At p s m meth c b L xs) : W p l e room_1 s m #[Value.ref b] below meth c s.heap [] 0 0 (lw_Z below #[Value.ref b] s) (entryFrame m ([Value.ref b] : List Value).toArray 7) := by
  obtain ⟨hx, hb, hr, hml, hown, hts0, hSc, hbl, hlk, hgv⟩ := C0
  have hown : s.vm.findClass R_La = some m.cls := hown
  have hts : ∀ w ∈ kG, w.before #[Value.ref b] s = true := fun w h => hts0 w (List.mem_filter.mp h).1
  have hA : ∀ q : Nat, s.heap.size ≤ q → (fun q : Nat => s.heap.size ≤ q) q := fun _ h => h
  obtain ⟨cI, kI, pI, I1, I2, I3⟩ := Cond.arrayClass_spec (hts _ q_73)
  obtain ⟨cZ, kZ, pZ, Z1, Z2, Z3⟩ := Cond.arrayClass_spec (hts _ q_74)
  obtain ⟨cJ, kJ, pJ, J1, J2, J3⟩ := Cond.arrayClass_spec (hts _ q_994)
  obtain ⟨c9, e0, e1, e2⟩ : ∃ c9 : Nat → ClassId, c9 0 = cI ∧ c9 1 = cZ ∧ c9 2 = cJ := ⟨fun k => if k = 0 then cI else if k = 1 then cZ else cJ, rfl, rfl, rfl⟩
  subst e0; subst e1; subst e2
  obtain ⟨d0, i0, hk0⟩ := u_known (C := R_SM) (T := T_SM) (N := 6) (n := 6) hts in_SM (hts _ q_20)
  obtain ⟨d1, i1, hk1⟩ := u_known (C := R_Md) (T := T_Md) (N := 44) (n := 44) hts in_Md (hts _ q_708)
  obtain ⟨d2, i2, hk2⟩ := u_known (C := R_F) (T := T_F) (N := 13) (n := 13) hts in_F (hts _ q_28)
  obtain ⟨d3, i3, hk3⟩ := u_known (C := R_Mt) (T := T_Mt) (N := 3) (n := 3) hts in_Mt (hts _ q_119)
  obtain ⟨d4, i4, hk4⟩ := u_known (C := R_Nm) (T := T_Nm) (N := 3) (n := 3) hts in_Nm (hts _ q_101)
  obtain ⟨d5, i5, hk5⟩ := u_known (C := R_Pl) (T := T_Pl) (N := 4) (n := 4) hts in_Pl (hts _ q_82)
  obtain ⟨d6, i6, hk6⟩ := u_known (C := R_Se) (T := T_Se) (N := 13) (n := 13) hts in_Se (hts _ q_76)
  obtain ⟨D, hKc⟩ : ∃ D : va_G, ∀ (k : Nat) (q : vw_C), kcl[k]? = some q → u_Kn s q.1 q.2.1 q.2.2 (D.1 k) (D.2 k) := by
    refine ⟨(fun k => if k = 0 then d0 else if k = 1 then d1 else if k = 2 then d2 else if k = 3 then d3 else if k = 4 then d4 else if k = 5 then d5 else d6, fun k => if k = 0 then i0 else if k = 1 then i1 else if k = 2 then i2 else if k = 3 then i3 else if k = 4 then i4 else if k = 5 then i5 else i6), ?_⟩
    intro k q hq
    match k, hq with
    | 0, hq => cases hq; exact hk0
    | 1, hq => cases hq; exact hk1
    | 2, hq => cases hq; exact hk2
    | 3, hq => cases hq; exact hk3
    | 4, hq => cases hq; exact hk4
    | 5, hq => cases hq; exact hk5
    | 6, hq => cases hq; exact hk6
    | k + 7, hq => simp [kcl] at hq
  have hK : va_K D kcl (ktys c9) s := by
    refine ⟨hKc, fun k q hq => ?_⟩
    match k, hq with
    | 0, hq => cases hq; exact ⟨fun n z => ⟨fun k h => (by cases h), kI, I2, pI, I3⟩, I1⟩
    | 1, hq => cases hq; exact ⟨fun n z => ⟨fun k h => (by cases h), kZ, Z2, pZ, Z3⟩, Z1⟩
    | 2, hq => cases hq; exact ⟨fun n z => ⟨fun k h => (by cases h), kJ, J2, pJ, J3⟩, J1⟩
    | k + 3, hq => simp [ktys] at hq
  have hN : kN s := ⟨va_Nw.of rfl (hts0 _ (k_tb1 (i := 107) rfl)), va_Nw.of rfl (hts0 _ (k_tb1 (i := 109) rfl))⟩
  have hX := k_kX hts0 hgv
  have hY := k_kY hgv
  have hS : va_S (fun q : Nat => s.heap.size ≤ q) s.heap s.heap [] := va_S.rf
  have hP : va_P D kcl [] s.heap := fun k q h => by simp at h
  have hD : va_D (fun q : Nat => s.heap.size ≤ q) [] := ⟨fun i j p q h => by simp at h, fun k q h => by simp at h⟩
  have hl := lv_entry ([.ref b]) (n := 7) (Nat.le_of_ble_eq_true rfl)
  rw [lg_entry_eq]
  generalize (lg_sl ([.ref b]) ++ List.replicate (7 - (lg_sl ([.ref b])).length) Slot.unset).toArray = ls at hl ⊢
  have hl : lv_has ls 7 [(0, .ref b)] := hl
  refine va_new (ci := 0) (fs := [.null, .null, .null, .int 0, .null, .int 0]) (C := R_SM) (T := T_SM) (N := 6) hx hb hts in_SM t_SM t_SM_ok hown (hts _ q_19) (hts _ q_20) (hts _ q_1) hK hP hD hS hA rfl z_SM (by show _ ≤ 601024; omega) (by show _ ≤ 7293034; omega) d_La_law_0 (fun g1 H hP hD hS => ?_)
  have hP : va_P D kcl ([(g1, .inr (0, [.null, .null, .null, .int 0, .null, .int 0]))]) H := hP
  have hD : va_D (fun q : Nat => s.heap.size ≤ q) ([(g1, .inr (0, [.null, .null, .null, .int 0, .null, .int 0]))]) := hD
  refine lv_dup hx hb d_La_law_3 rfl ?_
  refine k_calln (ws := []) (va_runI (As := []) (rest := [.ref g1]) ⟨hx, hb, hml, hown, hts⟩ (K_SM_init l D c9 g1 H.size) (cwI 0 hts (k_goodI (k_cons q_23)) rfl rfl rfl (hts _ q_1) (hts _ q_21) (hts _ q_22) rfl h_SM_init.2 ⟨Nat.le_of_ble_eq_true rfl, Nat.le_of_ble_eq_true rfl⟩) (k_preI (ws := []) hP hK) rfl rfl hl.1 rfl (lv_room (Nat.le_of_ble_eq_true rfl)) d_La_law_4 ⟨by show _ ≤ 601024; omega, by show _ ≤ 7293034; omega⟩) hP hD hS hA (fun u1 H locs hP hD hS => ?_)
  have hP : va_P D kcl (iw_SM c9 g1 u1) H := hP
  have hD : va_D (fun q : Nat => s.heap.size ≤ q) (iw_SM c9 g1 u1) := hD
  refine lv_astore_n (lv' := [(1, .ref g1), (0, .ref b)]) hx hb d_La_law_7 rfl hl (by decide) rfl (fun ls hl => ?_)
  refine va_new (ci := 1) (fs := [.int 0, .int 0, .null, .null, .null, .null, .null, .null, .null, .null, .null, .null, .null, .null, .int 0, .null, .int 0, .null, .int 0, .null, .null, .null, .null, .int 0, .null, .int 0, .int 0, .int 0, .int 0, .int 0, .null, .null, .null, .null, .null, .int 0, .null, .null, .null, .null, .null, .null, .null, .null]) (C := R_Md) (T := T_Md) (N := 44) hx hb hts in_Md t_Md t_Md_ok hown (hts _ q_707) (hts _ q_708) (hts _ q_7) hK hP hD hS hA rfl z_Md (by show _ ≤ 601024; omega) (by show _ ≤ 7293034; omega) d_La_law_8 (fun g2 H hP hD hS => ?_)
  have hP : va_P D kcl (iw_SM c9 g1 u1 ++ [(g2, .inr (1, [.int 0, .int 0, .null, .null, .null, .null, .null, .null, .null, .null, .null, .null, .null, .null, .int 0, .null, .int 0, .null, .int 0, .null, .null, .null, .null, .int 0, .null, .int 0, .int 0, .int 0, .int 0, .int 0, .null, .null, .null, .null, .null, .int 0, .null, .null, .null, .null, .null, .null, .null, .null]))]) H := hP
  have hD : va_D (fun q : Nat => s.heap.size ≤ q) (iw_SM c9 g1 u1 ++ [(g2, .inr (1, [.int 0, .int 0, .null, .null, .null, .null, .null, .null, .null, .null, .null, .null, .null, .null, .int 0, .null, .int 0, .null, .int 0, .null, .null, .null, .null, .int 0, .null, .int 0, .int 0, .int 0, .int 0, .int 0, .null, .null, .null, .null, .null, .int 0, .null, .null, .null, .null, .null, .null, .null, .null]))]) := hD
  refine lv_dup hx hb d_La_law_11 rfl ?_
  refine k_calln (ws := iw_SM c9 g1 u1) (va_runI (As := []) (rest := [.ref g2]) ⟨hx, hb, hml, hown, hts⟩ (K_Md_init l D c9 g2 H.size) (cwI 0 hts (k_goodI (k_cons q_711)) rfl rfl rfl (hts _ q_7) (hts _ q_709) (hts _ q_710) rfl h_Md_init.2 ⟨Nat.le_of_ble_eq_true rfl, Nat.le_of_ble_eq_true rfl⟩) (k_preI (ws := iw_SM c9 g1 u1) hP hK) rfl rfl hl.1 rfl (lv_room (Nat.le_of_ble_eq_true rfl)) d_La_law_12 ⟨by show _ ≤ 601024; omega, by show _ ≤ 7293034; omega⟩) hP hD hS hA (fun u2 H locs hP hD hS => ?_)
  refine lv_astore_n (lv' := [(2, .ref g2), (1, .ref g1), (0, .ref b)]) hx hb d_La_law_15 rfl hl (by decide) rfl (fun ls hl => ?_)
  refine lv_iconst (v := 1) hx hb d_La_law_16 (by decide) ?_
  refine k_newl (N' := 1) hx hb (hts _ q_994) hK hP hD hS hA (by decide) (by decide) (by decide) (by show _ ≤ 601024; omega) (by show _ ≤ 7293034; omega) d_La_law_17 (fun g3 H hP hD hS => ?_)
  refine lv_astore_n (lv' := [(3, .ref g3), (2, .ref g2), (1, .ref g1), (0, .ref b)]) hx hb d_La_law_19 rfl hl (by decide) rfl (fun ls hl => ?_)
  refine lv_iconst (v := 0) hx hb d_La_law_20 (by decide) ?_
  refine lv_istore (lv' := [(4, .int 0), (3, .ref g3), (2, .ref g2), (1, .ref g1), (0, .ref b)]) hx hb d_La_law_21 hl (by decide) rfl (fun ls hl => ?_)
  obtain ⟨a, ha⟩ : ∃ a : Nat → Nat, a = fun k => [g1, (u1 0), (u1 13), (u1 14), (u1 18), (u1 22), g2, (u1 29), (u1 30), (u1 1), (u1 2), (u1 3), (u1 4), (u1 5), (u1 6), (u1 7), (u1 8), (u1 9), (u1 10), (u1 11), (u1 12), (u1 25), (u1 26), (u1 27), (u1 28), (u1 15), (u1 16), (u1 17), (u1 19), (u1 20), (u1 21), (u1 23), (u1 24), (u2 0), (u2 1), (u2 2), (u2 3), (u2 4), (u2 5), (u2 6), (u2 7), (u2 8), (u2 9), (u2 10), (u2 11), (u2 12), (u2 13), (u2 14), (u2 15), (u2 16), (u2 17), (u2 18), (u2 19), (u2 20), (u2 21), (u2 22), (u2 23), (u2 24), (u2 25), (u2 26), (u2 27), (u2 28), (u2 29), (u2 30), (u2 31), g3].getD k 0 := ⟨_, rfl⟩
  have hP : va_P D kcl (kw a c9 k_s0) H := by rw [ha]; exact hP.sub [0, 1, 14, 15, 19, 23, 32, 30, 31, 2, 3, 4, 5, 6, 7, 8, 9, 10, 11, 12, 13, 26, 27, 28, 29, 16, 17, 18, 20, 21, 22, 24, 25, 33, 34, 35, 36, 37, 38, 39, 40, 41, 42, 43, 44, 45, 46, 47, 48, 49, 50, 51, 52, 53, 54, 55, 56, 57, 58, 59, 60, 61, 62, 63, 64, 65] rfl
  have hD : va_D (fun q : Nat => s.heap.size ≤ q) (kw a c9 k_s0) := by rw [ha]; exact hD.sub [0, 1, 14, 15, 19, 23, 32, 30, 31, 2, 3, 4, 5, 6, 7, 8, 9, 10, 11, 12, 13, 26, 27, 28, 29, 16, 17, 18, 20, 21, 22, 24, 25, 33, 34, 35, 36, 37, 38, 39, 40, 41, 42, 43, 44, 45, 46, 47, 48, 49, 50, 51, 52, 53, 54, 55, 56, 57, 58, 59, 60, 61, 62, 63, 64, 65] (by decide) rfl
  have hl : lv_has ls 7 [(0, .ref b), (1, .ref (a 0)), (2, .ref (a 6)), (3, .ref (a 65)), (4, .int 0)] := by rw [ha]; exact lv_sub hl [4, 3, 2, 1, 0] rfl
  obtain ⟨σo, hmain⟩ := pure_main L xs hL
  refine W.widen (k := 66) (n := 25187) (by omega) (by omega) ?_
  exact B_La_law_23 ⟨hx, hb, hml, hown, hts, hr, hlk, hK, hN, hst, hX, hY, hSc, hbl⟩ k_fu k_s0 0 H locs ls 66 25187 (by decide) (by decide) hP hD hS hl hmain
