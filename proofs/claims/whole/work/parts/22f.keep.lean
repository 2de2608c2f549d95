/-! a tree stays well made when others change -/
theorem TreeOK_c3 {σ σ' : kS} {T T' t : Nat} (hT : T ≤ T') (ha : ∀ j, (j = 2 ∨ j = 3 ∨ j = 4 ∨ j = 5 ∨ j = 7 ∨ j = 8 ∨ j = 9 ∨ j = 11) → σ'.2.1 j t = σ.2.1 j t) (h6 : ∀ u, σ'.2.1 6 u = σ.2.1 6 u ∨ σ'.2.1 6 u = nI 1)
    (hp5 : ∀ k, k < gN σ 9 t → ∀ j, (j = 5 ∨ j = 7 ∨ j = 8) → σ'.2.1 j (gN σ 10 (12 * t + k)) = σ.2.1 j (gN σ 10 (12 * t + k)))
    (h10 : ∀ k, k < gN σ 9 t → σ'.2.1 10 (12 * t + k) = σ.2.1 10 (12 * t + k)) (h12 : ∀ k, k < gN σ 11 t → σ'.2.1 12 (3 * t + k) = σ.2.1 12 (3 * t + k)) (h : TreeOK σ T t) : TreeOK σ' T' t := by
  have g : ∀ j, (j = 2 ∨ j = 3 ∨ j = 4 ∨ j = 5 ∨ j = 7 ∨ j = 8 ∨ j = 9 ∨ j = 11) → gN σ' j t = gN σ j t := fun j hjj => by unfold gN; rw [ha j hjj]
  have gp : ∀ k, k < gN σ 9 t → ∀ j, (j = 5 ∨ j = 7 ∨ j = 8) → gN σ' j (gN σ 10 (12 * t + k)) = gN σ j (gN σ 10 (12 * t + k)) := fun k hk j hjj => by unfold gN; exact congrArg _ (hp5 k hk j hjj)
  have g10 : ∀ k, k < gN σ 9 t → gN σ' 10 (12 * t + k) = gN σ 10 (12 * t + k) := fun k hk => by unfold gN; rw [h10 k hk]
  have g12 : ∀ k, k < gN σ 11 t → gN σ' 12 (3 * t + k) = gN σ 12 (3 * t + k) := fun k hk => by unfold gN; rw [h12 k hk]
  obtain ⟨⟨a2, a3, a4, a5, a6, a7, a8, a9, a11⟩, ⟨b1, b2, b3, b4, b5, b6, b7, b8⟩, hp, hs, hpl, hte⟩ := h
  have e2 := g 2 (by decide)
  have e3 := g 3 (by decide)
  have e4 := g 4 (by decide)
  have e5 := g 5 (by decide)
  have e7 := g 7 (by decide)
  have e8 := g 8 (by decide)
  have e9 := g 9 (by decide)
  have e11 := g 11 (by decide)
  have n6 : σ'.2.1 6 t = nI (gN σ' 6 t) ∧ gN σ' 6 t ≤ 1 := by
    rcases h6 t with h | h
    · have : gN σ' 6 t = gN σ 6 t := by unfold gN; rw [h]
      rw [this, h]
      exact ⟨a6, b7⟩
    · rw [gN_of h (by omega), h]
      exact ⟨rfl, by omega⟩
  refine ⟨?_, ?_, ?_, ?_, ?_, ?_⟩
  · rw [e2, e3, e4, e5, e7, e8, e9, e11, ha 2 (by decide), ha 3 (by decide), ha 4 (by decide), ha 5 (by decide), ha 7 (by decide), ha 8 (by decide), ha 9 (by decide), ha 11 (by decide)]
    exact ⟨a2, a3, a4, a5, n6.1, a7, a8, a9, a11⟩
  · rw [e2, e3, e4, e5, e7, e8, e9, e11]
    exact ⟨b1, b2, b3, b4, b5, b6, n6.2, b8⟩
  · intro k hk
    rw [e9] at hk
    obtain ⟨c1, c2, c3, c4⟩ := hp k hk
    rw [g10 k hk, h10 k hk, gp k hk 7 (by decide), e7]
    refine ⟨c1, by omega, c3, ?_⟩
    rcases h6 (gN σ 10 (12 * t + k)) with h | h
    · rw [show gN σ' 6 (gN σ 10 (12 * t + k)) = gN σ 6 (gN σ 10 (12 * t + k)) by unfold gN; exact congrArg _ h]; exact c4
    · exact gN_of h (by omega)
  · rw [e8, e9, hs]
    congr 2
    apply List.map_congr_left
    intro k hk
    have hk := List.mem_range.mp hk
    rw [g10 k hk, gp k hk 8 (by decide)]
  · intro h5
    rw [e5] at h5
    obtain ⟨c1, c2⟩ := hpl h5
    refine ⟨by rw [e2]; exact c1, fun k hk => ?_⟩
    rw [e9] at hk
    rw [g10 k hk, gp k hk 5 (by decide)]
    exact c2 k hk
  · intro k hk
    rw [e11] at hk
    rw [h12 k hk, g12 k hk]
    exact hte k hk
/-! a test more -/
def cTest (σ : kS) (t c : Nat) (y z : Int32) : kS := k_sA (k_sA (k_sA σ 12 (upd (σ.2.1 12) (3 * t + c) y)) 13 (upd (σ.2.1 13) (3 * t + c) z)) 11 (upd (σ.2.1 11) t (nI (c + 1)))
def mTest (σ : kS) (t c : Nat) (y z : Int32) : kS := k_sA (k_sA (k_sA (k_sS σ 10 0) 36 (upd (σ.2.1 36) (3 * t + c) y)) 37 (upd (σ.2.1 37) (3 * t + c) z)) 35 (upd (σ.2.1 35) t (nI (c + 1)))
theorem Inv_test {σ : kS} {T t y : Nat} {z : Int32} (hF : FI σ T) (hE : FE σ) (hR : RI σ T) (hK : KI σ) (ht : t < T) (hc : gN σ 11 t < 3) (hy : y ≤ 4) (f : Nat → Int64) : Inv (mTest (k_sL (cTest σ t (gN σ 11 t) (nI y) z) f) t (gN σ 11 t) (nI y) z) := by
  obtain ⟨hT0, e2, hz, htr⟩ := id hF
  obtain ⟨f1, f2, f3, f4, f5, f6, f7, f8, f9, f10, f11, f12, f13⟩ := id hE
  refine ⟨T, ⟨hT0, e2, fun u hu => ?_, fun u hu => ?_⟩, ⟨f1, f2, f3, f4, f5, f6, f7, f8, f9, f10, ?_, ?_, ?_⟩, hR, hK⟩
  · obtain ⟨z1, z2, z3, z4, z5⟩ := hz u hu
    refine ⟨z1, z2, z3, z4, ?_⟩
    show upd (σ.2.1 11) t _ u = 0
    rw [k_upd_n (by omega)]; exact z5
  · by_cases hut : u = t
    · subst hut
      obtain ⟨⟨a2, a3, a4, a5, a6, a7, a8, a9, a11⟩, ⟨b1, b2, b3, b4, b5, b6, b7, b8, b9, b10, b11, b12, b13⟩, hp, hs, hpl, hte⟩ := htr u hu
      have g11 : gN (mTest (k_sL (cTest σ u (gN σ 11 u) (nI y) z) f) u (gN σ 11 u) (nI y) z) 11 u = gN σ 11 u + 1 := gN_of (show upd (σ.2.1 11) u _ u = _ from k_upd_s) (by omega)
      refine ⟨⟨a2, a3, a4, a5, a6, a7, a8, a9, ?_⟩, ⟨b1, b2, b3, b4, b5, b6, b7, b8, b9, b10, b11, ?_, b13⟩, hp, hs, hpl, ?_⟩
      · rw [g11]; exact k_upd_s
      · rw [g11]; omega
      · intro k hk
        rw [g11] at hk
        by_cases hkc : k = gN σ 11 u
        · have e : (mTest (k_sL (cTest σ u (gN σ 11 u) (nI y) z) f) u (gN σ 11 u) (nI y) z).2.1 12 (3 * u + k) = nI y := by
            rw [hkc]; exact k_upd_s
          rw [gN_of e (by omega)]
          exact ⟨e, hy⟩
        · have e : (mTest (k_sL (cTest σ u (gN σ 11 u) (nI y) z) f) u (gN σ 11 u) (nI y) z).2.1 12 (3 * u + k) = σ.2.1 12 (3 * u + k) := k_upd_n (by omega)
          have ge : gN (mTest (k_sL (cTest σ u (gN σ 11 u) (nI y) z) f) u (gN σ 11 u) (nI y) z) 12 (3 * u + k) = gN σ 12 (3 * u + k) := congrArg Int32.toNatClampNeg e
          rw [e, ge]
          exact hte k (by omega)
    · have hbu := (htr u hu).2.1.2.2.2.2.2.2.2.2.2.2.2.1
      refine TreeOK_c3 (σ := σ) (Nat.le_refl T) (fun j hj => ?_) (fun _ => Or.inl rfl) (fun k hk j hj => ?_) (fun k hk => rfl) (fun k hk => ?_) (htr u hu)
      · rcases hj with rfl | rfl | rfl | rfl | rfl | rfl | rfl | rfl
        · rfl
        · rfl
        · rfl
        · rfl
        · rfl
        · rfl
        · rfl
        · exact k_upd_n hut
      · rcases hj with rfl | rfl | rfl <;> rfl
      · exact k_upd_n (by omega)
  · show upd (σ.2.1 35) t _ = upd (σ.2.1 11) t _
    rw [f11]
  · show upd (σ.2.1 36) _ _ = upd (σ.2.1 12) _ _
    rw [f12]
  · show upd (σ.2.1 37) _ _ = upd (σ.2.1 13) _ _
    rw [f13]
theorem k_isHole {σ : kS} {t : Nat} (ht : t < 240) : M_F_isHole σ (nI t) = if σ.2.1 2 t = 2 then some (1, σ) else some (0, σ) := by
  unfold M_F_isHole
  rw [k_ld_n ht (by omega)]
theorem k_i3 {t c : Nat} : nI t * 3 + nI c = nI (3 * t + c) := by rw [show (3 : Int32) = nI 3 from rfl, pk_mul, nI_add, Nat.mul_comm]
theorem k_3i {t c : Nat} : 3 * nI t + nI c = nI (3 * t + c) := by rw [show (3 : Int32) = nI 3 from rfl, pk_mul, nI_add]
theorem A_test {σ : kS} (h : Inv σ) (x y z : Int32) : Agree 3 1 (M_SM_test σ x y z) (fun s => M_Md_test s x y z) := by
  obtain ⟨T, hF, hE, hR, hK⟩ := id h
  obtain ⟨hT, e2, hz, htr⟩ := id hF
  have e11 : σ.1 11 = nI T := hE.1.trans e2
  rcases k_tree x hT with hx | ⟨t, ht, rfl⟩
  · refine ⟨3, 0, σ, ?_, Or.inr (Or.inl rfl), fun f => ⟨0, k_sS (k_sL σ f) 10 1, ?_, Inv_10 (Inv_L h f) 1, rfl, rfl, fun e => by cases e⟩⟩
    · unfold M_SM_test
      rw [k_callx_n (n := 2) (k_reqTree0 e2 hx)]
    · show M_Md_test (k_sL σ f) x y z = _
      unfold M_Md_test
      rw [k_call_s (k_noTree1 (σ := k_sL σ f) e11 hT hx), if_neg (by decide)]
      unfold M_Md_test_37
      rw [k_thr1 (by decide)]
  · have hts := htr t ht
    have a2 := hts.1.1
    have hcl0 : M_SM_test σ (nI t) y z = k_call (M_F_isHole σ (nI t)) fun v5 σ6 => if v5 = 0 then (some ((1, 0), σ6)) else (k_callx (M_SM_requireBelow σ6 y 5) fun _ σ10 => k_call (M_F_addTest σ10 (nI t) y z) fun v13 σ14 => k_z (v13) (some ((0, v13), σ14))) := by
      unfold M_SM_test
      rw [k_callx_0 (k_reqTree1 e2 hT ht)]
    have hmd0 : ∀ f, M_Md_test (k_sL σ f) (nI t) y z = if σ.2.1 2 t = 2 then (if y < 0 then M_Md_test_32 (k_sL σ f) (nI t) y z else (if y ≤ 4 then M_Md_test_37 (k_sL σ f) (nI t) y z 0 else M_Md_test_32 (k_sL σ f) (nI t) y z)) else M_Md_test_32 (k_sL σ f) (nI t) y z := by
      intro f
      unfold M_Md_test
      rw [k_call_s (k_noTree0 (σ := k_sL σ f) e11 hT ht), if_pos rfl, k_ld_n (by omega) (by omega)]
      show (if σ.2.1 26 t = 2 then _ else _) = _
      rw [hE.2.1]
    have h32 : ∀ f, M_Md_test_32 (k_sL σ f) (nI t) y z = some (0, k_sS (k_sL σ f) 10 2) := fun f => by
      unfold M_Md_test_32 M_Md_test_37
      rw [k_thr1 (by decide)]
    have hbad : M_SM_test σ (nI t) y z = some ((1, 0), σ) → (∀ f, M_Md_test (k_sL σ f) (nI t) y z = some (0, k_sS (k_sL σ f) 10 2)) → Agree 3 1 (M_SM_test σ (nI t) y z) (fun s => M_Md_test s (nI t) y z) := fun a b =>
      ⟨1, 0, σ, a, Or.inr (Or.inr ⟨by decide, rfl⟩), fun f => ⟨0, k_sS (k_sL σ f) 10 2, b f, Inv_10 (Inv_L h f) 2, rfl, rfl, fun e => by cases e⟩⟩
    by_cases ch : σ.2.1 2 t = 2
    · have hih : M_F_isHole σ (nI t) = some (1, σ) := by rw [k_isHole (by omega), if_pos ch]
      rw [k_call_s hih, if_neg (by decide)] at hcl0
      have hb1 : (y < 0 ∨ nI 5 ≤ y) → M_SM_test σ (nI t) y z = some ((1, 0), σ) := fun hy => by rw [hcl0, k_callx_n (n := 0) (k_below0 (lim := 5) hy)]
      rcases pk_ix y (n := 5) (by omega) with hy | hy | ⟨n, hn, rfl⟩
      · exact hbad (hb1 (Or.inl hy)) (fun f => by rw [hmd0 f, if_pos ch, if_pos hy, h32 f])
      · refine hbad (hb1 (Or.inr hy)) (fun f => ?_)
        rw [hmd0 f, if_pos ch, if_neg (show ¬ y ≤ 4 from k_gt (n := 4) (by omega) hy), h32 f]
        by_cases c : y < 0
        · rw [if_pos c]
        · rw [if_neg c]
      · have hb := k_below1 (σ := σ) hn (by omega)
        rw [show (5 : Int32) = nI 5 from rfl, k_callx_0 hb] at hcl0
        have a11 := hts.1.2.2.2.2.2.2.2.2
        have hle := hts.2.1.2.2.2.2.2.2.2.2.2.2.2.1
        have hmd1 : ∀ f, M_Md_test (k_sL σ f) (nI t) (nI n) z = M_Md_test_37 (k_sL σ f) (nI t) (nI n) z 0 := fun f => by rw [hmd0 f, if_pos ch, if_neg (nI_lt0 (by omega)), if_pos (show nI n ≤ 4 from nI_le (b := 4) (by omega) (by omega))]
        by_cases hc : gN σ 11 t < 3
        · refine ⟨0, 1, cTest σ t (gN σ 11 t) (nI n) z, ?_, Or.inl rfl, fun f => ⟨1, mTest (k_sL (cTest σ t (gN σ 11 t) (nI n) z) f) t (gN σ 11 t) (nI n) z, ?_, Inv_test hF hE hR hK ht hc (by omega) f, rfl, rfl, fun _ => rfl⟩⟩
          · rw [hcl0]
            have : M_F_addTest σ (nI t) (nI n) z = some (1, cTest σ t (gN σ 11 t) (nI n) z) := by
              unfold M_F_addTest
              rw [k_ld_n (by omega) (by omega), a11, if_pos (show nI (gN σ 11 t) < 3 from nI_lt (b := 3) hc (by omega)), k_i3, k_st_x rfl (by omega) (by omega), k_st_x rfl (by omega) (by omega), k_st_x rfl (by omega) (by omega), nI_1]
              rfl
            rw [k_call_s this, k_z1]
          · show M_Md_test (k_sL (cTest σ t (gN σ 11 t) (nI n) z) f) (nI t) (nI n) z = _
            have a35 : σ.2.1 35 t = nI (gN σ 11 t) := by rw [hE.2.2.2.2.2.2.2.2.2.2.1]; exact a11
            unfold M_Md_test
            rw [k_call_s (k_noTree0 (σ := k_sL (cTest σ t (gN σ 11 t) (nI n) z) f) e11 hT ht), if_pos rfl, k_ld_n (by omega) (by omega)]
            rw [if_pos (show (k_sL (cTest σ t (gN σ 11 t) (nI n) z) f).2.1 26 t = 2 from (congrFun hE.2.1 t).trans ch), if_neg (nI_lt0 (by omega)), if_pos (show nI n ≤ 4 from nI_le (b := 4) (by omega) (by omega))]
            unfold M_Md_test_37
            rw [k_thr0, k_ld_n (by omega) (by omega)]
            rw [show (k_sS (k_sL (cTest σ t (gN σ 11 t) (nI n) z) f) 10 0).2.1 35 t = nI (gN σ 11 t) from a35]
            rw [if_neg (show ¬ nI (gN σ 11 t) = 3 from fun e => by have := (nI_eq (a := gN σ 11 t) (b := 3) (by omega) (by omega)).mp e; omega)]
            have r1 : ∀ g, (k_sA (k_sS (k_sL (cTest σ t (gN σ 11 t) (nI n) z) f) 10 0) 36 g).2.1 35 t = nI (gN σ 11 t) := fun _ => a35
            have r2 : ∀ g g2, (k_sA (k_sA (k_sS (k_sL (cTest σ t (gN σ 11 t) (nI n) z) f) 10 0) 36 g) 37 g2).2.1 35 t = nI (gN σ 11 t) := fun _ _ => a35
            rw [k_ld_n (by omega) (by omega), show (k_sS (k_sL (cTest σ t (gN σ 11 t) (nI n) z) f) 10 0).2.1 35 t = nI (gN σ 11 t) from a35, k_3i, k_st_x rfl (by omega) (by omega)]
            rw [k_ld_n (by omega) (by omega), r1, k_3i, k_st_x rfl (by omega) (by omega)]
            rw [k_ld_n (by omega) (by omega), r2, k_st_x rfl (by omega) (by omega), nI_1]
            rfl
        · have hc3 : gN σ 11 t = 3 := by omega
          refine ⟨0, 0, σ, ?_, Or.inl rfl, fun f => ⟨0, k_sS (k_sL σ f) 10 0, ?_, Inv_10 (Inv_L h f) 0, rfl, rfl, fun _ => rfl⟩⟩
          · rw [hcl0]
            have : M_F_addTest σ (nI t) (nI n) z = some (0, σ) := by
              unfold M_F_addTest
              rw [k_ld_n (by omega) (by omega), a11, if_neg (show ¬ nI (gN σ 11 t) < 3 from nI_nlt (b := 3) (by omega) (by omega))]
            rw [k_call_s this, k_z0]
          · show M_Md_test (k_sL σ f) (nI t) (nI n) z = _
            rw [hmd1 f]
            unfold M_Md_test_37
            rw [k_thr0, k_ld_n (by omega) (by omega)]
            rw [show (k_sS (k_sL σ f) 10 0).2.1 35 t = nI 3 by show σ.2.1 35 t = nI 3; rw [hE.2.2.2.2.2.2.2.2.2.2.1, a11, hc3], if_pos (show nI 3 = 3 from rfl)]
    · have hih : M_F_isHole σ (nI t) = some (0, σ) := by rw [k_isHole (by omega), if_neg ch]
      rw [k_call_s hih, if_pos rfl] at hcl0
      exact hbad hcl0 (fun f => by rw [hmd0 f, if_neg ch, h32 f])
