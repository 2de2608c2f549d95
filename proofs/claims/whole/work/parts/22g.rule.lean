/-! rule, bound, many -/
def cRule (σ : kS) (r t : Nat) : kS := k_sS (k_sA (k_sA σ 6 (upd (σ.2.1 6) t 1)) 0 (upd (σ.2.1 0) r (nI t))) 0 (nI (r + 1))
def mRule (σ : kS) (r t : Nat) : kS := k_sS (k_sA (k_sA (k_sS σ 10 0) 38 (upd (σ.2.1 38) r (nI t))) 32 (upd (σ.2.1 32) t 1)) 12 (nI (r + 1))
theorem Inv_rule {σ : kS} {T r n t : Nat} (hF : FI σ T) (hE : FE σ) (hK : KI σ) (ht : t < T) (hr : r < 30) (hn : n ≤ 30) (e1 : σ.1 1 = nI n) (hp : ∀ k, k < r → σ.2.1 0 k = nI (gN σ 0 k) ∧ gN σ 0 k < T) (e13 : σ.1 13 = σ.1 1) (e38 : σ.2.1 38 = σ.2.1 0) (e39 : σ.2.1 39 = σ.2.1 1) (f : Nat → Int64) : Inv (mRule (k_sL (cRule σ r t) f) r t) := by
  obtain ⟨hT0, e2, hz, htr⟩ := id hF
  obtain ⟨f1, f2, f3, f4, f5, f6, f7, f8, f9, f10, f11, f12, f13⟩ := id hE
  refine ⟨T, ⟨hT0, e2, fun u hu => ?_, fun u hu => ?_⟩, ⟨f1, f2, f3, f4, f5, ?_, f7, f8, f9, f10, f11, f12, f13⟩, ⟨r + 1, n, by omega, hn, rfl, e1, fun k hk => ?_, rfl, e13, ?_, e39⟩, hK⟩
  · obtain ⟨z1, z2, z3, z4, z5⟩ := hz u hu
    refine ⟨z1, ?_, z3, z4, z5⟩
    show upd (σ.2.1 6) t _ u = 0
    rw [k_upd_n (by omega)]; exact z2
  · refine TreeOK_c3 (σ := σ) (Nat.le_refl T) (fun j hj => ?_) (fun v => ?_) (fun k hk j hj => ?_) (fun k hk => rfl) (fun k hk => rfl) (htr u hu)
    · rcases hj with rfl | rfl | rfl | rfl | rfl | rfl | rfl | rfl <;> rfl
    · by_cases hv : v = t
      · exact Or.inr (by rw [hv]; exact k_upd_s)
      · exact Or.inl (k_upd_n hv)
    · rcases hj with rfl | rfl | rfl <;> rfl
  · show upd (σ.2.1 32) t _ = upd (σ.2.1 6) t _
    rw [f6]
  · by_cases hkr : k = r
    · have e : (mRule (k_sL (cRule σ r t) f) r t).2.1 0 k = nI t := by rw [hkr]; exact k_upd_s
      rw [gN_of e (by omega)]
      exact ⟨e, ht⟩
    · have e : (mRule (k_sL (cRule σ r t) f) r t).2.1 0 k = σ.2.1 0 k := k_upd_n hkr
      have ge : gN (mRule (k_sL (cRule σ r t) f) r t) 0 k = gN σ 0 k := congrArg Int32.toNatClampNeg e
      rw [e, ge]
      exact hp k (by omega)
  · show upd (σ.2.1 38) r _ = upd (σ.2.1 0) r _
    rw [e38]
theorem A_rule {σ : kS} (h : Inv σ) (x : Int32) : Agree 3 2 (M_SM_rule σ x) (fun s => M_Md_rule s x) := by
  obtain ⟨T, hF, hE, ⟨r, n, hr, hn, e0, e1, hp, e12, e13, e38, e39⟩, hK⟩ := id h
  obtain ⟨hT, e2, hz, htr⟩ := id hF
  have e11 : σ.1 11 = nI T := hE.1.trans e2
  rcases k_tree x hT with hx | ⟨t, ht, rfl⟩
  · refine ⟨3, 0, σ, ?_, Or.inr (Or.inl rfl), fun f => ⟨0, k_sS (k_sL σ f) 10 1, ?_, Inv_10 (Inv_L h f) 1, rfl, rfl, fun e => by cases e⟩⟩
    · unfold M_SM_rule
      rw [k_callx_n (n := 2) (k_reqTree0 e2 hx)]
    · show M_Md_rule (k_sL σ f) x = _
      unfold M_Md_rule
      rw [k_call_s (k_noTree1 (σ := k_sL σ f) e11 hT hx), if_neg (by decide)]
      unfold M_Md_rule_27
      rw [k_thr1 (by decide)]
  · by_cases hr30 : r = 30
    · subst hr30
      refine ⟨2, 0, σ, ?_, Or.inr (Or.inr ⟨by decide, rfl⟩), fun f => ⟨0, k_sS (k_sL σ f) 10 2, ?_, Inv_10 (Inv_L h f) 2, rfl, rfl, fun e => by cases e⟩⟩
      · unfold M_SM_rule
        rw [k_callx_0 (k_reqTree1 e2 hT ht), e0, if_neg (show ¬ nI 30 < 30 by decide)]
      · show M_Md_rule (k_sL σ f) (nI t) = _
        unfold M_Md_rule
        rw [k_call_s (k_noTree0 (σ := k_sL σ f) e11 hT ht), if_pos rfl, if_pos (show (k_sL σ f).1 12 = 30 from e12.trans e0)]
        unfold M_Md_rule_27
        rw [k_thr1 (by decide)]
    · have hr2 : r < 30 := by omega
      refine ⟨0, nI r, cRule σ r t, ?_, Or.inl rfl, fun f => ⟨nI r, mRule (k_sL (cRule σ r t) f) r t, ?_, Inv_rule hF hE hK ht hr2 hn e1 hp e13 e38 e39 f, rfl, rfl, fun _ => rfl⟩⟩
      · unfold M_SM_rule M_F_close
        rw [k_callx_0 (k_reqTree1 e2 hT ht), e0, if_pos (show nI r < 30 from nI_lt (b := 30) hr2 (by omega)), k_st_x rfl (by omega) (by omega), k_call_s rfl]
        rw [k_st_x (show (k_sA σ 6 _).1 0 = nI r from e0) hr2 (by omega), k_set_r]
        simp only [k_sA1, k_sSs]
        rw [e0, k_p1, nI_1]
        rfl
      · show M_Md_rule (k_sL (cRule σ r t) f) (nI t) = _
        have e12' : (k_sL (cRule σ r t) f).1 12 = nI r := e12.trans e0
        unfold M_Md_rule
        rw [k_call_s (k_noTree0 (σ := k_sL (cRule σ r t) f) e11 hT ht), if_pos rfl, e12', if_neg (show ¬ nI r = 30 from fun e => by have := (nI_eq (a := r) (b := 30) (by omega) (by omega)).mp e; omega)]
        unfold M_Md_rule_27
        rw [k_thr0, k_st_x (show (k_sS (k_sL (cRule σ r t) f) 10 0).1 12 = nI r from e12') hr2 (by omega), k_st_x rfl (by omega) (by omega), k_set_r]
        simp only [k_sA1, k_sSs]
        rw [show (k_sS (k_sL (cRule σ r t) f) 10 0).1 12 = nI r from e12', k_p1, nI_1]
        rfl
theorem k_reqMatch0 {σ : kS} {n : Nat} (e : σ.1 9 = nI n) {x : Int32} (h : x < 0 ∨ nI n ≤ x) : M_SM_requireMatch σ x = some ((3, 0), σ) := by
  unfold M_SM_requireMatch M_SM_requireMatch_18
  by_cases c : x < 0
  · rw [if_pos c]
  · rw [if_neg c, k_call_s (show M_Se_matches σ = some (0, σ) from rfl), k_call_s (show M_Mt_keptCount σ = some (σ.1 9, σ) from rfl), e, if_neg]
    have h2 := h.resolve_left c
    intro h3
    have a1 := Int32.le_iff_toInt_le.mp h2
    have a2 := Int32.lt_iff_toInt_lt.mp h3
    omega
theorem k_reqMatch1 {σ : kS} {n m : Nat} (e : σ.1 9 = nI n) (hn : n ≤ 20) (hm : m < n) : M_SM_requireMatch σ (nI m) = some ((0, 0), σ) := by
  unfold M_SM_requireMatch
  rw [if_neg (nI_lt0 (by omega)), k_call_s (show M_Se_matches σ = some (0, σ) from rfl), k_call_s (show M_Mt_keptCount σ = some (σ.1 9, σ) from rfl), e, if_pos (nI_lt hm (by omega))]
theorem k_i8 {m h : Nat} : nI m * 8 + nI h = nI (8 * m + h) := by rw [show (8 : Int32) = nI 8 from rfl, pk_mul, nI_add, Nat.mul_comm]
theorem k_8i {m h : Nat} : 8 * nI m + nI h = nI (8 * m + h) := by rw [show (8 : Int32) = nI 8 from rfl, pk_mul, nI_add]
theorem k_i96 {m h k : Nat} : nI m * 96 + nI h * 12 + nI k = nI (96 * m + 12 * h + k) := by rw [show (96 : Int32) = nI 96 from rfl, show (12 : Int32) = nI 12 from rfl, pk_mul, pk_mul, nI_add, nI_add, Nat.mul_comm m, Nat.mul_comm h]
theorem k_96i {m h k : Nat} : 96 * nI m + 12 * nI h + nI k = nI (96 * m + 12 * h + k) := by rw [show (96 : Int32) = nI 96 from rfl, show (12 : Int32) = nI 12 from rfl, pk_mul, pk_mul, nI_add, nI_add]
theorem k_lt_neg {k : Nat} (hk : k < 2 ^ 31) : ¬ nI k < -1 := by
  intro h
  have a := Int32.lt_iff_toInt_lt.mp h
  rw [nI_toInt hk] at a
  have : (-1 : Int32).toInt = -1 := by decide
  omega
theorem A_many {σ : kS} (h : Inv σ) (x y : Int32) : Agree 3 1 (M_SM_many σ x y) (fun s => M_Md_many s x y) := by
  obtain ⟨T, hF, hE, hR, n, hn, h9, h14, h16, hk⟩ := id h
  have hmd0 : ∀ f, (x < 0 ∨ nI n ≤ x) → M_Md_many (k_sL σ f) x y = some (0, k_sS (k_sL σ f) 10 1) := fun f hx => by
    have key : M_Md_many_13 (k_sL σ f) x y = some (0, k_sS (k_sL σ f) 10 1) := by
      unfold M_Md_many_13 M_Md_many_32
      rw [k_thr1 (by decide)]
    unfold M_Md_many
    by_cases c : x < 0
    · rw [if_pos c, key]
    · rw [if_neg c, if_neg, key]
      show ¬ x < σ.1 14
      rw [h14]
      have h2 := hx.resolve_left c
      intro h3
      have a1 := Int32.le_iff_toInt_le.mp h2
      have a2 := Int32.lt_iff_toInt_lt.mp h3
      omega
  have hbad : (x < 0 ∨ nI n ≤ x) → Agree 3 1 (M_SM_many σ x y) (fun s => M_Md_many s x y) := fun hx => by
    refine ⟨3, 0, σ, ?_, Or.inr (Or.inl rfl), fun f => ⟨0, k_sS (k_sL σ f) 10 1, hmd0 f hx, Inv_10 (Inv_L h f) 1, rfl, rfl, fun e => by cases e⟩⟩
    unfold M_SM_many
    rw [k_callx_n (n := 2) (k_reqMatch0 h9 hx)]
  rcases pk_ix x (n := n) (by omega) with hx | hx | ⟨m, hm, rfl⟩
  · exact hbad (Or.inl hx)
  · exact hbad (Or.inr hx)
  · have hcl : M_SM_many σ (nI m) y = k_callx (M_SM_requireBelow σ y 8) fun _ σ6 => k_call (M_Se_matches σ6) fun _ σ10 => k_call (M_Mt_lengthOf σ10 (nI m) y) fun v12 σ13 => some ((0, v12), σ13) := by
      unfold M_SM_many
      rw [k_callx_0 (k_reqMatch1 h9 hn hm)]
    have hmd : ∀ f, M_Md_many (k_sL σ f) (nI m) y = if y < 0 then M_Md_many_27 (k_sL σ f) (nI m) y else if y ≤ 7 then M_Md_many_32 (k_sL σ f) (nI m) y 0 else M_Md_many_27 (k_sL σ f) (nI m) y := fun f => by
      unfold M_Md_many
      rw [if_neg (nI_lt0 (by omega)), if_pos (show nI m < (k_sL σ f).1 14 by show nI m < σ.1 14; rw [h14]; exact nI_lt hm (by omega))]
    have h27 : ∀ f, M_Md_many_27 (k_sL σ f) (nI m) y = some (0, k_sS (k_sL σ f) 10 2) := fun f => by
      unfold M_Md_many_27 M_Md_many_32
      rw [k_thr1 (by decide)]
    have hb2 : (y < 0 ∨ nI 8 ≤ y) → Agree 3 1 (M_SM_many σ (nI m) y) (fun s => M_Md_many s (nI m) y) := fun hy => by
      refine ⟨1, 0, σ, ?_, Or.inr (Or.inr ⟨by decide, rfl⟩), fun f => ⟨0, k_sS (k_sL σ f) 10 2, ?_, Inv_10 (Inv_L h f) 2, rfl, rfl, fun e => by cases e⟩⟩
      · rw [hcl, k_callx_n (n := 0) (k_below0 (lim := 8) hy)]
      · show M_Md_many (k_sL σ f) (nI m) y = _
        rw [hmd f]
        by_cases c : y < 0
        · rw [if_pos c, h27 f]
        · rw [if_neg c, if_neg (show ¬ y ≤ 7 from k_gt (n := 7) (by omega) (hy.resolve_left c)), h27 f]
    rcases pk_ix y (n := 8) (by omega) with hy | hy | ⟨q, hq, rfl⟩
    · exact hb2 (Or.inl hy)
    · exact hb2 (Or.inr hy)
    · have heq := (hk m hm q hq).1
      refine ⟨0, σ.2.1 24 (8 * m + q), σ, ?_, Or.inl rfl, fun f => ⟨σ.2.1 24 (8 * m + q), k_sS (k_sL σ f) 10 0, ?_, Inv_10 (Inv_L h f) 0, rfl, rfl, fun _ => rfl⟩⟩
      · rw [hcl, show (8 : Int32) = nI 8 from rfl, k_callx_0 (k_below1 hq (by omega)), k_call_s (show M_Se_matches σ = some (0, σ) from rfl)]
        unfold M_Mt_lengthOf
        rw [k_i8, k_ld_n (by omega) (by omega), k_call_s rfl]
      · show M_Md_many (k_sL σ f) (nI m) (nI q) = _
        rw [hmd f, if_neg (nI_lt0 (by omega)), if_pos (show nI q ≤ 7 from nI_le (b := 7) (by omega) (by omega))]
        unfold M_Md_many_32
        rw [k_thr0, k_8i, k_ld_n (by omega) (by omega), heq]
        rfl
theorem A_bound {σ : kS} (h : Inv σ) (x y z : Int32) : Agree 3 1 (M_SM_bound σ x y z) (fun s => M_Md_bound s x y z) := by
  obtain ⟨T, hF, hE, hR, n, hn, h9, h14, h16, hk⟩ := id h
  have hmd0 : ∀ f, (x < 0 ∨ nI n ≤ x) → M_Md_bound (k_sL σ f) x y z = some (0, k_sS (k_sL σ f) 10 1) := fun f hx => by
    have key : M_Md_bound_13 (k_sL σ f) x y z = some (0, k_sS (k_sL σ f) 10 1) := by
      unfold M_Md_bound_13 M_Md_bound_32
      rw [k_thr1 (by decide)]
    unfold M_Md_bound
    by_cases c : x < 0
    · rw [if_pos c, key]
    · rw [if_neg c, if_neg, key]
      show ¬ x < σ.1 14
      rw [h14]
      have h2 := hx.resolve_left c
      intro h3
      have a1 := Int32.le_iff_toInt_le.mp h2
      have a2 := Int32.lt_iff_toInt_lt.mp h3
      omega
  have hbad : (x < 0 ∨ nI n ≤ x) → Agree 3 1 (M_SM_bound σ x y z) (fun s => M_Md_bound s x y z) := fun hx => by
    refine ⟨3, 0, σ, ?_, Or.inr (Or.inl rfl), fun f => ⟨0, k_sS (k_sL σ f) 10 1, hmd0 f hx, Inv_10 (Inv_L h f) 1, rfl, rfl, fun e => by cases e⟩⟩
    unfold M_SM_bound
    rw [k_callx_n (n := 2) (k_reqMatch0 h9 hx)]
  rcases pk_ix x (n := n) (by omega) with hx | hx | ⟨m, hm, rfl⟩
  · exact hbad (Or.inl hx)
  · exact hbad (Or.inr hx)
  · have hcl : M_SM_bound σ (nI m) y z = k_callx (M_SM_requireBelow σ y 8) fun _ σ6 => k_call (M_Se_matches σ6) fun _ σ10 => k_call (M_Mt_treeOf σ10 (nI m) y z) fun v12 σ13 => some ((0, v12), σ13) := by
      unfold M_SM_bound
      rw [k_callx_0 (k_reqMatch1 h9 hn hm)]
    have hmd : ∀ f, M_Md_bound (k_sL σ f) (nI m) y z = if y < 0 then M_Md_bound_27 (k_sL σ f) (nI m) y z else if y ≤ 7 then M_Md_bound_32 (k_sL σ f) (nI m) y z 0 else M_Md_bound_27 (k_sL σ f) (nI m) y z := fun f => by
      unfold M_Md_bound
      rw [if_neg (nI_lt0 (by omega)), if_pos (show nI m < (k_sL σ f).1 14 by show nI m < σ.1 14; rw [h14]; exact nI_lt hm (by omega))]
    have h27 : ∀ f, M_Md_bound_27 (k_sL σ f) (nI m) y z = some (0, k_sS (k_sL σ f) 10 2) := fun f => by
      unfold M_Md_bound_27 M_Md_bound_32
      rw [k_thr1 (by decide)]
    have hb2 : (y < 0 ∨ nI 8 ≤ y) → Agree 3 1 (M_SM_bound σ (nI m) y z) (fun s => M_Md_bound s (nI m) y z) := fun hy => by
      refine ⟨1, 0, σ, ?_, Or.inr (Or.inr ⟨by decide, rfl⟩), fun f => ⟨0, k_sS (k_sL σ f) 10 2, ?_, Inv_10 (Inv_L h f) 2, rfl, rfl, fun e => by cases e⟩⟩
      · rw [hcl, k_callx_n (n := 0) (k_below0 (lim := 8) hy)]
      · show M_Md_bound (k_sL σ f) (nI m) y z = _
        rw [hmd f]
        by_cases c : y < 0
        · rw [if_pos c, h27 f]
        · rw [if_neg c, if_neg (show ¬ y ≤ 7 from k_gt (n := 7) (by omega) (hy.resolve_left c)), h27 f]
    rcases pk_ix y (n := 8) (by omega) with hy | hy | ⟨q, hq, rfl⟩
    · exact hb2 (Or.inl hy)
    · exact hb2 (Or.inr hy)
    · obtain ⟨heq, hrow⟩ := hk m hm q hq
      have hcl2 : M_SM_bound σ (nI m) (nI q) z = if z < 0 then some ((0, (-1)), σ) else if z < σ.2.1 24 (8 * m + q) then k_ld (σ.2.1 25) 1920 (nI m * 96 + nI q * 12 + z) (fun v6 => some ((0, v6), σ)) else some ((0, (-1)), σ) := by
        rw [hcl, show (8 : Int32) = nI 8 from rfl, k_callx_0 (k_below1 hq (by omega)), k_call_s (show M_Se_matches σ = some (0, σ) from rfl)]
        unfold M_Mt_treeOf M_Mt_lengthOf
        by_cases cz : z < 0
        · rw [if_pos cz, if_pos cz]; rfl
        · rw [if_neg cz, if_neg cz, k_i8, k_ld_n (by omega) (by omega), k_call_s (o := some (σ.2.1 24 (8 * m + q), σ)) rfl]
          by_cases cl : z < σ.2.1 24 (8 * m + q)
          · rw [if_pos cl, if_pos cl]
            unfold k_ld
            by_cases ci : nI m * 96 + nI q * 12 + z < 0 ∨ 1920 ≤ (nI m * 96 + nI q * 12 + z).toNatClampNeg
            · rw [if_pos ci, if_pos ci]; rfl
            · rw [if_neg ci, if_neg ci]; rfl
          · rw [if_neg cl, if_neg cl]; rfl
      have hmd2 : ∀ f, M_Md_bound (k_sL σ f) (nI m) (nI q) z = if z < 0 then some ((-1), k_sS (k_sL σ f) 10 0) else if z < σ.2.1 24 (8 * m + q) then k_ld (σ.2.1 41) 1920 (96 * nI m + 12 * nI q + z) (fun v6 => some (v6, k_sS (k_sL σ f) 10 0)) else some ((-1), k_sS (k_sL σ f) 10 0) := fun f => by
        rw [hmd f, if_neg (nI_lt0 (by omega)), if_pos (show nI q ≤ 7 from nI_le (b := 7) (by omega) (by omega))]
        unfold M_Md_bound_32
        rw [k_thr0, k_8i]
        by_cases cz : z < 0
        · rw [if_pos cz, if_pos cz]
        · rw [if_neg cz, if_neg cz, k_ld_n (by omega) (by omega), heq]
          rfl
      have good : ∀ {r : Int32}, M_SM_bound σ (nI m) (nI q) z = some ((0, r), σ) → (∀ f, M_Md_bound (k_sL σ f) (nI m) (nI q) z = some (r, k_sS (k_sL σ f) 10 0)) → Agree 3 1 (M_SM_bound σ (nI m) (nI q) z) (fun s => M_Md_bound s (nI m) (nI q) z) :=
        fun {r} a b => ⟨0, r, σ, a, Or.inl rfl, fun f => ⟨r, k_sS (k_sL σ f) 10 0, b f, Inv_10 (Inv_L h f) 0, rfl, rfl, fun _ => rfl⟩⟩
      rcases k_ix z with hz | ⟨k, hk1, rfl⟩
      · exact good (r := -1) (by rw [hcl2, if_pos hz]) (fun f => by rw [hmd2 f, if_pos hz])
      · rcases hrow with hrow | ⟨c, hc, hlen, htrees⟩
        · exact good (r := -1) (by rw [hcl2, if_neg (nI_lt0 hk1), hrow, if_neg (k_lt_neg hk1)]) (fun f => by rw [hmd2 f, if_neg (nI_lt0 hk1), hrow, if_neg (k_lt_neg hk1)])
        · by_cases hkc : k < c
          · refine good (r := σ.2.1 25 (96 * m + 12 * q + k)) ?_ (fun f => ?_)
            · rw [hcl2, if_neg (nI_lt0 hk1), hlen, if_pos (nI_lt hkc (by omega)), k_i96, k_ld_n (by omega) (by omega)]
            · rw [hmd2 f, if_neg (nI_lt0 hk1), hlen, if_pos (nI_lt hkc (by omega)), k_96i, k_ld_n (by omega) (by omega), htrees k hkc]
          · exact good (r := -1) (by rw [hcl2, if_neg (nI_lt0 hk1), hlen, if_neg (nI_nlt (by omega) hk1)]) (fun f => by rw [hmd2 f, if_neg (nI_lt0 hk1), hlen, if_neg (nI_nlt (by omega) hk1)])
