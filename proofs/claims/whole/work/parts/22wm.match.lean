/-! match and first -/
/-- what stands after a search of both: Inv, whatever the class's and the model's search have left -/
theorem Inv_after {σ σ2 : kS} {T : Nat} (hF : FI σ T) (hE : FE σ) (hR : RI σ T) (e1 : ∀ k, k < 3 ∨ (10 < k ∧ k < 14) → σ2.1 k = σ.1 k) (ek : ∀ k, k < 14 ∨ (25 < k ∧ k < 40) → σ2.2.1 k = σ.2.1 k) (hK : KI σ2) : Inv σ2 := by
  have hS : SC σ σ2 := ⟨e1 2 (by decide), fun k hk => ek k (by omega)⟩
  obtain ⟨f1, f2, f3, f4, f5, f6, f7, f8, f9, f10, f11, f12, f13⟩ := hE
  obtain ⟨r, n, hr, hn, q0, q1, hp, q12, q13, q38, q39⟩ := hR
  refine ⟨T, FI_SC hF hS, ⟨?_, ?_, ?_, ?_, ?_, ?_, ?_, ?_, ?_, ?_, ?_, ?_, ?_⟩, ⟨r, n, hr, hn, ?_, ?_, fun k hk => ?_, ?_, ?_, ?_, ?_⟩, hK⟩
  · rw [e1 11 (by decide), e1 2 (by decide)]; exact f1
  · rw [ek 26 (by decide), ek 2 (by decide)]; exact f2
  · rw [ek 27 (by decide), ek 3 (by decide)]; exact f3
  · rw [ek 28 (by decide), ek 4 (by decide)]; exact f4
  · rw [ek 31 (by decide), ek 5 (by decide)]; exact f5
  · rw [ek 32 (by decide), ek 6 (by decide)]; exact f6
  · rw [ek 33 (by decide), ek 7 (by decide)]; exact f7
  · rw [ek 34 (by decide), ek 8 (by decide)]; exact f8
  · rw [ek 29 (by decide), ek 9 (by decide)]; exact f9
  · rw [ek 30 (by decide), ek 10 (by decide)]; exact f10
  · rw [ek 35 (by decide), ek 11 (by decide)]; exact f11
  · rw [ek 36 (by decide), ek 12 (by decide)]; exact f12
  · rw [ek 37 (by decide), ek 13 (by decide)]; exact f13
  · rw [e1 0 (by decide)]; exact q0
  · rw [e1 1 (by decide)]; exact q1
  · have : gN σ2 0 k = gN σ 0 k := by unfold gN; rw [ek 0 (by decide)]
    rw [this, ek 0 (by decide)]; exact hp k hk
  · rw [e1 12 (by decide), e1 0 (by decide)]; exact q12
  · rw [e1 13 (by decide), e1 1 (by decide)]; exact q13
  · rw [ek 38 (by decide), ek 0 (by decide)]; exact q38
  · rw [ek 39 (by decide), ek 1 (by decide)]; exact q39
theorem KI_of {a' b' : kS} (h : KR a' b') (h16 : b'.1 16 = a'.1 5) (e : ∀ k, k < 10 → b'.1 k = a'.1 k) (e24 : b'.2.1 24 = a'.2.1 24) (e25 : b'.2.1 25 = a'.2.1 25) : KI b' := by
  obtain ⟨n, hn, k9, k14, hk⟩ := h
  refine ⟨n, hn, (e 9 (by decide)).trans k9, k14, by rw [e 5 (by decide)]; exact h16, fun m hm q hq => ?_⟩
  rw [e24, e25]
  exact hk m hm q hq
/-- the answer of a search doesn't hang on the model's state -/
theorem both_seq {σ : kS} {T p w max : Nat} (hF : FI σ T) (hE : FE σ) (σ0 : kS) (h0 : SC σ σ0) (hp : p < T) (hw : w < T) (hmax : max ≤ 400) :
    ∃ σ1, M_Se_run σ0 (nI p) (nI w) (nI max) = some (0, σ1) ∧ FcA σ0 σ1 ∧ (σ1.1 7 = 0 ∨ σ1.1 7 = 1) ∧ (∃ t, t ≤ max ∧ σ1.1 5 = nI t) ∧
    ∀ b : kS, SMd σ b → ∃ b', M_Md_search b (nI p) (nI w) (nI max) = some (0, b') ∧ FmA b b' ∧ b'.1 16 = σ1.1 5 ∧ b'.1 18 = σ1.1 6 ∧ b'.1 19 = σ1.1 7 ∧ KR σ1 b' := by
  have hM0 : SMd σ σ := ⟨FM_of hE, hE.2.2.2.2.2.2.2.2.2.2.1, hE.2.2.2.2.2.2.2.2.2.2.2.1, hE.2.2.2.2.2.2.2.2.2.2.2.2⟩
  obtain ⟨σ1, _, r1, _, f1⟩ := search_both hF h0 hM0 hp hw hmax
  refine ⟨σ1, r1, f1.2.1, f1.1.2.2.2.1, f1.1.2.2.2.2.1, fun b hb => ?_⟩
  obtain ⟨σ1', b', r1', r2, f2⟩ := search_both hF h0 hb hp hw hmax
  have e : σ1' = σ1 := by
    rw [r1] at r1'
    cases r1'
    rfl
  rw [e] at f2
  exact ⟨b', r2, f2.2.2, f2.1.1, f2.1.2.1, f2.1.2.2.1, f2.1.2.2.2.2.2⟩
theorem SMd_FE {σ b : kS} (hE : FE σ) (e : ∀ k, 25 < k → k < 40 → b.2.1 k = σ.2.1 k) : SMd σ b := by
  obtain ⟨f1, f2, f3, f4, f5, f6, f7, f8, f9, f10, f11, f12, f13⟩ := hE
  refine ⟨⟨?_, ?_, ?_, ?_, ?_⟩, ?_, ?_, ?_⟩
  all_goals (rw [e _ (by decide) (by decide)]; assumption)
theorem A_match {σ : kS} (h : Inv σ) (x y z : Int32) : Agree 3 1 (M_SM_match σ x y z) (fun s => M_Md_match s x y z) := by
  obtain ⟨T, hF, hE, hR, hK⟩ := id h
  obtain ⟨hT, e2, hz, htr⟩ := id hF
  have e11 : σ.1 11 = nI T := hE.1.trans e2
  have thr : ∀ (f : Nat → Int64) (c : Int32), c ≠ 0 → M_Md_match_46 (k_sL σ f) x y z c = some (0, k_sS (k_sL σ f) 10 c) := fun f c hc => by
    unfold M_Md_match_46
    rw [k_thr1 hc]
  rcases k_tree x hT with hx | ⟨p, hp, rfl⟩
  · refine ⟨3, 0, σ, ?_, Or.inr (Or.inl rfl), fun f => ⟨0, k_sS (k_sL σ f) 10 1, ?_, Inv_10 (Inv_L h f) 1, rfl, rfl, fun e => by cases e⟩⟩
    · unfold M_SM_match
      rw [k_callx_n (n := 2) (k_reqTree0 e2 hx)]
    · show M_Md_match (k_sL σ f) x y z = _
      unfold M_Md_match
      rw [k_call_s (k_noTree1 (σ := k_sL σ f) e11 hT hx), if_neg (by decide)]
      unfold M_Md_match_17
      exact thr f 1 (by decide)
  · rcases k_tree y hT with hy | ⟨w, hw, rfl⟩
    · refine ⟨3, 0, σ, ?_, Or.inr (Or.inl rfl), fun f => ⟨0, k_sS (k_sL σ f) 10 1, ?_, Inv_10 (Inv_L h f) 1, rfl, rfl, fun e => by cases e⟩⟩
      · unfold M_SM_match M_SM_requirePlain
        rw [k_callx_0 (k_reqTree1 e2 hT hp), k_callx_n (n := 2) (k_reqTree0 e2 hy)]
        rfl
      · show M_Md_match (k_sL σ f) (nI p) y z = _
        unfold M_Md_match
        rw [k_call_s (k_noTree0 (σ := k_sL σ f) e11 hT hp), if_pos rfl, k_call_s (k_noTree1 (σ := k_sL σ f) e11 hT hy), if_neg (by decide)]
        unfold M_Md_match_17
        exact thr f 1 (by decide)
    · have hmd : ∀ s : kS, s.1 11 = nI T → s.2.1 31 = σ.2.1 5 → M_Md_match s (nI p) (nI w) z = if σ.2.1 5 w = 0 then M_Md_match_46 s (nI p) (nI w) z 2 else if z < 0 then M_Md_match_46 s (nI p) (nI w) z 2 else if z ≤ 400 then M_Md_match_46 s (nI p) (nI w) z 0 else M_Md_match_46 s (nI p) (nI w) z 2 := fun s g1 g2 => by
        unfold M_Md_match
        rw [k_call_s (k_noTree0 (σ := s) g1 hT hp), if_pos rfl, k_call_s (k_noTree0 (σ := s) g1 hT hw), if_pos rfl, k_ld_n (by omega) (by omega), g2]
        rfl
      by_cases c5 : σ.2.1 5 w = 0
      · refine ⟨1, 0, σ, ?_, Or.inr (Or.inr ⟨by decide, rfl⟩), fun f => ⟨0, k_sS (k_sL σ f) 10 2, ?_, Inv_10 (Inv_L h f) 2, rfl, rfl, fun e => by cases e⟩⟩
        · unfold M_SM_match
          rw [k_callx_0 (k_reqTree1 e2 hT hp), k_callx_n (n := 0) ((k_reqPlain hF hw).trans (if_pos c5))]
        · show M_Md_match (k_sL σ f) (nI p) (nI w) z = _
          rw [hmd (k_sL σ f) e11 hE.2.2.2.2.1, if_pos c5]
          exact thr f 2 (by decide)
      · have rb : M_SM_match σ (nI p) (nI w) z = k_callx (M_SM_requireBelow σ z 401) fun _ σ10 => k_call (M_Se_run σ10 (nI p) (nI w) z) fun _ σ14 => k_call (M_Se_isSpent σ14) fun v16 σ17 => if v16 = 0 then (k_call (M_Se_found σ17) fun v20 σ21 => some ((0, v20), σ21)) else (some ((0, (-1)), σ17)) := by
          unfold M_SM_match
          rw [k_callx_0 (k_reqTree1 e2 hT hp), k_callx_0 ((k_reqPlain hF hw).trans (if_neg c5))]
        rcases pk_ix z (n := 401) (by omega) with hz0 | hz1 | ⟨max, hmax, rfl⟩
        · refine ⟨1, 0, σ, ?_, Or.inr (Or.inr ⟨by decide, rfl⟩), fun f => ⟨0, k_sS (k_sL σ f) 10 2, ?_, Inv_10 (Inv_L h f) 2, rfl, rfl, fun e => by cases e⟩⟩
          · rw [rb, k_callx_n (n := 0) (k_below0 (lim := 401) (Or.inl hz0))]
          · show M_Md_match (k_sL σ f) (nI p) (nI w) z = _
            rw [hmd (k_sL σ f) e11 hE.2.2.2.2.1, if_neg c5, if_pos hz0]
            exact thr f 2 (by decide)
        · refine ⟨1, 0, σ, ?_, Or.inr (Or.inr ⟨by decide, rfl⟩), fun f => ⟨0, k_sS (k_sL σ f) 10 2, ?_, Inv_10 (Inv_L h f) 2, rfl, rfl, fun e => by cases e⟩⟩
          · rw [rb, k_callx_n (n := 0) (k_below0 (lim := 401) (Or.inr hz1))]
          · show M_Md_match (k_sL σ f) (nI p) (nI w) z = _
            rw [hmd (k_sL σ f) e11 hE.2.2.2.2.1, if_neg c5, if_neg (show ¬ z ≤ 400 from fun q => nI_ge (a := 400) (b := 401) (by omega) (by omega) (Int32.le_trans hz1 q))]
            rw [ite_self]
            exact thr f 2 (by decide)
        · obtain ⟨σ1, r1, fc, s7, ⟨t, ht, s5⟩, mm⟩ := both_seq hF hE σ ⟨rfl, fun _ _ => rfl⟩ hp hw (show max ≤ 400 by omega)
          have rc : M_SM_match σ (nI p) (nI w) (nI max) = some ((0, if σ1.1 7 = 0 then σ1.1 6 else -1), σ1) := by
            rw [rb, k_callx_0 (show M_SM_requireBelow σ (nI max) 401 = _ from k_below1 (m := 401) hmax (by omega)), k_call_s r1]
            unfold M_Se_isSpent M_Se_found
            rcases s7 with s7 | s7
            · rw [s7, k_z0, k_call_j, if_pos rfl, k_call_j, if_pos rfl]
            · rw [s7, k_z1, k_call_j, if_neg (by decide), if_neg (by decide)]
          refine ⟨0, if σ1.1 7 = 0 then σ1.1 6 else -1, σ1, rc, Or.inl rfl, fun f => ?_⟩
          obtain ⟨b, hb⟩ : ∃ b, b = k_sS (k_sL σ1 f) 10 0 := ⟨_, rfl⟩
          have b1 : ∀ k, k ≠ 10 → b.1 k = σ1.1 k := fun k hk => by rw [hb, k_sSn hk]; rfl
          have b2 : b.2.1 = σ1.2.1 := by rw [hb]; rfl
          have hM : SMd σ b := SMd_FE hE (fun k k1 k2 => by rw [b2]; exact fc.2.1 k (by omega))
          obtain ⟨b', r2, fm, k16, k18, k19, kr⟩ := mm b hM
          refine ⟨if σ1.1 7 = 0 then σ1.1 6 else -1, b', ?_, ?_, ?_, ?_, fun _ => rfl⟩
          · show M_Md_match (k_sL σ1 f) (nI p) (nI w) (nI max) = _
            rw [hmd (k_sL σ1 f) ((fc.1 11 (by omega)).trans e11) ((fc.2.1 31 (by omega)).trans hE.2.2.2.2.1), if_neg c5, if_neg (nI_lt0 (by omega)), if_pos (show nI max ≤ 400 from nI_le (b := 400) (by omega) (by omega))]
            unfold M_Md_match_46
            rw [k_thr0, ← hb, k_call_s r2, k18, k19]
            rcases s7 with s7 | s7
            · rw [s7, if_pos rfl, if_pos rfl]
            · rw [s7, if_neg (by decide), if_neg (by decide)]
          · refine Inv_after hF hE hR (fun k hk => ?_) (fun k hk => ?_) (KI_of kr k16 (fun k hk => ?_) ?_ ?_)
            · rw [fm.1 k (by omega), b1 k (by omega), fc.1 k (by omega)]
            · rw [fm.2.1 k (by omega), b2, fc.2.1 k (by omega)]
            · rw [fm.1 k (by omega), b1 k (by omega)]
            · rw [fm.2.1 24 (by omega), b2]
            · rw [fm.2.1 25 (by omega), b2]
          · rw [fm.2.2, hb]; rfl
          · rw [fm.1 10 (by omega), hb, k_sSs]; rfl
theorem nI_sub {a b : Nat} (h : b ≤ a) : nI a - nI b = nI (a - b) := by
  have e : nI a = nI (a - b) + nI b := by rw [nI_add]; congr 1; omega
  rw [e, Int32.add_sub_cancel]
theorem first_loop {σ : kS} {T t r : Nat} (hF : FI σ T) (hE : FE σ) (ht : t < T) (hr : r ≤ 30) (hp : ∀ k, k < r → σ.2.1 0 k = nI (gN σ 0 k) ∧ gN σ 0 k < T) : ∀ m k f max (a : kS), k + m = r → max ≤ 400 → SC σ a → a.1 0 = nI r →
    ∃ res a', M_SM_first_18 (f + m + 1) a (nI t) (nI max) (nI k) = some ((0, res), a') ∧ FcA a a' ∧ ∀ b : kS, SMd σ b → b.1 12 = nI r → b.2.1 38 = σ.2.1 0 → KR a b → b.1 16 = a.1 5 →
      ∃ b', M_Md_first_55 (f + m + 1) b (nI t) (nI max) (nI k) = some (res, b') ∧ FmA b b' ∧ KR a' b' ∧ b'.1 16 = a'.1 5 := by
  intro m
  induction m with
  | zero =>
    intro k f max a hk hmax hS h0
    refine ⟨-1, a, ?_, FcA_rfl a, fun b hM h12 h38 hK h16 => ⟨b, ?_, FmA_rfl b, hK, h16⟩⟩
    · show M_SM_first_18_b (M_SM_first_18 (f + 0)) a _ _ _ = _
      unfold M_SM_first_18_b
      rw [h0, if_pos (nI_le (by omega) (by omega))]
    · show M_Md_first_55_b (M_Md_first_55 (f + 0)) b _ _ _ = _
      unfold M_Md_first_55_b
      rw [h12, if_pos (nI_le (by omega) (by omega))]
  | succ m ih =>
    intro k f max a hk hmax hS h0
    obtain ⟨p1, p2⟩ := hp k (by omega)
    have e00 : a.2.1 0 k = nI (gN σ 0 k) := by rw [hS.2 0 (by decide)]; exact p1
    have hmc : M_F_mayMatch a (nI (gN σ 0 k)) (nI t) = some (mayN σ (gN σ 0 k) t, a) := by
      rw [F_may (FI_SC hF hS) p2 ht, mayN_congr (hS.2 2 (by decide)) (hS.2 3 (by decide)) (hS.2 4 (by decide)) (hS.2 9 (by decide)) (hS.2 10 (by decide))]
    have cst : M_SM_first_18 (f + (m + 1) + 1) a (nI t) (nI max) (nI k) = if mayN σ (gN σ 0 k) t = 0 then M_SM_first_18 (f + m + 1) a (nI t) (nI max) (nI (k + 1)) else k_call (M_Se_run a (nI (gN σ 0 k)) (nI t) (nI max)) fun _ σ10 => k_call (M_Se_triesMade σ10) fun v12 σ13 => k_let (nI max - v12) fun v15 => k_call (M_Se_found σ13) fun v16 σ17 => if v16 ≤ 0 then (k_let (nI k + 1) fun v20 => M_SM_first_18 (f + m + 1) σ17 (nI t) v15 v20) else (some ((0, nI k), σ17)) := by
      show M_SM_first_18_b (M_SM_first_18 (f + m + 1)) a _ _ _ = _
      unfold M_SM_first_18_b
      rw [h0, if_neg (nI_ge (by omega) (by omega)), k_ld_n (by omega) (by omega), e00, k_call_s hmc, k_let_r, nI_1, k_ld_n (by omega) (by omega), e00]
    have mst : ∀ b : kS, SMd σ b → b.1 12 = nI r → b.2.1 38 = σ.2.1 0 → M_Md_first_55 (f + (m + 1) + 1) b (nI t) (nI max) (nI k) = if mayN σ (gN σ 0 k) t = 0 then M_Md_first_55 (f + m + 1) b (nI t) (nI max) (nI (k + 1)) else k_call (M_Md_search b (nI (gN σ 0 k)) (nI t) (nI max)) fun _ σ9 => if σ9.1 18 ≤ 0 then (k_let (nI max - σ9.1 16) fun v12 => k_let (nI k + 1) fun v13 => M_Md_first_55 (f + m + 1) σ9 (nI t) v12 v13) else (some (nI k, σ9)) := by
      intro b hM h12 h38
      have e38 : b.2.1 38 k = nI (gN σ 0 k) := by rw [h38]; exact p1
      show M_Md_first_55_b (M_Md_first_55 (f + m + 1)) b _ _ _ = _
      unfold M_Md_first_55_b
      rw [h12, if_neg (nI_ge (by omega) (by omega)), k_call_s (Md_may hF hM.1 p2 ht (by omega) e38), k_let_r, nI_1, k_ld_n (by omega) (by omega), e38]
    rw [cst]
    by_cases c : mayN σ (gN σ 0 k) t = 0
    · obtain ⟨res, a', i1, i2, i3⟩ := ih (k + 1) f max a (by omega) hmax hS h0
      refine ⟨res, a', by rw [if_pos c]; exact i1, i2, fun b hM h12 h38 hK h16 => ?_⟩
      rw [mst b hM h12 h38, if_pos c]
      exact i3 b hM h12 h38 hK h16
    · obtain ⟨a1, r1, fc, s7, ⟨t', ht', s5⟩, mm⟩ := both_seq hF hE a hS p2 ht hmax
      have hS1 : SC σ a1 := ⟨(fc.1 2 (by omega)).trans hS.1, fun q hq => (fc.2.1 q (by omega)).trans (hS.2 q hq)⟩
      have cst2 : (k_call (M_Se_run a (nI (gN σ 0 k)) (nI t) (nI max)) fun _ σ10 => k_call (M_Se_triesMade σ10) fun v12 σ13 => k_let (nI max - v12) fun v15 => k_call (M_Se_found σ13) fun v16 σ17 => if v16 ≤ 0 then (k_let (nI k + 1) fun v20 => M_SM_first_18 (f + m + 1) σ17 (nI t) v15 v20) else (some ((0, nI k), σ17))) = if a1.1 6 ≤ 0 then M_SM_first_18 (f + m + 1) a1 (nI t) (nI (max - t')) (nI (k + 1)) else some ((0, nI k), a1) := by
        rw [k_call_s r1]
        unfold M_Se_triesMade M_Se_found
        rw [k_call_j, k_let_r, k_call_j, s5, nI_sub ht', k_let_r, nI_1]
      rw [if_neg c, cst2]
      by_cases d : a1.1 6 ≤ 0
      · obtain ⟨res, a', i1, i2, i3⟩ := ih (k + 1) f (max - t') a1 (by omega) (by omega) hS1 ((fc.1 0 (by omega)).trans h0)
        refine ⟨res, a', by rw [if_pos d]; exact i1, FcA_tr fc i2, fun b hM h12 h38 hK h16 => ?_⟩
        obtain ⟨b1, r2, fm, k16, k18, k19, kr⟩ := mm b hM
        obtain ⟨b', j1, j2, j3, j4⟩ := i3 b1 (SMd_cong hM (fun q hq => fm.2.1 q (by omega))) ((fm.1 12 (by omega)).trans h12) ((fm.2.1 38 (by omega)).trans h38) kr k16
        refine ⟨b', ?_, FmA_tr fm j2, j3, j4⟩
        rw [mst b hM h12 h38, if_neg c, k_call_s r2, k18, k16, if_pos d, k_let_r, k_let_r, s5, nI_sub ht', nI_1]
        exact j1
      · refine ⟨nI k, a1, by rw [if_neg d], fc, fun b hM h12 h38 hK h16 => ?_⟩
        obtain ⟨b1, r2, fm, k16, k18, k19, kr⟩ := mm b hM
        refine ⟨b1, ?_, fm, kr, k16⟩
        rw [mst b hM h12 h38, if_neg c, k_call_s r2, k18, if_neg d]
theorem A_first {σ : kS} (h : Inv σ) (x : Int32) : Agree 3 1 (M_SM_first σ x) (fun s => M_Md_first s x) := by
  obtain ⟨T, hF, hE, hR, hK⟩ := id h
  obtain ⟨hT, e2, hz, htr⟩ := id hF
  obtain ⟨r, n, hr, hn, e0, e1, hp, e12, e13, e38, e39⟩ := id hR
  have e11 : σ.1 11 = nI T := hE.1.trans e2
  rcases k_tree x hT with hx | ⟨t, ht, rfl⟩
  · refine ⟨3, 0, σ, ?_, Or.inr (Or.inl rfl), fun f => ⟨0, k_sS (k_sL σ f) 10 1, ?_, Inv_10 (Inv_L h f) 1, rfl, rfl, fun e => by cases e⟩⟩
    · unfold M_SM_first M_SM_requirePlain
      rw [k_callx_n (n := 2) (k_reqTree0 e2 hx)]
      rfl
    · show M_Md_first (k_sL σ f) x = _
      unfold M_Md_first
      rw [k_call_s (k_noTree1 (σ := k_sL σ f) e11 hT hx), if_neg (by decide)]
      unfold M_Md_first_27
      rw [k_thr1 (by decide)]
  · have hmd : ∀ s : kS, s.1 11 = nI T → s.2.1 31 = σ.2.1 5 → M_Md_first s (nI t) = if σ.2.1 5 t = 0 then M_Md_first_27 s (nI t) 2 else M_Md_first_27 s (nI t) 0 := fun s g1 g2 => by
      unfold M_Md_first
      rw [k_call_s (k_noTree0 (σ := s) g1 hT ht), if_pos rfl, k_ld_n (by omega) (by omega), g2]
    by_cases c5 : σ.2.1 5 t = 0
    · refine ⟨1, 0, σ, ?_, Or.inr (Or.inr ⟨by decide, rfl⟩), fun f => ⟨0, k_sS (k_sL σ f) 10 2, ?_, Inv_10 (Inv_L h f) 2, rfl, rfl, fun e => by cases e⟩⟩
      · unfold M_SM_first
        rw [k_callx_n (n := 0) ((k_reqPlain hF ht).trans (if_pos c5))]
      · show M_Md_first (k_sL σ f) (nI t) = _
        rw [hmd (k_sL σ f) e11 hE.2.2.2.2.1, if_pos c5]
        unfold M_Md_first_27
        rw [k_thr1 (by decide)]
    · obtain ⟨a, ra, a0, a5, a6, a7, a9, ak, an, aL⟩ := Se_clear σ
      have hSa : SC σ a := ⟨a0 2 (by decide) (by decide) (by decide) (by decide), fun k hk => ak k (by omega) (by omega)⟩
      obtain ⟨res, a', i1, i2, i3⟩ := first_loop hF hE ht hr hp r 0 (k_fu - r - 1) 400 a (by omega) (by omega) hSa ((a0 0 (by decide) (by decide) (by decide) (by decide)).trans e0)
      rw [show k_fu - r - 1 + r + 1 = k_fu by unfold k_fu; omega] at i1 i3
      refine ⟨0, res, a', ?_, Or.inl rfl, fun f => ?_⟩
      · unfold M_SM_first
        rw [k_callx_0 ((k_reqPlain hF ht).trans (if_neg c5)), k_call_s ra]
        exact i1
      · obtain ⟨b, hb⟩ : ∃ b, b = k_sS (k_sS (k_sS (k_sL a' f) 10 0) 14 0) 16 0 := ⟨_, rfl⟩
        have b1 : ∀ k, k ≠ 10 → k ≠ 14 → k ≠ 16 → b.1 k = a'.1 k := fun k h10 h14 h16 => by rw [hb, k_sSn h16, k_sSn h14, k_sSn h10]; rfl
        have b2 : b.2.1 = a'.2.1 := by rw [hb]; rfl
        have q1 : ∀ k, k < 3 ∨ 9 < k → a'.1 k = σ.1 k := fun k hk => (i2.1 k hk).trans (a0 k (by omega) (by omega) (by omega) (by omega))
        have q2 : ∀ k, k < 14 ∨ 25 < k → a'.2.1 k = σ.2.1 k := fun k hk => (i2.2.1 k hk).trans (ak k (by omega) (by omega))
        have hM : SMd σ b := SMd_FE hE (fun k k1 k2 => by rw [b2]; exact q2 k (by omega))
        obtain ⟨b', j1, j2, j3, j4⟩ := i3 b hM (by rw [b1 12 (by decide) (by decide) (by decide), q1 12 (by omega), e12]; exact e0) (by rw [b2, q2 38 (by omega)]; exact e38) ⟨0, by omega, a9, by rw [hb]; rfl, fun m hm => by omega⟩ (by rw [hb, a5, k_sSs])
        refine ⟨res, b', ?_, ?_, ?_, ?_, fun _ => rfl⟩
        · show M_Md_first (k_sL a' f) (nI t) = _
          rw [hmd (k_sL a' f) ((q1 11 (by omega)).trans e11) ((q2 31 (by omega)).trans hE.2.2.2.2.1), if_neg c5]
          unfold M_Md_first_27
          rw [k_thr0, k_set_r, k_set_r, ← hb]
          exact j1
        · refine Inv_after hF hE hR (fun k hk => ?_) (fun k hk => ?_) (KI_of j3 j4 (fun k hk => ?_) ?_ ?_)
          · rw [j2.1 k (by omega), b1 k (by omega) (by omega) (by omega), q1 k (by omega)]
          · rw [j2.2.1 k (by omega), b2, q2 k (by omega)]
          · rw [j2.1 k (by omega), b1 k (by omega) (by omega) (by omega)]
          · rw [j2.2.1 24 (by omega), b2]
          · rw [j2.2.1 25 (by omega), b2]
        · rw [j2.2.2, hb]; rfl
        · rw [j2.1 10 (by omega), hb]; rfl
