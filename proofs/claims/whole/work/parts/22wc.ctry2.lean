/-! one try of the class -/
theorem RC_cong {s σ σ' : kS} {T n j : Nat} {W G : Nat → Nat → Nat} {fr : Bool} (e2 : σ'.1 2 = σ.1 2) (e8 : σ'.1 8 = σ.1 8) (ek : ∀ k, k < 24 → k ≠ 17 → σ'.2.1 k = σ.2.1 k) (h : RC s T n W j fr G σ) : RC s T n W j fr G σ' := by
  obtain ⟨⟨a1, a2, a3, a4⟩, ⟨b1, b2, b3, b4⟩, c, d, e, f⟩ := h
  refine ⟨⟨⟨e2.trans a1.1, fun k hk => (ek k (by omega) (by omega)).trans (a1.2 k hk)⟩, e8.trans a2, by rw [ek 18 (by decide) (by decide)]; exact a3, fun i i1 i2 => ?_⟩, ⟨?_, ?_, ?_, ?_⟩, ?_, ?_, fun q hq => ?_, ?_⟩
  · rw [ek 18 (by decide) (by decide), ek 19 (by decide) (by decide), ek 20 (by decide) (by decide)]; exact a4 i i1 i2
  · rw [ek 14 (by decide) (by decide)]; exact b1
  · rw [ek 14 (by decide) (by decide)]; exact b2
  · rw [ek 14 (by decide) (by decide)]; exact b3
  · rw [ek 14 (by decide) (by decide)]; exact b4
  · rw [ek 15 (by decide) (by decide)]; exact c
  · rw [ek 16 (by decide) (by decide)]; exact d
  · rw [ek 21 (by decide) (by decide), ek 22 (by decide) (by decide)]; exact e q hq
  · rw [ek 23 (by decide) (by decide)]; exact f
theorem RC_give {s σ : kS} {T n j m : Nat} {W G : Nat → Nat → Nat} {R : Nat → Nat} (hm : m ≤ 12) (h8 : gN s 3 (W 0 j) < 8) (hR : ∀ k, k < m → σ.2.1 17 k = nI (R k) ∧ R k < T) (h : RC s T n W j false G σ) : RC s T n W j false (gvG G (gN s 3 (W 0 j)) m j R) (giveC σ (gN s 3 (W 0 j)) m j) := by
  obtain ⟨hq, hhq⟩ : ∃ q, q = gN s 3 (W 0 j) := ⟨_, rfl⟩
  rw [← hhq] at h8 ⊢
  have fr : FrC σ (giveC σ hq m j) := FrC_tr (FrC_tr (FrC_sA (by decide) _) (FrC_sA (by decide) _)) (FrC_sA (by decide) _)
  have d21 : (giveC σ hq m j).2.1 21 = upd (σ.2.1 21) hq (nI m) := by unfold giveC; rw [k_sA2 (by decide), k_sAs]
  have d22 : (giveC σ hq m j).2.1 22 = va_cpy (σ.2.1 17) (σ.2.1 22) 0 (12 * hq) m := by unfold giveC; rw [k_sA2 (by decide), k_sA2 (by decide), k_sAs]
  have d23 : (giveC σ hq m j).2.1 23 = upd (σ.2.1 23) hq (nI j) := by unfold giveC; rw [k_sAs]
  have dn : ∀ k, k ≠ 21 → k ≠ 22 → k ≠ 23 → (giveC σ hq m j).2.1 k = σ.2.1 k := fun k x y z => by unfold giveC; rw [k_sA2 z, k_sA2 x, k_sA2 y]
  have ea : ∀ i, alS s (gvG G hq m j R) i = alS s G i := fun i => by unfold alS; rw [gvG_k (by decide) (by decide) (by decide)]
  obtain ⟨a, ⟨b1, b2, b3, b4⟩, c, d, e, f⟩ := h
  refine ⟨RC_fr a fr, ⟨fun i i0 hi hx => ?_, k_ft, k_ft, fun x => ?_⟩, fun i hi hs => ?_, fun i i0 hi hx => ?_, fun q hq' => ?_, fun q hq' => ?_⟩
  · rw [dn 14 (by decide) (by decide) (by decide), gvG_k (by decide) (by decide) (by decide)]; exact b1 i i0 hi hx
  · rw [dn 14 (by decide) (by decide) (by decide)]; exact b4 x
  · rw [dn 15 (by decide) (by decide) (by decide), gvG_k (by decide) (by decide) (by decide)]; exact c i hi hs
  · rw [dn 16 (by decide) (by decide) (by decide), ea, gvG_k (by decide) (by decide) (by decide), gvG_k (by decide) (by decide) (by decide)]; exact d i i0 hi hx
  · obtain ⟨n1, n2, n3⟩ := e q hq'
    rw [d21, d22, gvG_3]
    by_cases x : q = hq
    · rw [if_pos x, x, k_upd_s]
      refine ⟨rfl, by omega, fun k hk => ?_⟩
      obtain ⟨r1, r2⟩ := hR k (by omega)
      rw [gvG_4, if_pos ⟨by omega, by omega⟩, Nat.add_sub_cancel_left]
      refine ⟨?_, r2⟩
      unfold va_cpy
      rw [if_pos ⟨by omega, by omega⟩, Nat.add_sub_cancel_left, Nat.zero_add]
      exact r1
    · rw [if_neg x, k_upd_n x]
      refine ⟨n1, n2, fun k hk => ?_⟩
      rw [gvG_4, if_neg (fun y => by omega)]
      refine ⟨?_, (n3 k hk).2⟩
      unfold va_cpy
      rw [if_neg (fun y => by omega)]
      exact (n3 k hk).1
  · rw [d23, gvG_5]
    by_cases x : q = hq
    · rw [if_pos x, x, k_upd_s]
      rfl
    · rw [if_neg x, k_upd_n x]
      exact f q hq'
theorem RC_bes {s σ : kS} {T n j r : Nat} {W G : Nat → Nat → Nat} (hP : Plan s T n W) (hj : j < n) (h : RC s T n W j false G σ) : RC s T n W j false (gU G 2 j r) (besC s σ j r) := by
  have fr : FrC σ (besC s σ j r) := FrC_tr (FrC_sA (by decide) _) (FrC_sA (by decide) _)
  have d15 : (besC s σ j r).2.1 15 = upd (σ.2.1 15) j (nI r) := by unfold besC; rw [k_sA2 (by decide), k_sAs]
  have d16 : (besC s σ j r).2.1 16 = upd (σ.2.1 16) j (nI (2 ^ (gN s 9 r) - 1)) := by unfold besC; rw [k_sAs]
  have dn : ∀ k, k ≠ 15 → k ≠ 16 → (besC s σ j r).2.1 k = σ.2.1 k := fun k x y => by unfold besC; rw [k_sA2 y, k_sA2 x]
  obtain ⟨a, ⟨b1, b2, b3, b4⟩, c, d, e, f⟩ := h
  refine ⟨RC_fr a fr, ⟨fun i i0 hi hx => ?_, k_ft, k_ft, fun x => ?_⟩, fun i hi hs => ?_, fun i i0 hi hx => ?_, fun q hq' => ?_, fun q hq' => ?_⟩
  · rw [dn 14 (by decide) (by decide), gU_k (by decide)]; exact b1 i i0 hi hx
  · rw [dn 14 (by decide) (by decide)]; exact b4 x
  · rw [d15, k_upd_n (by omega), gU_i (by omega)]; exact c i hi hs
  · have := (hP.2.2.2.2 i i0 (by omega)).1.2.1
    have q1 : gU G 2 j r 2 (W 1 i) = G 2 (W 1 i) := gU_i (by omega)
    have q2 : gU G 2 j r 0 i = G 0 i := gU_k (by decide)
    have q3 : gU G 2 j r 1 i = G 1 i := gU_k (by decide)
    unfold alS
    rw [d16, k_upd_n (by omega), q1, q2, q3]; exact d i i0 hi hx
  · have q1 : gU G 2 j r 3 = G 3 := funext (fun i => gU_k (by decide))
    have q2 : gU G 2 j r 4 = G 4 := funext (fun i => gU_k (by decide))
    rw [dn 21 (by decide) (by decide), dn 22 (by decide) (by decide), q1, q2]; exact e q hq'
  · rw [dn 23 (by decide) (by decide), gU_k (by decide)]; exact f q hq'
theorem RC_push {s σ : kS} {T n j : Nat} {W G : Nat → Nat → Nat} {L : Nat → Nat} (hF : FI s T) (hP : Plan s T n W) (hI : SI s T n W j false G) (h : RC s T n W j false G σ) (hb : gN s 2 (W 0 j) ≠ 2 → G 2 j < T ∧ σ.2.1 15 j = nI (G 2 j) ∧ σ.2.1 16 j = nI (alS s G j)) (hv : 2 ≤ endV s W L j) : RC s T n W (j + 1) true (psG G j (endV s W L j)) (k_sA σ 14 (upd (σ.2.1 14) (j + 1) (-1))) := by
  obtain ⟨a, ⟨b1, b2, b3, b4⟩, c, d, e, f⟩ := h
  obtain ⟨_, e2, e3⟩ := end_spec (L := L) hF hP hI.1
  have ek : ∀ k i, k ≠ 0 → k ≠ 1 → psG G j (endV s W L j) k i = G k i := fun k i x0 x1 => by unfold psG; rw [gU_k x1, gU_k x0]
  have ei : ∀ k i, i ≤ j → psG G j (endV s W L j) k i = G k i := fun k i x => by unfold psG; rw [gU_i (by omega), gU_i (by omega)]
  have e0 : psG G j (endV s W L j) 0 (j + 1) = if endV s W L j = 2 then 0 else G 0 (endV s W L j - 2) ||| G 1 (endV s W L j - 2) := by unfold psG; rw [gU_k (by decide), gU_s]
  have e1 : psG G j (endV s W L j) 1 (j + 1) = 0 := by unfold psG; rw [gU_s]
  have ea : ∀ i, alS s (psG G j (endV s W L j)) i = alS s G i := fun i => by unfold alS; rw [ek 2 _ (by decide) (by decide)]
  refine ⟨RC_fr a (FrC_sA (by decide) _), ⟨fun i i0 hi hx => ?_, fun _ => ?_, fun _ => Or.inr ?_, fun x => k_ft x.symm⟩, fun i hi hs => ?_, fun i i0 hi hx => ?_, ?_, fun q hq' => ?_⟩
  · have hij : i ≤ j := by
      rcases (show i ≤ j ∨ i = j + 1 by omega) with x | x
      · exact x
      · exact k_ft (hx x).symm
    rw [k_sAs, k_upd_n (by omega), ei 1 i hij]; exact b1 i i0 hij (fun _ => rfl)
  · rw [k_sAs, k_upd_s]
  · rw [k_sAs, k_upd_n (by omega)]; exact b4 rfl
  · rw [k_sA2 (by decide), ei 2 i (by omega)]
    by_cases x : i = j
    · rw [x]; rw [x] at hs; exact (hb hs).2.1
    · exact c i (by omega) hs
  · rw [k_sA2 (by decide), ea]
    by_cases x : i = j + 1
    · rw [x, e0, e1, Nat.or_zero]
      rcases (show endV s W L j = 2 ∨ 3 ≤ endV s W L j by omega) with y | y
      · obtain ⟨p1, p2, p3, p4⟩ := e2 y
        obtain ⟨h1, h2, h3⟩ := hb (by rw [p4]; decide)
        rw [if_pos y, p2, h3, dif_z (alS s G j) (all_lt (T_cnt hF h1))]
      · obtain ⟨a', q1, q2, q3, q4, q5, q6, q7, q8⟩ := e3 y
        rw [if_neg (by omega), q1, Nat.add_sub_cancel, q7]
        exact d a' q2 q3 (Or.inr (by omega))
    · rw [ei 0 i (by omega), ei 1 i (by omega)]
      refine d i i0 (by omega) ?_
      rcases hx with y | y
      · exact Or.inl y
      · exact Or.inr (by omega)
  · have q1 : psG G j (endV s W L j) 3 = G 3 := funext (fun i => ek 3 i (by decide) (by decide))
    have q2 : psG G j (endV s W L j) 4 = G 4 := funext (fun i => ek 4 i (by decide) (by decide))
    intro q hq
    rw [k_sA2 (by decide), k_sA2 (by decide), q1, q2]; exact e q hq
  · rw [k_sA2 (by decide), ek 5 _ (by decide) (by decide)]; exact f q hq'
/-- 0: slot j again; 1: a match; else: the next slot -/
def tryV (s : kS) (W G : Nat → Nat → Nat) (j : Nat) (R : Nat → Nat) (m : Nat) : Nat := if fitV s W G j R m = 0 then 0 else endV s W (leftS s W (fitG s W G j R m) j) j
def tryG (s : kS) (W G : Nat → Nat → Nat) (j : Nat) (R : Nat → Nat) (m : Nat) : Nat → Nat → Nat := if fitV s W G j R m = 0 then G else fitG s W G j R m
theorem C_try {s σ : kS} {T n j m : Nat} {W G : Nat → Nat → Nat} {R : Nat → Nat} {g : Nat → Int32} (hF : FI s T) (hP : Plan s T n W) (hI : SI s T n W j false G) (hC : RC s T n W j false G σ) (hm : m ≤ 12) (hm1 : ¬ (gN s 2 (W 0 j) = 2 ∧ 2 ≤ gN s 4 (W 0 j)) → m = 1) (hR : ∀ k, k < m → g k = nI (R k) ∧ R k < T)
    (hg : M_Se_gatherRow (k_sS σ 5 (σ.1 5 + 1)) (nI j) = some (0, gRow (k_sS σ 5 (σ.1 5 + 1)) g m)) :
    SI s T n W j false (tryG s W G j R m) ∧ ∃ σ', FrC (k_sS σ 5 (σ.1 5 + 1)) σ' ∧
    (tryV s W G j R m = 0 → M_Se_makeTry σ (nI j) = some (nI j, σ') ∧ RC s T n W j false (tryG s W G j R m) σ') ∧
    (tryV s W G j R m = 1 → M_Se_makeTry σ (nI j) = k_call (M_Mt_keep (k_sS σ' 6 (σ'.1 6 + 1))) (fun _ σ13 => some (nI j, σ13)) ∧ RC s T n W j false (tryG s W G j R m) σ' ∧ j + 1 = n) ∧
    (2 ≤ tryV s W G j R m → M_Se_makeTry σ (nI j) = some (nI (j + 1), σ') ∧ SI s T n W (j + 1) true (psG (tryG s W G j R m) j (tryV s W G j R m)) ∧ RC s T n W (j + 1) true (psG (tryG s W G j R m) j (tryV s W G j R m)) σ') := by
  have hn := hP.1
  have hj := hI.1
  have ht := P_tr hP hj
  obtain ⟨σ3, hσ3⟩ : ∃ σ3, σ3 = gRow (k_sS σ 5 (σ.1 5 + 1)) g m := ⟨_, rfl⟩
  rw [← hσ3] at hg
  have f3 : FrC (k_sS σ 5 (σ.1 5 + 1)) σ3 := by
    rw [hσ3]
    exact ⟨fun k hk => k_sSn hk, fun k x1 x2 x3 x4 x5 x6 x7 => gRow_n x4, rfl⟩
  have r17 : ∀ k, k < m → σ3.2.1 17 k = nI (R k) ∧ R k < T := fun k hk => by rw [hσ3, gRow_17]; exact hR k hk
  have r3 : σ3.1 3 = nI m := by rw [hσ3, gRow_3]
  have C3 : RC s T n W j false G σ3 := RC_cong (by rw [hσ3, gRow_s (by decide), k_sSn (by decide)]) (by rw [hσ3, gRow_s (by decide), k_sSn (by decide)]) (fun k hk h17 => by rw [hσ3, gRow_n h17]; rfl) hC
  have e18 : σ3.2.1 18 j = nI (W 0 j) := by
    by_cases z : j = 0
    · rw [z]; exact C3.1.2.2.1
    · exact (C3.1.2.2.2 j (by omega) hj).1
  have SIfit := SI_fit (R := R) (m := m) hF hP hI hm (fun k hk => (hR k hk).2)
  -- the fit
  obtain ⟨σ4, f4, run4, C4, B4⟩ : ∃ σ4, FrC σ3 σ4 ∧ (∀ k : Int32 → kS → Option (Int32 × kS), (k_call (M_F_isHole σ3 (nI (W 0 j))) fun v8 σ9 => if v8 = 0 then (k_call (M_Se_fitsLeafOrNode σ9 (nI j) (nI (W 0 j))) k) else (k_call (M_Se_fitsHole σ9 (nI j) (nI (W 0 j))) k)) = k (if fitV s W G j R m = 0 then 0 else 1) σ4) ∧ RC s T n W j false (tryG s W G j R m) σ4 ∧ (fitV s W G j R m ≠ 0 → gN s 2 (W 0 j) ≠ 2 → fitG s W G j R m 2 j < T ∧ σ4.2.1 15 j = nI (fitG s W G j R m 2 j) ∧ σ4.2.1 16 j = nI (alS s (fitG s W G j R m) j)) := by
    by_cases c : gN s 2 (W 0 j) = 2
    · have h8 := T_name8 hF ht c
      have hrun := Se_fitsHole (j := j) hF C3.1.1 ht c hm (fun k1 => hm1 (fun x => by omega)) r3 r17 C3.2.2.2.2.1
      have ev : fitV s W G j R m = holeV s (W 0 j) (G 3) (G 4) R m := by unfold fitV; rw [if_pos c]
      have eg : fitG s W G j R m = if holeV s (W 0 j) (G 3) (G 4) R m = 2 then gvG G (gN s 3 (W 0 j)) m j R else G := by unfold fitG; rw [if_pos c]
      refine ⟨if holeV s (W 0 j) (G 3) (G 4) R m = 2 then giveC σ3 (gN s 3 (W 0 j)) m j else σ3, ?_, fun k => ?_, ?_, fun _ x => absurd c x⟩
      · split
        · exact FrC_tr (FrC_tr (FrC_sA (by decide) _) (FrC_sA (by decide) _)) (FrC_sA (by decide) _)
        · exact FrC_rfl _
      · rw [k_call_s (C_isHole hF C3.1.1 ht), if_pos c, if_neg (by decide), k_call_s hrun, ev]
      · unfold tryG
        rw [ev, eg]
        by_cases d : holeV s (W 0 j) (G 3) (G 4) R m = 2
        · rw [if_pos d, if_pos d, if_neg (by omega)]
          exact RC_give hm h8 r17 C3
        · rw [if_neg d, if_neg d, ite_self]
          exact C3
    · have m1 := hm1 (fun x => c x.1)
      obtain ⟨q1, q2⟩ := r17 0 (by omega)
      have hrun := Se_fitsLN (j := j) hF C3.1.1 ht (show j < 70 by omega) q1 q2
      have ev : fitV s W G j R m = if gN s 2 (W 0 j) = gN s 2 (R 0) ∧ gN s 3 (W 0 j) = gN s 3 (R 0) then 1 else 0 := by unfold fitV; rw [if_neg c]
      have eg : fitG s W G j R m = gU G 2 j (R 0) := by unfold fitG; rw [if_neg c]
      by_cases d : gN s 2 (W 0 j) = gN s 2 (R 0) ∧ gN s 3 (W 0 j) = gN s 3 (R 0)
      · rw [if_pos d] at ev
        rw [if_pos d, if_pos d] at hrun
        refine ⟨besC s σ3 j (R 0), FrC_tr (FrC_sA (by decide) _) (FrC_sA (by decide) _), fun k => ?_, ?_, fun _ _ => ?_⟩
        · rw [k_call_s (C_isHole hF C3.1.1 ht), if_neg c, if_pos rfl, k_call_s hrun, ev, if_neg (by decide)]
        · unfold tryG
          rw [ev, eg, if_neg (by decide)]
          exact RC_bes hP hj C3
        · unfold alS
          rw [eg, gU_s]
          refine ⟨q2, ?_, ?_⟩
          · unfold besC; rw [k_sA2 (by decide), k_sAs, k_upd_s]
          · unfold besC; rw [k_sAs, k_upd_s]
      · rw [if_neg d] at ev
        rw [if_neg d, if_neg d] at hrun
        refine ⟨σ3, FrC_rfl _, fun k => ?_, ?_, fun x => absurd ev x⟩
        · rw [k_call_s (C_isHole hF C3.1.1 ht), if_neg c, if_pos rfl, k_call_s hrun, ev, if_pos rfl]
        · unfold tryG
          rw [ev, if_pos rfl]
          exact C3
  have mk : M_Se_makeTry σ (nI j) = M_Se_makeTry_50 σ4 (nI j) (nI (W 0 j)) (if fitV s W G j R m = 0 then 0 else 1) := by
    unfold M_Se_makeTry
    rw [k_set_r, k_call_s hg, k_call_s (Pl_tree (by omega) e18)]
    exact run4 (fun v σ => M_Se_makeTry_50 σ (nI j) (nI (W 0 j)) v)
  by_cases c : fitV s W G j R m = 0
  · have ev : tryV s W G j R m = 0 := by unfold tryV; rw [if_pos c]
    have eg : tryG s W G j R m = G := by unfold tryG; rw [if_pos c]
    rw [ev]
    refine ⟨by rw [eg]; exact hI, σ4, FrC_tr f3 f4, fun _ => ⟨?_, C4⟩, fun x => by omega, fun x => by omega⟩
    rw [mk, if_pos c]
    unfold M_Se_makeTry_50
    rw [if_pos rfl]
  · have ev : tryV s W G j R m = endV s W (leftS s W (fitG s W G j R m) j) j := by unfold tryV; rw [if_neg c]
    have eg : tryG s W G j R m = fitG s W G j R m := by unfold tryG; rw [if_neg c]
    rw [eg] at C4
    rw [eg]
    have hrun := Se_ends (L := leftS s W (fitG s W G j R m) j) hF C4.1.1 hP C4.1.2.2.1 C4.1.2.2.2 (fun a a0 ha hae => by
      have e1 : leftS s W (fitG s W G j R m) j a = dif (alS s (fitG s W G j R m) (W 1 a)) (fitG s W G j R m 0 a ||| fitG s W G j R m 1 a) := by unfold leftS; rw [if_neg (by omega)]
      rw [e1]
      exact ⟨C4.2.2.2.1 a a0 ha (Or.inr hae), by have := (SI_av hF hP SIfit a0 ha).2.1; have := dif_le (alS s (fitG s W G j R m) (W 1 a)) (fitG s W G j R m 0 a ||| fitG s W G j R m 1 a); omega⟩) hj (fun x => by
      have e1 : leftS s W (fitG s W G j R m) j (j + 100) = alS s (fitG s W G j R m) j := by unfold leftS; rw [if_pos rfl]
      obtain ⟨h1, h2, h3⟩ := B4 c (by omega)
      rw [e1]
      exact ⟨h3, by unfold alS; have := all_lt (T_cnt hF h1); omega⟩)
    have mk2 : M_Se_makeTry σ (nI j) = if endV s W (leftS s W (fitG s W G j R m) j) j = 0 then some (nI j, σ4) else if nI (j + 1) < nI n then some (nI (j + 1), k_sA σ4 14 (upd (σ4.2.1 14) (j + 1) (-1))) else k_call (M_Mt_keep (k_sS σ4 6 (σ4.1 6 + 1))) (fun _ σ13 => some (nI j, σ13)) := by
      rw [mk, if_neg c]
      unfold M_Se_makeTry_50
      rw [if_neg (by decide), k_call_s hrun]
      by_cases z : endV s W (leftS s W (fitG s W G j R m) j) j = 0
      · rw [if_pos z, if_pos rfl, if_pos z]
      · rw [if_neg z, if_neg (by decide), if_neg z]
        unfold M_Pl_slotCount
        rw [k_call_j, C4.1.2.1, nI_1]
        by_cases y : nI (j + 1) < nI n
        · rw [if_pos y, if_pos y]
          have hy : j + 1 < n := by
            rcases (show j + 1 < n ∨ n ≤ j + 1 by omega) with x | x
            · exact x
            · exact absurd y (nI_nlt x (by omega))
          rw [k_st_x rfl (by omega) (by omega)]
        · rw [if_neg y, if_neg y, k_set_r]
    obtain ⟨E1, E2, E3⟩ := end_spec (L := leftS s W (fitG s W G j R m) j) hF hP hj
    rw [ev]
    have hlt : 2 ≤ endV s W (leftS s W (fitG s W G j R m) j) j → j + 1 < n := by
      intro x
      rcases (show endV s W (leftS s W (fitG s W G j R m) j) j = 2 ∨ 3 ≤ endV s W (leftS s W (fitG s W G j R m) j) j by omega) with y | y
      · exact (E2 y).1
      · obtain ⟨a', _, _, _, _, _, q, _⟩ := E3 y
        exact q
    by_cases v2 : 2 ≤ endV s W (leftS s W (fitG s W G j R m) j) j
    · refine ⟨SIfit, k_sA σ4 14 (upd (σ4.2.1 14) (j + 1) (-1)), FrC_tr (FrC_tr f3 f4) (FrC_sA (by decide) _), fun x => by omega, fun x => by omega, fun _ => ⟨?_, SI_push hF hP SIfit (fun x => (B4 c x).1) v2, RC_push hF hP SIfit C4 (B4 c) v2⟩⟩
      rw [mk2, if_neg (by omega), if_pos (nI_lt (hlt v2) (by omega))]
    · refine ⟨SIfit, σ4, FrC_tr f3 f4, fun x => ⟨?_, C4⟩, fun x => ⟨?_, C4, E1 x⟩, fun x => by omega⟩
      · rw [mk2, if_pos x]
      · rw [mk2, if_neg (by omega), if_neg (nI_nlt (by have := E1 x; omega) (by omega))]
