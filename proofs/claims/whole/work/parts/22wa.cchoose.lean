/-! the class: release and choose -/
theorem nmI_j {x j : Nat} (hx : x < 2 ^ 31) (hj : j < 2 ^ 31) : nmI x = nI j ↔ x = j + 1 := by
  cases x with
  | zero =>
    constructor
    · intro e
      exact absurd (show (-1 : Int32) < 0 by decide) (by rw [show (-1 : Int32) = nI j from e]; exact nI_pos hj)
    · intro e; omega
  | succ x =>
    rw [show nmI (x + 1) = nI x from rfl, nI_eq (by omega) hj]
    omega
theorem C_rel36 {s σ : kS} {T j : Nat} {W G : Nat → Nat → Nat} (hF : FI s T) (hS : SC s σ) (hj : j < 70) (ht : W 0 j < T) (e18 : σ.2.1 18 j = nI (W 0 j)) (h21 : ∀ h, h < 8 → σ.2.1 21 h = nmI (G 3 h)) (h23 : ∀ h, h < 8 → σ.2.1 23 h = nmI (G 5 h) ∧ G 5 h < 2 ^ 31) :
    ∃ σ2, M_Se_release_36 σ (nI j) = some (0, σ2) ∧ σ2.1 = σ.1 ∧ σ2.2.2 = σ.2.2 ∧ (∀ k, k ≠ 21 → k ≠ 23 → σ2.2.1 k = σ.2.1 k) ∧ ∀ h, h < 8 → σ2.2.1 21 h = nmI (relG s W j G 3 h) ∧ σ2.2.1 23 h = nmI (relG s W j G 5 h) := by
  unfold M_Se_release_36
  rw [k_call_s (Pl_tree hj e18), k_call_s (C_isHole hF hS ht)]
  by_cases c : gN s 2 (W 0 j) = 2
  · have h8 := T_name8 hF ht c
    rw [if_pos c, if_neg (by decide), k_call_s (C_nameOf hF hS ht)]
    unfold M_Nm_takeBack
    obtain ⟨g1, g2⟩ := h23 (gN s 3 (W 0 j)) h8
    rw [k_ld_n h8 (by omega), g1]
    by_cases d : G 5 (gN s 3 (W 0 j)) = j + 1
    · rw [if_pos ((nmI_j g2 (by omega)).mpr d), k_st_x rfl h8 (by omega), k_st_x rfl h8 (by omega)]
      refine ⟨k_sA (k_sA σ 21 (upd (σ.2.1 21) (gN s 3 (W 0 j)) (-1))) 23 (upd (σ.2.1 23) (gN s 3 (W 0 j)) (-1)), rfl, rfl, rfl, fun k x y => by rw [k_sA2 y, k_sA2 x], fun h hh => ?_⟩
      rw [k_sAs, k_sA2 (by decide), k_sAs, relG_3, relG_5]
      by_cases e : h = gN s 3 (W 0 j)
      · rw [if_pos ⟨c, d, e⟩, if_pos ⟨c, d, e⟩, e, k_upd_s, k_upd_s]
        exact ⟨rfl, rfl⟩
      · rw [if_neg (fun x => e x.2.2), if_neg (fun x => e x.2.2), k_upd_n e, k_upd_n e]
        exact ⟨h21 h hh, (h23 h hh).1⟩
    · rw [if_neg (fun x => d ((nmI_j g2 (by omega)).mp x))]
      refine ⟨σ, rfl, rfl, rfl, fun _ _ _ => rfl, fun h hh => ?_⟩
      rw [relG_3, relG_5, if_neg (fun x => d x.2.1), if_neg (fun x => d x.2.1)]
      exact ⟨h21 h hh, (h23 h hh).1⟩
  · rw [if_neg c, if_pos rfl]
    refine ⟨σ, rfl, rfl, rfl, fun _ _ _ => rfl, fun h hh => ?_⟩
    rw [relG_3, relG_5, if_neg (fun x => c x.1), if_neg (fun x => c x.1)]
    exact ⟨h21 h hh, (h23 h hh).1⟩
theorem nI_ne1 {n : Nat} (h : n < 2 ^ 31) : ¬ nI n = -1 := fun e => nI_pos h (by rw [e]; decide)
theorem C_release {s σ : kS} {T n j : Nat} {W G : Nat → Nat → Nat} {fr : Bool} (hF : FI s T) (hP : Plan s T n W) (hI : SI s T n W j fr G) (hR : RC s T n W j fr G σ) (hj0 : 0 < j) :
    ∃ σ2, M_Se_release σ (nI j) = some (0, σ2) ∧ FrC σ σ2 ∧ (∀ k, k ≠ 16 → k ≠ 21 → k ≠ 23 → σ2.2.1 k = σ.2.1 k) ∧ σ2.2.1 16 = upd (σ.2.1 16) (W 1 j) (nI (avS s W G j)) ∧ ∀ h, h < 8 → σ2.2.1 21 h = nmI (relG s W j G 3 h) ∧ σ2.2.1 23 h = nmI (relG s W j G 5 h) := by
  have hn := hP.1
  have hj := hI.1
  obtain ⟨⟨⟨b1, b2, b3, b4, b5⟩, _⟩⟩ : _ ∧ True := ⟨hP.2.2.2.2 j hj0 hj, trivial⟩
  obtain ⟨a1, a2, a3⟩ := SI_av hF hP hI hj0 (Nat.le_refl j)
  have hS := hR.1.1
  obtain ⟨l1, l2, l3⟩ := hR.1.2.2.2 j hj0 hj
  have h16 := hR.2.2.2.1 j hj0 (Nat.le_refl j) (Or.inr (P_en hF hP hj).1)
  have nm : ∀ h, h < 8 → σ.2.1 23 h = nmI (G 5 h) ∧ G 5 h < 2 ^ 31 := fun h hh => ⟨hR.2.2.2.2.2 h hh, by have := (hI.2.2.2.2.2.2.1 h hh).2.1; omega⟩
  have n21 : ∀ h, h < 8 → σ.2.1 21 h = nmI (G 3 h) := fun h hh => (hR.2.2.2.2.1 h hh).1
  unfold M_Se_release
  rw [if_neg (show ¬ nI j ≤ 0 from nI_ge (a := 0) (by omega) (by omega)), k_ld_n (by omega) (by omega)]
  cases fr with
  | true =>
    rw [if_pos (hR.2.1.2.1 rfl)]
    obtain ⟨σ2, r, r1, r2, r3, r4⟩ := C_rel36 hF hS (show j < 70 by omega) b3 l1 n21 nm
    refine ⟨σ2, r, ⟨fun k _ => by rw [r1], fun k _ _ _ _ x21 _ x23 => r3 k x21 x23, r2⟩, fun k _ x21 x23 => r3 k x21 x23, ?_, r4⟩
    rw [r3 16 (by decide) (by decide), k_upd_id]
    rw [h16, hI.2.2.2.1 rfl, Nat.or_zero]
    rfl
  | false =>
    have h14 := hR.2.1.1 j hj0 (Nat.le_refl j) (fun _ => rfl)
    obtain ⟨q1, q2, q3⟩ := hI.2.2.1 j hj0 (Nat.le_refl j) (fun _ => rfl)
    rw [if_neg (by rw [h14]; exact nI_ne1 (by omega)), k_call_s (Pl_par (by omega) l2), k_ld_n (by omega) (by omega), k_ld_n (by omega) (by omega), k_st_x rfl (by omega) (by omega), h16, h14, nI_or, dif_back a2 q1 q2]
    obtain ⟨σ1, hσ1⟩ : ∃ σ1, σ1 = k_sA σ 16 (upd (σ.2.1 16) (W 1 j) (nI (avS s W G j))) := ⟨_, rfl⟩
    have f1 : FrC σ σ1 := by rw [hσ1]; exact FrC_sA (by decide) _
    have g1 : ∀ k, k ≠ 16 → σ1.2.1 k = σ.2.1 k := fun k hk => by rw [hσ1, k_sA2 hk]
    obtain ⟨σ2, r, r1, r2, r3, r4⟩ := C_rel36 (σ := σ1) (G := G) hF (SC_fr hS f1) (show j < 70 by omega) b3 (by rw [g1 18 (by decide)]; exact l1) (by rw [g1 21 (by decide)]; exact n21) (by rw [g1 23 (by decide)]; exact nm)
    rw [hσ1] at r
    refine ⟨σ2, r, FrC_tr f1 ⟨fun k _ => by rw [r1], fun k _ _ _ _ x21 _ x23 => r3 k x21 x23, r2⟩, fun k x16 x21 x23 => (r3 k x21 x23).trans (g1 k x16), ?_, r4⟩
    rw [r3 16 (by decide) (by decide), hσ1, k_sAs]
/-- release and choose at a slot that isn't the first: no choice is left, or c is taken -/
theorem C_choose {s σ : kS} {T n j : Nat} {W G : Nat → Nat → Nat} {fr : Bool} (hF : FI s T) (hP : Plan s T n W) (hI : SI s T n W (j + 1) fr G) (hR : RC s T n W (j + 1) fr G σ) :
    ∃ σ4 σ', M_Se_release σ (nI (j + 1)) = some (0, σ4) ∧ FrC σ σ' ∧
    match nextC s (W 0 (W 1 (j + 1))) (W 0 (j + 1)) (avS s W G (j + 1)) fr (G 1 (j + 1)) with
    | none => M_Se_choose σ4 (nI (j + 1)) = some (0, σ') ∧ RC s T n W j false (relG s W (j + 1) G) σ'
    | some c => M_Se_choose σ4 (nI (j + 1)) = some (1, σ') ∧ LaOK s (W 0 (j + 1)) (avS s W G (j + 1)) c ∧ RC s T n W (j + 1) false (gU (relG s W (j + 1) G) 1 (j + 1) c) σ' := by
  have hn := hP.1
  have hj := hI.1
  obtain ⟨⟨⟨b1, b2, b3, b4, b5⟩, ⟨g1, g2, g3⟩, nx, qn, _⟩⟩ : _ ∧ True := ⟨hP.2.2.2.2 (j + 1) (by omega) hj, trivial⟩
  obtain ⟨a1, a2, a3⟩ := SI_av hF hP hI (show 0 < j + 1 by omega) (Nat.le_refl _)
  have hpT := P_tr hP (show W 1 (j + 1) < n by omega)
  have hpn := W_node hF hP (show 0 < j + 1 by omega) hj
  obtain ⟨σ4, r, f4, e4, e16, e21⟩ := C_release hF hP hI hR (show 0 < j + 1 by omega)
  have hb4 := RC_fr hR.1 f4
  obtain ⟨l1, l2, l3⟩ := hb4.2.2.2 (j + 1) (by omega) hj
  have l0 : σ4.2.1 18 (W 1 (j + 1)) = nI (W 0 (W 1 (j + 1))) := by
    by_cases z : W 1 (j + 1) = 0
    · rw [z]; exact hb4.2.2.1
    · exact (hb4.2.2.2 (W 1 (j + 1)) (by omega) (by omega)).1
  have c16 : σ4.2.1 16 (W 1 (j + 1)) = nI (avS s W G (j + 1)) := by rw [e16, k_upd_s]
  have c14 : σ4.2.1 14 = σ.2.1 14 := e4 14 (by decide) (by decide) (by decide)
  have c15 : σ4.2.1 15 = σ.2.1 15 := e4 15 (by decide) (by decide) (by decide)
  have c22 : σ4.2.1 22 = σ.2.1 22 := e4 22 (by decide) (by decide) (by decide)
  have hla : fr = false → LaOK s (W 0 (j + 1)) (avS s W G (j + 1)) (G 1 (j + 1)) := fun e => hI.2.2.1 (j + 1) (by omega) (Nat.le_refl _) (fun _ => e)
  have nms : ∀ σ' : kS, σ'.2.1 21 = σ4.2.1 21 → σ'.2.1 22 = σ4.2.1 22 → NmC σ' T (relG s W (j + 1) G 3) (relG s W (j + 1) G 4) := by
    intro σ' x21 x22 h hh
    obtain ⟨m1, m2, m3⟩ := hR.2.2.2.2.1 h hh
    obtain ⟨p1, p2, p3, p4, p5⟩ := rel_names hI h hh
    refine ⟨by rw [x21]; exact (e21 h hh).1, p5, fun k hk => ⟨?_, p4 k hk⟩⟩
    rw [x22, c22, relG_k (by decide) (by decide)]
    refine (m3 k ?_).1
    rw [relG_3] at hk
    split at hk
    · omega
    · exact hk
  -- the choice that is read
  have ch : M_Se_choose σ4 (nI (j + 1)) = M_Se_choose_60 σ4 (nI (j + 1)) (oI (nextC s (W 0 (W 1 (j + 1))) (W 0 (j + 1)) (avS s W G (j + 1)) fr (G 1 (j + 1)))) := by
    unfold M_Se_choose
    rw [if_neg (fun e => by have := (nI_z (by omega)).mp e; omega), k_ld_n (by omega) (by omega), c14]
    cases fr with
    | true =>
      rw [if_pos (hR.2.1.2.1 rfl), k_call_s (Se_first (P := W 0 (W 1 (j + 1))) (l := G 1 (j + 1)) hF hb4.1 (show j + 1 < 70 by omega) (show W 1 (j + 1) < 70 by omega) b3 l1 l2 c16 a3)]
    | false =>
      have h14 := hR.2.1.1 (j + 1) (by omega) (Nat.le_refl _) (fun _ => rfl)
      have lt := (hla rfl).1
      rw [if_neg (by rw [h14]; exact nI_ne1 (by omega)), k_call_s (Se_later (P := W 0 (W 1 (j + 1))) hF hb4.1 (show j + 1 < 70 by omega) (show W 1 (j + 1) < 70 by omega) b3 hpT hpn l1 l0 l2 c16 a3 (by rw [c14]; exact h14) (hla rfl))]
  cases ho : nextC s (W 0 (W 1 (j + 1))) (W 0 (j + 1)) (avS s W G (j + 1)) fr (G 1 (j + 1)) with
  | none =>
    obtain ⟨σ', hσ'⟩ : ∃ σ', σ' = k_sA σ4 14 (upd (σ4.2.1 14) (j + 1) (-1)) := ⟨_, rfl⟩
    have f' : FrC σ4 σ' := by rw [hσ']; exact FrC_sA (by decide) _
    have d14 : σ'.2.1 14 = upd (σ.2.1 14) (j + 1) (-1) := by rw [hσ', k_sAs, c14]
    have dn : ∀ k, k ≠ 14 → σ'.2.1 k = σ4.2.1 k := fun k hk => by rw [hσ', k_sA2 hk]
    refine ⟨σ4, σ', r, FrC_tr f4 f', ?_, RC_fr hb4 f', ⟨fun i i0 hi _ => ?_, k_ft, k_ft, fun _ => ?_⟩, fun i hi hs => ?_, fun i i0 hi hx => ?_, ?_, fun h hh => ?_⟩
    · rw [ch, ho, hσ']
      unfold M_Se_choose_60
      rw [k_st_x rfl (by omega) (by omega)]
      exact if_pos rfl
    · rw [d14, k_upd_n (by omega), relG_k (by decide) (by decide)]
      exact hR.2.1.1 i i0 (by omega) (fun e => by omega)
    · rw [d14, k_upd_n (by omega)]
      cases fr with
      | true => rcases hR.2.1.2.2.1 rfl with x | x
                · omega
                · exact x
      | false => exact hR.2.1.2.2.2 rfl
    · rw [dn 15 (by decide), c15, relG_k (by decide) (by decide)]
      exact hR.2.2.1 i (by omega) hs
    · have ea : alS s (relG s W (j + 1) G) (W 1 i) = alS s G (W 1 i) := by unfold alS; rw [relG_k (by decide) (by decide)]
      obtain ⟨_, _, ni, _⟩ := hP.2.2.2.2 i i0 (by omega)
      rw [dn 16 (by decide), e16, relG_k (by decide) (by decide), relG_k (by decide) (by decide), ea]
      by_cases e : W 1 i = W 1 (j + 1)
      · obtain ⟨s1, s2⟩ := P_sib hF hP i0 (show i < j + 1 by omega) hj e
        have s3 : enS s W i = j + 1 := by omega
        have s4 := hI.2.2.2.2.2.1 i i0 s1 s2
        rw [s3] at s4
        rw [e, k_upd_s, ← s4]
        rfl
      · rw [k_upd_n e]
        refine hR.2.2.2.1 i i0 (by omega) ?_
        have hb := (hP.2.2.2.2 i i0 (by omega)).1.2.2.2.1
        rcases (show W 2 i + 1 < cnS s W (W 1 i) ∨ W 2 i + 1 = cnS s W (W 1 i) by omega) with z | z
        · right
          rcases hx with x | x
          · omega
          · rcases (show j + 1 < enS s W i ∨ enS s W i = j + 1 by omega) with y | y
            · exact y
            · rcases ni z with ⟨w1, w2, w3⟩ | ⟨w1, w2, w3⟩
              · rw [y] at w2; exact absurd w2.symm e
              · omega
        · exact Or.inl z
    · exact nms σ' (dn 21 (by decide)) (dn 22 (by decide))
    · rw [dn 23 (by decide)]; exact (e21 h hh).2
  | some c =>
    have hc := nextC_ok hla ho
    obtain ⟨σ', hσ'⟩ : ∃ σ', σ' = k_sA (k_sA σ4 14 (upd (σ4.2.1 14) (j + 1) (nI c))) 16 (upd (σ4.2.1 16) (W 1 (j + 1)) (nI (dif (avS s W G (j + 1)) c))) := ⟨_, rfl⟩
    have f' : FrC σ4 σ' := by rw [hσ']; exact FrC_tr (FrC_sA (by decide) _) (FrC_sA (by decide) _)
    have d14 : σ'.2.1 14 = upd (σ.2.1 14) (j + 1) (nI c) := by rw [hσ', k_sA2 (by decide), k_sAs, c14]
    have d16 : σ'.2.1 16 = upd (σ4.2.1 16) (W 1 (j + 1)) (nI (dif (avS s W G (j + 1)) c)) := by rw [hσ', k_sAs]
    have dn : ∀ k, k ≠ 14 → k ≠ 16 → σ'.2.1 k = σ4.2.1 k := fun k hk h2 => by rw [hσ', k_sA2 h2, k_sA2 hk]
    have ek : ∀ k i, k ≠ 1 → k ≠ 3 → k ≠ 5 → gU (relG s W (j + 1) G) 1 (j + 1) c k i = G k i := fun k i x1 x3 x5 => by rw [gU_k x1, relG_k x3 x5]
    have ei : ∀ i, i ≠ j + 1 → gU (relG s W (j + 1) G) 1 (j + 1) c 1 i = G 1 i := fun i hi => by rw [gU_i hi, relG_k (by decide) (by decide)]
    have ea : ∀ i, alS s (gU (relG s W (j + 1) G) 1 (j + 1) c) i = alS s G i := fun i => by unfold alS; rw [ek _ _ (by decide) (by decide) (by decide)]
    refine ⟨σ4, σ', r, FrC_tr f4 f', ?_, hc, RC_fr hb4 f', ⟨fun i i0 hi _ => ?_, k_ft, k_ft, fun _ => ?_⟩, fun i hi hs => ?_, fun i i0 hi hx => ?_, ?_, fun h hh => ?_⟩
    · rw [ch, ho, hσ']
      unfold M_Se_choose_60
      show k_st σ4 14 70 _ (nI c) _ = _
      have hc1 := hc.1
      have l2' : (k_sA σ4 14 (upd (σ4.2.1 14) (j + 1) (nI c))).2.1 19 (j + 1) = nI (W 1 (j + 1)) := by rw [k_sA2 (by decide)]; exact l2
      rw [k_st_x rfl (by omega) (by omega), if_neg (show ¬ oI (some c) = -1 from nI_ne1 (by omega)), k_call_s (Pl_par (by omega) l2'), k_ld_n (by omega) (by omega), k_sA2 (by decide), c16, k_st_x rfl (by omega) (by omega), show oI (some c) = nI c from rfl, nI_dif, k_sA2 (by decide)]
    · rw [d14]
      by_cases e : i = j + 1
      · rw [e, k_upd_s, gU_s]
      · rw [k_upd_n e, ei i e]
        exact hR.2.1.1 i i0 hi (fun x => absurd x e)
    · rw [d14, k_upd_n (by omega)]
      cases fr with
      | true => rcases hR.2.1.2.2.1 rfl with x | x
                · omega
                · exact x
      | false => exact hR.2.1.2.2.2 rfl
    · rw [dn 15 (by decide) (by decide), c15, ek _ _ (by decide) (by decide) (by decide)]
      exact hR.2.2.1 i hi hs
    · rw [d16, e16, ea, ek _ _ (by decide) (by decide) (by decide)]
      by_cases e : i = j + 1
      · rw [e, k_upd_s, gU_s]
        unfold avS
        rw [dif_dif a2]
      · have hne : W 1 i ≠ W 1 (j + 1) := fun x => by
          obtain ⟨s1, s2⟩ := P_sib hF hP i0 (show i < j + 1 by omega) hj x
          omega
        rw [k_upd_n hne, k_upd_n hne, ei i e]
        exact hR.2.2.2.1 i i0 hi hx
    · have e3 : gU (relG s W (j + 1) G) 1 (j + 1) c 3 = relG s W (j + 1) G 3 := funext (fun i => gU_k (by decide))
      have e4' : gU (relG s W (j + 1) G) 1 (j + 1) c 4 = relG s W (j + 1) G 4 := funext (fun i => gU_k (by decide))
      rw [e3, e4']
      exact nms σ' (dn 21 (by decide) (by decide)) (dn 22 (by decide) (by decide))
    · rw [dn 23 (by decide) (by decide), gU_k (by decide)]; exact (e21 h hh).2
