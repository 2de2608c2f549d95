/-! the model: does a row fit -/
theorem Md_test1 {s σ : kS} {T t i r m : Nat} (hF : FI s T) (hM : SMd s σ) (ht : t < T) (hi : i < gN s 11 t) (hm : m ≤ 12) (hr : m = 1 → σ.2.1 57 0 = nI r ∧ r < T) :
    M_Md_testHolds σ (nI t) (nI i) (nI m) = some (tst1 s (gN s 12 (3 * t + i)) (s.2.1 13 (3 * t + i)) r m, σ) := by
  have hT := hF.1
  have h3 := T_tests hF ht
  obtain ⟨t1, t2⟩ := T_tk hF ht hi
  obtain ⟨k, hk⟩ : ∃ k, k = gN s 12 (3 * t + i) := ⟨_, rfl⟩
  obtain ⟨v, hv⟩ : ∃ v, v = s.2.1 13 (3 * t + i) := ⟨_, rfl⟩
  unfold M_Md_testHolds tst1
  rw [show 3 * nI t + nI i = nI (3 * t + i) by rw [show (3 : Int32) = nI 3 from rfl, pk_mul, nI_add], k_ld_n (by omega) (by omega), k_ld_x (x := 0) (i := 0) rfl (by omega) (by omega), k_ld_n (by omega) (by omega), hM.2.2.1, hM.2.2.2, t1, ← hk, ← hv]
  rw [← hk] at t2
  have nk : ∀ q : Nat, q ≤ 4 → k ≠ q → ¬ nI k = nI q := fun q hq hne e => hne ((nI_eq (by omega) (by omega)).mp e)
  by_cases m1 : m = 1
  · obtain ⟨r1, r2⟩ := hr m1
    have e1 : nI m = 1 := by rw [m1]; rfl
    rw [r1]
    by_cases k0 : k = 0
    · rw [if_pos (show nI k = 0 by rw [k0]; rfl), if_pos e1, if_neg (show ¬ k = 2 by omega), if_pos m1, if_pos k0, k_ld_n (by omega) (by omega), k_ld_n (by omega) (by omega), hM.1.1, hM.1.2.1]
      by_cases c : gN s 2 r = 0
      · rw [if_pos ((F_s0 hF r2).mpr c), if_pos c]
        by_cases d : s.2.1 3 r ≤ v
        · rw [if_pos d, if_pos d]
        · rw [if_neg d, if_neg d]
      · rw [if_neg (fun e => c ((F_s0 hF r2).mp e)), if_neg c]
    · rw [if_neg (show ¬ nI k = 0 from nk 0 (by omega) k0)]
      by_cases k1 : k = 1
      · rw [if_pos (show nI k = 1 by rw [k1]; rfl), if_pos e1, if_neg (show ¬ k = 2 by omega), if_pos m1, if_neg k0, if_pos k1, k_ld_n (by omega) (by omega), k_ld_n (by omega) (by omega), hM.1.1, hM.1.2.1]
        by_cases c : gN s 2 r = 0
        · rw [if_pos ((F_s0 hF r2).mpr c), if_pos c]
          by_cases d : v ≤ s.2.1 3 r
          · rw [if_pos d, if_pos d]
          · rw [if_neg d, if_neg d]
        · rw [if_neg (fun e => c ((F_s0 hF r2).mp e)), if_neg c]
      · rw [if_neg (show ¬ nI k = 1 from nk 1 (by omega) k1)]
        by_cases k2 : k = 2
        · rw [if_pos (show nI k = 2 by rw [k2]; rfl), if_pos k2]
          by_cases c : nI m < v
          · rw [if_pos c, if_pos c]
          · rw [if_neg c, if_neg c]
        · rw [if_neg (show ¬ nI k = 2 from nk 2 (by omega) k2), if_neg k2, if_pos m1, if_neg k0, if_neg k1]
          by_cases k3 : k = 3
          · rw [if_pos (show nI k = 3 by rw [k3]; rfl), if_pos e1, if_pos k3, k_ld_n (by omega) (by omega), k_ld_n (by omega) (by omega), hM.1.1, hM.1.2.1]
            by_cases c : gN s 2 r = 1
            · rw [if_pos ((F_s1 hF r2).mpr c), if_pos c]
              by_cases d : s.2.1 3 r = v
              · rw [if_pos d, if_pos d]
              · rw [if_neg d, if_neg d]
            · rw [if_neg (fun e => c ((F_s1 hF r2).mp e)), if_neg c]
          · rw [if_neg (show ¬ nI k = 3 from nk 3 (by omega) k3), if_pos e1, if_neg k3, k_ld_n (by omega) (by omega), hM.1.1]
            by_cases c : gN s 2 r = 0
            · rw [if_pos ((F_s0 hF r2).mpr c), if_pos c]
            · rw [if_neg (fun e => c ((F_s0 hF r2).mp e)), if_neg c]
  · have e1 : ¬ nI m = 1 := fun e => m1 ((nI_eq (b := 1) (by omega) (by omega)).mp e)
    by_cases k2 : k = 2
    · rw [if_neg (show ¬ nI k = 0 from nk 0 (by omega) (by omega)), if_neg (show ¬ nI k = 1 from nk 1 (by omega) (by omega)), if_pos (show nI k = 2 by rw [k2]; rfl), if_pos k2]
      by_cases c : nI m < v
      · rw [if_pos c, if_pos c]
      · rw [if_neg c, if_neg c]
    · rw [if_neg k2, if_neg m1, if_neg e1, if_neg e1, if_neg e1, if_neg e1]
      rw [if_neg (show ¬ nI k = 2 from nk 2 (by omega) k2), ite_self, ite_self, ite_self]
theorem MdH_M {s σ : kS} {T : Nat} (hF : FI s T) (hM : SMd s σ) : MdH s σ T T :=
  ⟨hF.1, fun t ht _ => ⟨hF.2.2.2 t ht, fun k hk => by have := ((hF.2.2.2 t ht).2.2.1 k hk).2.1; omega⟩, hM.1.1, hM.1.2.1, hM.1.2.2.2.1, fun t _ _ k _ => by rw [hM.1.2.2.2.2]⟩
theorem SMd_scr {s σ σ' : kS} (h : SMd s σ) (g : Scr σ σ') : SMd s σ' := by
  have e : ∀ k, k < 54 → σ'.2.1 k = σ.2.1 k := fun k hk => g.2.2 k (by omega) (by omega) (by omega)
  obtain ⟨⟨a1, a2, a3, a4, a5⟩, b1, b2, b3⟩ := h
  refine ⟨⟨?_, ?_, ?_, ?_, ?_⟩, ?_, ?_, ?_⟩
  all_goals (rw [e _ (by decide)]; assumption)
theorem Md_same92 {s : kS} {T h m : Nat} {V R : Nat → Nat} (hF : FI s T) (hh : h < 8) (hm : m ≤ 12) (x1 : Int32) : ∀ n k f (σ : kS), k + n = m → SMd s σ → (∀ k, k < m → σ.2.1 57 k = nI (R k) ∧ R k < T) → (∀ k, k < m → σ.2.1 43 (12 * h + k) = nI (V (12 * h + k)) ∧ V (12 * h + k) < T) →
    ∃ σ', Scr σ σ' ∧ M_Md_binds_92 (f + n + 1) σ x1 (nI m) (nI h) (nI k) = some (sameN s V R h n k, σ') := by
  intro n
  induction n with
  | zero =>
    intro k f σ hk hM hR hV
    refine ⟨σ, Scr_rfl σ, ?_⟩
    show M_Md_binds_92_b (M_Md_binds_92 (f + 0)) σ _ _ _ _ = _
    unfold M_Md_binds_92_b
    rw [if_pos (nI_le (by omega) (by omega))]
    rfl
  | succ n ih =>
    intro k f σ hk hM hR hV
    obtain ⟨r1, r2⟩ := hR k (by omega)
    obtain ⟨v1, v2⟩ := hV k (by omega)
    obtain ⟨σ1, g1, g2⟩ := Md_compare_g (MdH_M hF hM) v2 (by omega) r2 (by omega)
    have e57 : σ1.2.1 57 = σ.2.1 57 := g1.2.2 57 (by decide) (by decide) (by decide)
    have e43 : σ1.2.1 43 = σ.2.1 43 := g1.2.2 43 (by decide) (by decide) (by decide)
    have es : sameN s V R h (n + 1) k = if cmpN s 21 (V (12 * h + k)) (R k) = 0 then sameN s V R h n (k + 1) else 0 := rfl
    rw [es]
    show ∃ σ', Scr σ σ' ∧ M_Md_binds_92_b (M_Md_binds_92 (f + (n + 1))) σ _ _ _ _ = _
    unfold M_Md_binds_92_b
    rw [if_neg (nI_ge (by omega) (by omega)), k_12i, k_ld_n (by omega) (by omega), k_ld_n (by omega) (by omega), r1, v1, k_call_s g2]
    by_cases c : cmpN s 21 (V (12 * h + k)) (R k) = 0
    · obtain ⟨σ2, q1, q2⟩ := ih (k + 1) f σ1 (by omega) (SMd_scr hM g1) (by rw [e57]; exact hR) (by rw [e43]; exact hV)
      refine ⟨σ2, Scr_tr g1 q1, ?_⟩
      rw [if_pos c, if_pos c, k_let_r, nI_1]
      exact q2
    · refine ⟨σ1, g1, ?_⟩
      rw [if_neg c, if_neg c]
/-- the model gives the name h the row of m trees, as its bound number b -/
def giveM (σ : kS) (h m b : Nat) (f : Nat → Int32) : kS := k_sS (k_sA (k_sA (k_sA σ 42 (upd (σ.2.1 42) h (nI m))) 43 f) 44 (upd (σ.2.1 44) b (nI h))) 15 (nI (b + 1))
theorem Md_give144 {σ : kS} {h m b : Nat} {R : Nat → Nat} (hh : h < 8) (hm : m ≤ 12) (hb : b < 8) (x1 : Int32) (h15 : σ.1 15 = nI b) (hR : ∀ k, k < m → σ.2.1 57 k = nI (R k)) : ∀ n k f (F : Nat → Int32), k + n = m → (∀ i, F i = if 12 * h ≤ i ∧ i < 12 * h + k then nI (R (i - 12 * h)) else σ.2.1 43 i) →
    ∃ F', (∀ i, F' i = if 12 * h ≤ i ∧ i < 12 * h + m then nI (R (i - 12 * h)) else σ.2.1 43 i) ∧ M_Md_binds_144 (f + n + 1) (k_sA (k_sA σ 42 (upd (σ.2.1 42) h (nI m))) 43 F) x1 (nI m) (nI h) (nI k) = some (1, giveM σ h m b F') := by
  intro n
  induction n with
  | zero =>
    intro k f F hk hF
    rw [show k = m by omega] at hF ⊢
    refine ⟨F, hF, ?_⟩
    show M_Md_binds_144_b (M_Md_binds_144 (f + 0)) _ _ _ _ _ = _
    unfold M_Md_binds_144_b
    rw [if_pos (nI_le (Nat.le_refl _) (by omega)), k_st_x (show (k_sA (k_sA σ 42 (upd (σ.2.1 42) h (nI m))) 43 F).1 15 = nI b from h15) (by omega) (by omega), k_set_r]
    unfold giveM
    rw [k_sA2 (show 44 ≠ 43 by decide), k_sA2 (show 44 ≠ 42 by decide), k_sA1, k_sA1, k_sA1, h15, nI_1]
  | succ n ih =>
    intro k f F hk hF
    have e57 : (k_sA (k_sA σ 42 (upd (σ.2.1 42) h (nI m))) 43 F).2.1 57 k = nI (R k) := by rw [k_sA2 (by decide), k_sA2 (by decide)]; exact hR k (by omega)
    obtain ⟨F', q1, q2⟩ := ih (k + 1) f (upd F (12 * h + k) (nI (R k))) (by omega) (fun i => by
      by_cases e : i = 12 * h + k
      · rw [e, k_upd_s, if_pos ⟨by omega, by omega⟩, Nat.add_sub_cancel_left]
      · rw [k_upd_n e, hF i]
        by_cases c : 12 * h ≤ i ∧ i < 12 * h + k
        · rw [if_pos c, if_pos ⟨c.1, by omega⟩]
        · rw [if_neg c, if_neg (fun x => by omega)])
    refine ⟨F', q1, ?_⟩
    show M_Md_binds_144_b (M_Md_binds_144 (f + (n + 1))) _ _ _ _ _ = _
    unfold M_Md_binds_144_b
    rw [if_neg (nI_ge (by omega) (by omega)), k_12i, k_ld_n (by omega) (by omega), e57, k_st_x rfl (by omega) (by omega), k_let_r, nI_1, k_sAs, sA_sA]
    exact q2
def NmM (σ : kS) (T : Nat) (N V : Nat → Nat) : Prop := ∀ h, h < 8 → σ.2.1 42 h = nmI (N h) ∧ N h ≤ 13 ∧ ∀ k, k + 1 < N h → σ.2.1 43 (12 * h + k) = nI (V (12 * h + k)) ∧ V (12 * h + k) < T
theorem Md_binds33 {s σ : kS} {T t m b : Nat} {N V R : Nat → Nat} (hF : FI s T) (hM : SMd s σ) (ht : t < T) (h2 : gN s 2 t = 2) (hm : m ≤ 12) (hR : ∀ k, k < m → σ.2.1 57 k = nI (R k) ∧ R k < T) (hN : NmM σ T N V) (h15 : σ.1 15 = nI b) (hb : N (gN s 3 t) = 0 → b < 8) :
    ∀ n i f, i + n = gN s 11 t → ∃ q σ', q = (if tstA s t (R 0) m n i = 0 then 0 else if N (gN s 3 t) = 0 then 2 else if N (gN s 3 t) = m + 1 then (if sameN s V R (gN s 3 t) m 0 = 0 then 0 else 1) else 0) ∧ M_Md_binds_33 (f + n + 1) σ (nI t) (nI m) (nI i) = some (if q = 0 then 0 else 1, σ') ∧ (q ≠ 2 → Scr σ σ') ∧ (q = 2 → ∃ F, (∀ i, F i = if 12 * gN s 3 t ≤ i ∧ i < 12 * gN s 3 t + m then nI (R (i - 12 * gN s 3 t)) else σ.2.1 43 i) ∧ σ' = giveM σ (gN s 3 t) m b F) := by
  have hT := hF.1
  have h3 := T_tests hF ht
  have h8 := T_name8 hF ht h2
  obtain ⟨n1, n2, n3⟩ := hN (gN s 3 t) h8
  intro n
  induction n with
  | zero =>
    intro i f hi
    show ∃ q σ', q = (if (1 : Int32) = 0 then 0 else _) ∧ M_Md_binds_33_b (M_Md_binds_33 (f + 0)) σ _ _ _ = _ ∧ _
    unfold M_Md_binds_33_b
    rw [if_neg (by decide), k_ld_n (by omega) (by omega), hM.2.1, T_e11 hF ht, if_pos (nI_le (by omega) (by omega)), k_ld_n (by omega) (by omega), hM.1.2.1, T_e3 hF ht, k_ld_n h8 (by omega), n1]
    by_cases d : N (gN s 3 t) = 0
    · obtain ⟨F', q1, q2⟩ := Md_give144 (σ := σ) (R := R) h8 hm (hb d) (nI t) h15 (fun k hk => (hR k hk).1) m 0 (k_fu - m - 1) (σ.2.1 43) (by omega) (fun i => by rw [if_neg (fun x => by omega)])
      rw [show k_fu - m - 1 + m + 1 = k_fu by unfold k_fu; omega] at q2
      have e43 : k_sA (k_sA σ 42 (upd (σ.2.1 42) (gN s 3 t) (nI m))) 43 (σ.2.1 43) = k_sA σ 42 (upd (σ.2.1 42) (gN s 3 t) (nI m)) := by
        have := sA_id (k_sA σ 42 (upd (σ.2.1 42) (gN s 3 t) (nI m))) 43
        rw [k_sA2 (by decide)] at this
        exact this
      rw [e43] at q2
      refine ⟨2, giveM σ (gN s 3 t) m b F', by rw [if_pos d], ?_, fun x => absurd rfl x, fun _ => ⟨F', q1, rfl⟩⟩
      rw [d, if_pos (show nmI 0 < 0 by decide), k_st_x rfl h8 (by omega), if_neg (by decide)]
      exact q2
    · obtain ⟨x, hx⟩ : ∃ x, N (gN s 3 t) = x + 1 := ⟨N (gN s 3 t) - 1, by omega⟩
      rw [hx] at n1 n2 n3 d
      rw [hx, if_neg d, if_neg (show ¬ nmI (x + 1) < 0 from nI_pos (by omega)), k_ld_n h8 (by omega), n1]
      by_cases e : x + 1 = m + 1
      · obtain ⟨σ', g1, g2⟩ := Md_same92 (s := s) (T := T) (V := V) (R := R) hF h8 hm (nI t) m 0 (k_fu - m - 1) σ (by omega) hM hR (fun k hk => n3 k (by omega))
        rw [show k_fu - m - 1 + m + 1 = k_fu by unfold k_fu; omega] at g2
        rw [if_pos e, if_pos (show nmI (x + 1) = nI m by rw [e]; rfl)]
        rcases sameN_01 s V R (gN s 3 t) m 0 with g | g
        · refine ⟨0, σ', by rw [if_pos g], ?_, fun _ => g1, fun y => by omega⟩
          rw [g] at g2
          rw [if_pos rfl]; exact g2
        · refine ⟨1, σ', by rw [if_neg (by rw [g]; decide)], ?_, fun _ => g1, fun y => by omega⟩
          rw [g] at g2
          rw [if_neg (by decide)]; exact g2
      · rw [if_neg e, if_neg (show ¬ nmI (x + 1) = nI m from fun y => e (by have := (nI_eq (by omega) (by omega)).mp (show nI x = nI m from y); omega))]
        exact ⟨0, σ, rfl, rfl, fun _ => Scr_rfl σ, fun y => by omega⟩
  | succ n ih =>
    intro i f hi
    have hr : m = 1 → σ.2.1 57 0 = nI (R 0) ∧ R 0 < T := fun e => hR 0 (by omega)
    have e : tstA s t (R 0) m (n + 1) i = if tst1 s (gN s 12 (3 * t + i)) (s.2.1 13 (3 * t + i)) (R 0) m = 0 then 0 else tstA s t (R 0) m n (i + 1) := rfl
    rw [e]
    show ∃ q σ', _ ∧ M_Md_binds_33_b (M_Md_binds_33 (f + (n + 1))) σ _ _ _ = _ ∧ _
    unfold M_Md_binds_33_b
    rw [k_ld_n (by omega) (by omega), hM.2.1, T_e11 hF ht, if_neg (nI_ge (by omega) (by omega)), k_call_s (Md_test1 hF hM ht (by omega) hm hr)]
    by_cases c : tst1 s (gN s 12 (3 * t + i)) (s.2.1 13 (3 * t + i)) (R 0) m = 0
    · rw [if_pos c, if_pos c, if_pos rfl]
      exact ⟨0, σ, rfl, rfl, fun _ => Scr_rfl σ, fun y => by omega⟩
    · rw [if_neg c, if_neg c, k_let_r, nI_1]
      exact ih (i + 1) f (by omega)
theorem Md_binds {s σ : kS} {T t m b : Nat} {N V R : Nat → Nat} (hF : FI s T) (hM : SMd s σ) (ht : t < T) (h2 : gN s 2 t = 2) (hm : m ≤ 12) (hk1 : gN s 4 t = 1 → m = 1) (hR : ∀ k, k < m → σ.2.1 57 k = nI (R k) ∧ R k < T) (hN : NmM σ T N V) (h15 : σ.1 15 = nI b) (hb : N (gN s 3 t) = 0 → b < 8) :
    ∃ σ', M_Md_binds σ (nI t) (nI m) = some (if holeV s t N V R m = 0 then 0 else 1, σ') ∧ (holeV s t N V R m ≠ 2 → Scr σ σ') ∧ (holeV s t N V R m = 2 → ∃ F, (∀ i, F i = if 12 * gN s 3 t ≤ i ∧ i < 12 * gN s 3 t + m then nI (R (i - 12 * gN s 3 t)) else σ.2.1 43 i) ∧ σ' = giveM σ (gN s 3 t) m b F) := by
  have hT := hF.1
  have h3 := T_tests hF ht
  obtain ⟨q, σ', q1, q2, q3, q4⟩ := Md_binds33 hF hM ht h2 hm hR hN h15 hb (gN s 11 t) 0 (k_fu - gN s 11 t - 1) (by omega)
  rw [show k_fu - gN s 11 t - 1 + gN s 11 t + 1 = k_fu by unfold k_fu; omega] at q2
  unfold M_Md_binds
  rw [k_ld_n (by omega) (by omega), hM.1.2.2.1]
  by_cases k1 : gN s 4 t = 1
  · have m1 := hk1 k1
    obtain ⟨r1, r2⟩ := hR 0 (by omega)
    rw [if_pos ((F_k1 hF ht).mpr k1), if_pos (show nI m = 1 by rw [m1]; rfl), k_ld_x (x := 0) (i := 0) rfl (by omega) (by omega), r1, k_ld_n (by omega) (by omega), hM.1.1]
    by_cases l : gN s 2 (R 0) = 0
    · have hv : holeV s t N V R m = q := by unfold holeV; rw [if_neg (fun x => x.2 l), q1]
      rw [if_pos ((F_s0 hF r2).mpr l), hv]
      exact ⟨σ', q2, q3, q4⟩
    · have hv : holeV s t N V R m = 0 := by unfold holeV; rw [if_pos ⟨k1, l⟩]
      rw [if_neg (fun e => l ((F_s0 hF r2).mp e)), hv]
      exact ⟨σ, rfl, fun _ => Scr_rfl σ, fun y => by omega⟩
  · have hv : holeV s t N V R m = q := by unfold holeV; rw [if_neg (fun x => k1 x.1), q1]
    rw [if_neg (fun e => k1 ((F_k1 hF ht).mp e)), hv]
    exact ⟨σ', q2, q3, q4⟩
