/-! a match is kept -/
/-- both keep the same -/
def KR (σc σm : kS) : Prop := ∃ n : Nat, n ≤ 20 ∧ σc.1 9 = nI n ∧ σm.1 14 = nI n ∧ ∀ m, m < n → ∀ h, h < 8 → (σc.2.1 24 (8 * m + h) = σm.2.1 40 (8 * m + h)) ∧ (σc.2.1 24 (8 * m + h) = -1 ∨ ∃ c : Nat, c ≤ 12 ∧ σc.2.1 24 (8 * m + h) = nI c ∧ ∀ k, k < c → σc.2.1 25 (96 * m + 12 * h + k) = σm.2.1 41 (96 * m + 12 * h + k))
/-- the model has kept the lengths of A names, the rows of B names and C of the next -/
def KM (σ σ' : kS) (N : Nat → Nat) (n A B C : Nat) : Prop := σ'.1 = σ.1 ∧ σ'.2.2 = σ.2.2 ∧ (∀ k, k ≠ 40 → k ≠ 41 → σ'.2.1 k = σ.2.1 k) ∧ (∀ i, i < 8 * n → σ'.2.1 40 i = σ.2.1 40 i) ∧ (∀ h, h < A → σ'.2.1 40 (8 * n + h) = σ.2.1 42 h) ∧ (∀ i, i < 96 * n → σ'.2.1 41 i = σ.2.1 41 i) ∧ (∀ h k, h < B ∨ (h = B ∧ k < C) → k + 1 < N h → σ'.2.1 41 (96 * n + 12 * h + k) = σ.2.1 43 (12 * h + k))
theorem Md_keep50 {σ : kS} {T n h : Nat} {N V : Nat → Nat} (hN : NmM σ T N V) (hn : n < 20) (h14 : σ.1 14 = nI n) (hh : h < 8) (rec22 : kS → Int32 → Option (Int32 × kS)) : ∀ m k f (σ' : kS), k + m + 1 = N h ∨ (N h = 0 ∧ k = 0 ∧ m = 0) → KM σ σ' N n (h + 1) h k → ∃ σ'', M_Md_keepMatch_50 rec22 (f + m + 1) σ' (nI h) (nI k) = rec22 σ'' (nI (h + 1)) ∧ KM σ σ'' N n (h + 1) (h + 1) 0 := by
  obtain ⟨n1, n2, n3⟩ := hN h hh
  intro m
  induction m with
  | zero =>
    intro k f σ' hk hK
    refine ⟨σ', ?_, ?_⟩
    · show M_Md_keepMatch_50_b rec22 (M_Md_keepMatch_50 rec22 (f + 0)) σ' _ _ = _
      unfold M_Md_keepMatch_50_b
      rw [k_ld_n hh (by omega), hK.2.2.1 42 (by decide) (by decide), n1, k_let_r, nI_1]
      rw [if_pos]
      rcases hk with x | ⟨x, y, _⟩
      · rw [← x]
        exact nI_le (Nat.le_refl _) (by omega)
      · rw [x, y]; decide
    · obtain ⟨k1, k2, k3, k4, k5, k6, k7⟩ := hK
      refine ⟨k1, k2, k3, k4, k5, k6, fun a i hx hi => ?_⟩
      rcases hx with x | ⟨x, y⟩
      · by_cases e : a = h
        · refine k7 a i (Or.inr ⟨e, ?_⟩) hi
          rw [e] at hi
          omega
        · exact k7 a i (Or.inl (by omega)) hi
      · omega
  | succ m ih =>
    intro k f σ' hk hK
    have hk' : k + (m + 1) + 1 = N h := by omega
    obtain ⟨k1, k2, k3, k4, k5, k6, k7⟩ := hK
    have e14 : σ'.1 14 = nI n := by rw [k1]; exact h14
    have ex : 96 * nI n + 12 * nI h + nI k = nI (96 * n + 12 * h + k) := by rw [show (96 : Int32) = nI 96 from rfl, show (12 : Int32) = nI 12 from rfl, pk_mul, pk_mul, nI_add, nI_add]
    obtain ⟨σ1, hσ1⟩ : ∃ σ1, σ1 = k_sA σ' 41 (upd (σ'.2.1 41) (96 * n + 12 * h + k) (σ.2.1 43 (12 * h + k))) := ⟨_, rfl⟩
    have d41 : σ1.2.1 41 = upd (σ'.2.1 41) (96 * n + 12 * h + k) (σ.2.1 43 (12 * h + k)) := by rw [hσ1, k_sAs]
    have dn : ∀ q, q ≠ 41 → σ1.2.1 q = σ'.2.1 q := fun q hq => by rw [hσ1, k_sA2 hq]
    obtain ⟨σ'', r1, r2⟩ := ih (k + 1) f σ1 (Or.inl (by omega)) ⟨by rw [hσ1]; exact k1, by rw [hσ1]; exact k2, fun q q1 q2 => by rw [dn q q2]; exact k3 q q1 q2, fun i hi => by rw [dn 40 (by decide)]; exact k4 i hi, fun a ha => by rw [dn 40 (by decide)]; exact k5 a ha, fun i hi => by rw [d41, k_upd_n (by omega)]; exact k6 i hi, fun a i hx hi => by
      rw [d41]
      by_cases e : a = h ∧ i = k
      · rw [e.1, e.2, k_upd_s]
      · have : N a ≤ 13 ∨ 8 ≤ a := by
          by_cases a8 : a < 8
          · exact Or.inl (hN a a8).2.1
          · exact Or.inr (by omega)
        rw [k_upd_n (by omega)]
        exact k7 a i (by omega) hi⟩
    refine ⟨σ'', ?_, r2⟩
    rw [← r1]
    show M_Md_keepMatch_50_b rec22 (M_Md_keepMatch_50 rec22 (f + (m + 1))) σ' _ _ = _
    unfold M_Md_keepMatch_50_b
    rw [k_ld_n hh (by omega), k3 42 (by decide) (by decide), n1, if_neg (by rw [← hk']; exact nI_ge (by omega) (by omega)), k_12i, k_ld_n (by omega) (by omega), k3 43 (by decide) (by decide), e14, k_st_x ex (by omega) (by omega), k_let_r, nI_1, hσ1]
    rfl
theorem Md_keep22 {σ : kS} {T n : Nat} {N V : Nat → Nat} (hN : NmM σ T N V) (hn : n < 20) (h14 : σ.1 14 = nI n) : ∀ m h f (σ' : kS), h + m = 8 → KM σ σ' N n h h 0 → ∃ σ'', M_Md_keepMatch_22 (f + m + 1) σ' (nI h) = some (0, k_sS σ'' 14 (nI (n + 1))) ∧ KM σ σ'' N n 8 8 0 := by
  intro m
  induction m with
  | zero =>
    intro h f σ' hh hK
    rw [show h = 8 by omega] at hK ⊢
    refine ⟨σ', ?_, hK⟩
    show M_Md_keepMatch_22_b (M_Md_keepMatch_22 (f + 0)) σ' _ = _
    unfold M_Md_keepMatch_22_b
    rw [if_pos (show (8 : Int32) ≤ nI 8 by decide), k_set_r, hK.1, h14, nI_1]
  | succ m ih =>
    intro h f σ' hh hK
    obtain ⟨n1, n2, n3⟩ := hN h (by omega)
    obtain ⟨k1, k2, k3, k4, k5, k6, k7⟩ := hK
    obtain ⟨σ1, hσ1⟩ : ∃ σ1, σ1 = k_sA σ' 40 (upd (σ'.2.1 40) (8 * n + h) (σ.2.1 42 h)) := ⟨_, rfl⟩
    have d40 : σ1.2.1 40 = upd (σ'.2.1 40) (8 * n + h) (σ.2.1 42 h) := by rw [hσ1, k_sAs]
    have dn : ∀ q, q ≠ 40 → σ1.2.1 q = σ'.2.1 q := fun q hq => by rw [hσ1, k_sA2 hq]
    have hK1 : KM σ σ1 N n (h + 1) h 0 := by
      refine ⟨by rw [hσ1]; exact k1, by rw [hσ1]; exact k2, fun q q1 q2 => by rw [dn q q1]; exact k3 q q1 q2, fun i hi => by rw [d40, k_upd_n (by omega)]; exact k4 i hi, fun a ha => ?_, fun i hi => by rw [dn 41 (by decide)]; exact k6 i hi, fun a i hx hi => by rw [dn 41 (by decide)]; exact k7 a i hx hi⟩
      rw [d40]
      by_cases e : a = h
      · rw [e, k_upd_s]
      · rw [k_upd_n (by omega)]; exact k5 a (by omega)
    obtain ⟨σ2, r1, r2⟩ := Md_keep50 hN hn h14 (show h < 8 by omega) (M_Md_keepMatch_22 (f + m + 1)) (N h - 1) 0 (k_fu - (N h - 1) - 1) σ1 (by omega) hK1
    rw [show k_fu - (N h - 1) - 1 + (N h - 1) + 1 = k_fu by unfold k_fu; omega] at r1
    obtain ⟨σ'', q1, q2⟩ := ih (h + 1) f σ2 (by omega) r2
    refine ⟨σ'', ?_, q2⟩
    have ex : 8 * nI n + nI h = nI (8 * n + h) := by rw [show (8 : Int32) = nI 8 from rfl, pk_mul, nI_add]
    have e14 : σ'.1 14 = nI n := by rw [k1]; exact h14
    show M_Md_keepMatch_22_b (M_Md_keepMatch_22 (f + m + 1)) σ' _ = _
    unfold M_Md_keepMatch_22_b
    rw [if_neg (show ¬ (8 : Int32) ≤ nI h from nI_ge (b := 8) (by omega) (by omega)), k_ld_n (by omega) (by omega), k3 42 (by decide) (by decide), e14, k_st_x ex (by omega) (by omega), ← hσ1, ← q1, ← r1]
    rfl
theorem keep_both {σc σm : kS} {T : Nat} {N V : Nat → Nat} (hK : KR σc σm) (hC : NmC σc T N V) (hM : NmM σm T N V) :
    ∃ σc' σm', M_Mt_keep σc = some (0, σc') ∧ M_Md_keepMatch σm = some (0, σm') ∧ KR σc' σm' ∧ ((∀ k, k ≠ 9 → σc'.1 k = σc.1 k) ∧ (∀ k, k ≠ 24 → k ≠ 25 → σc'.2.1 k = σc.2.1 k) ∧ σc'.2.2 = σc.2.2) ∧ (∀ k, k ≠ 14 → k ≠ 18 → σm'.1 k = σm.1 k) ∧ σm'.1 18 = σm.1 18 + 1 ∧ (∀ k, k ≠ 40 → k ≠ 41 → σm'.2.1 k = σm.2.1 k) ∧ σm'.2.2 = σm.2.2 := by
  obtain ⟨n, hn, c9, c14, hk⟩ := hK
  by_cases c : n = 20
  · refine ⟨σc, k_sS σm 18 (σm.1 18 + 1), ?_, ?_, ⟨n, hn, c9, by rw [k_sSn (by decide)]; exact c14, hk⟩, ⟨fun _ _ => rfl, fun _ _ _ => rfl, rfl⟩, fun k _ h => k_sSn h, k_sSs, fun _ _ _ => rfl, rfl⟩
    · unfold M_Mt_keep
      rw [c9, c, if_pos (show (20 : Int32) ≤ nI 20 by decide)]
    · unfold M_Md_keepMatch
      rw [k_set_r, k_sSn (by decide), c14, c, if_pos (show nI 20 = 20 from rfl)]
  · obtain ⟨σ1, hσ1⟩ : ∃ σ1, σ1 = k_sS σm 18 (σm.1 18 + 1) := ⟨_, rfl⟩
    have hM1 : NmM σ1 T N V := NmM_cong hM (by rw [hσ1]; rfl) (by rw [hσ1]; rfl)
    have h141 : σ1.1 14 = nI n := by rw [hσ1, k_sSn (by decide)]; exact c14
    obtain ⟨σ2, r1, r2⟩ := Md_keep22 hM1 (show n < 20 by omega) h141 8 0 (k_fu - 9) σ1 (by omega) ⟨rfl, rfl, fun _ _ _ => rfl, fun _ _ => rfl, fun h hh => by omega, fun _ _ => rfl, fun h k hx => by omega⟩
    rw [show k_fu - 9 + 8 + 1 = k_fu by unfold k_fu; omega] at r1
    obtain ⟨k1, k2, k3, k4, k5, k6, k7⟩ := r2
    obtain ⟨σc', hσc'⟩ : ∃ σc', σc' = k_sS (k_sA (k_sA σc 24 (va_cpy (σc.2.1 21) (σc.2.1 24) 0 (8 * n) 8)) 25 (va_cpy (σc.2.1 22) (σc.2.1 25) 0 (96 * n) 96)) 9 (nI (n + 1)) := ⟨_, rfl⟩
    have d24 : σc'.2.1 24 = va_cpy (σc.2.1 21) (σc.2.1 24) 0 (8 * n) 8 := by rw [hσc']; rfl
    have d25 : σc'.2.1 25 = va_cpy (σc.2.1 22) (σc.2.1 25) 0 (96 * n) 96 := by rw [hσc']; rfl
    have e1 : nI n * 8 = nI (8 * n) := by rw [show (8 : Int32) = nI 8 from rfl, pk_mul, Nat.mul_comm]
    have e2 : nI n * 96 = nI (96 * n) := by rw [show (96 : Int32) = nI 96 from rfl, pk_mul, Nat.mul_comm]
    refine ⟨σc', k_sS σ2 14 (nI (n + 1)), ?_, ?_, ⟨n + 1, by omega, by rw [hσc']; rfl, rfl, fun m hm h hh => ?_⟩, ⟨fun k hk => ?_, fun k x y => ?_, ?_⟩, fun k x y => ?_, ?_, fun k x y => ?_, ?_⟩
    · unfold M_Mt_keep
      rw [c9, if_neg (show ¬ (20 : Int32) ≤ nI n from nI_ge (b := 20) (by omega) (by omega))]
      unfold k_cp
      rw [e1, nI_clamp (by omega), show (8 : Int32).toNatClampNeg = 8 from rfl, show (0 : Int32).toNatClampNeg = 0 from rfl, if_neg (by
        rintro (x | x | x | x | x)
        · exact absurd x (by decide)
        · exact nI_pos (by omega) x
        · exact absurd x (by decide)
        · omega
        · omega)]
      show (if (0 : Int32) < 0 ∨ σc.1 9 * 96 < 0 ∨ (96 : Int32) < 0 ∨ 96 < (0 : Int32).toNatClampNeg + (96 : Int32).toNatClampNeg ∨ 1920 < (σc.1 9 * 96).toNatClampNeg + (96 : Int32).toNatClampNeg then none else _) = _
      rw [c9, e2, nI_clamp (by omega), show (96 : Int32).toNatClampNeg = 96 from rfl, show (0 : Int32).toNatClampNeg = 0 from rfl, if_neg (by
        rintro (x | x | x | x | x)
        · exact absurd x (by decide)
        · exact nI_pos (by omega) x
        · exact absurd x (by decide)
        · omega
        · omega), hσc']
      show some (0, k_sS (k_sA (k_sA σc 24 _) 25 (va_cpy (σc.2.1 22) (σc.2.1 25) 0 (σc.1 9 * 96).toNatClampNeg 96)) 9 (σc.1 9 + 1)) = _
      rw [c9, nI_1, e2, nI_clamp (by omega)]
    · unfold M_Md_keepMatch
      rw [k_set_r, ← hσ1, h141, if_neg (show ¬ nI n = 20 from fun x => c ((nI_eq (b := 20) (by omega) (by omega)).mp x))]
      exact r1
    · obtain ⟨p1, p2, p3⟩ := hC h hh
      obtain ⟨q1, q2, q3⟩ := hM h hh
      show (σc'.2.1 24 (8 * m + h) = σ2.2.1 40 (8 * m + h)) ∧ (σc'.2.1 24 (8 * m + h) = -1 ∨ ∃ c : Nat, c ≤ 12 ∧ σc'.2.1 24 (8 * m + h) = nI c ∧ ∀ k, k < c → σc'.2.1 25 (96 * m + 12 * h + k) = σ2.2.1 41 (96 * m + 12 * h + k))
      rw [d24, d25]
      unfold va_cpy
      by_cases x : m = n
      · have y1 : σ1.2.1 42 h = σm.2.1 42 h := by rw [hσ1]; rfl
        rw [x, if_pos ⟨by omega, by omega⟩, Nat.add_sub_cancel_left, Nat.zero_add, k5 h hh, y1, p1, q1]
        refine ⟨rfl, ?_⟩
        cases hNh : N h with
        | zero => exact Or.inl rfl
        | succ c' =>
          refine Or.inr ⟨c', by omega, rfl, fun k hk => ?_⟩
          have y2 : σ1.2.1 43 (12 * h + k) = σm.2.1 43 (12 * h + k) := by rw [hσ1]; rfl
          rw [if_pos ⟨by omega, by omega⟩, show 0 + (96 * n + 12 * h + k - 96 * n) = 12 * h + k by omega, k7 h k (Or.inl hh) (by omega), y2, (p3 k (by omega)).1, (q3 k (by omega)).1]
      · obtain ⟨z1, z2⟩ := hk m (by omega) h hh
        have y1 : σ1.2.1 40 (8 * m + h) = σm.2.1 40 (8 * m + h) := by rw [hσ1]; rfl
        rw [if_neg (fun y => by omega), k4 _ (by omega), y1]
        refine ⟨z1, ?_⟩
        rcases z2 with z | ⟨c', c1, c2, c3⟩
        · exact Or.inl z
        · refine Or.inr ⟨c', c1, c2, fun k hk' => ?_⟩
          have y2 : σ1.2.1 41 (96 * m + 12 * h + k) = σm.2.1 41 (96 * m + 12 * h + k) := by rw [hσ1]; rfl
          rw [if_neg (fun y => by omega), k6 _ (by omega), y2]
          exact c3 k hk'
    · rw [hσc', k_sSn hk]; rfl
    · rw [hσc', k_sS2, k_sA2 y, k_sA2 x]
    · rw [hσc']; rfl
    · rw [k_sSn x, k1, hσ1, k_sSn y]
    · rw [k_sSn (by decide), k1, hσ1, k_sSs]
    · rw [k_sS2, k3 k x y, hσ1]; rfl
    · rw [k_sS2, k2, hσ1]; rfl
