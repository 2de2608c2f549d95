/-! every run of calls: class and model answer alike -/
theorem k_i1 {i j : Nat} : nI i + nI j = nI (i + j) := nI_add i j
theorem P_leaf {L i : Nat} {xs : Nat → Int32} {rec23 : kS → Int32 → Option (Int32 × kS)} {σ : kS} (h : Inv σ) (hi : i + 4 ≤ L) (hL : L ≤ 2048) : ∃ σ2, Inv σ2 ∧ M_La_law_120 L xs rec23 σ (nI i) = rec23 σ2 (nI i + 4) := by
  unfold M_La_law_120
  have e1 : nI i + 1 = nI (i + 1) := nI_add i 1
  have hA := A_leaf h (xs (i + 1))
  have := k_askI hA rec23 (nI i)
  obtain ⟨σ2, h2, h3⟩ := this
  refine ⟨σ2, h2, ?_⟩
  rw [k_ld_x e1 (by omega) (by omega)]
  unfold M_La_leaf
  refine Eq.trans ?_ h3
  congr 1
  funext v σ3
  rw [k_ld_x e1 (by omega) (by omega)]
theorem P_node {L i : Nat} {xs : Nat → Int32} {rec23 : kS → Int32 → Option (Int32 × kS)} {σ : kS} (h : Inv σ) (hi : i + 4 ≤ L) (hL : L ≤ 2048) : ∃ σ2, Inv σ2 ∧ M_La_law_176 L xs rec23 σ (nI i) = rec23 σ2 (nI i + 4) := by
  unfold M_La_law_176
  have e1 : nI i + 1 = nI (i + 1) := nI_add i 1
  have hA := A_node h (xs (i + 1))
  have := k_askI hA rec23 (nI i)
  obtain ⟨σ2, h2, h3⟩ := this
  refine ⟨σ2, h2, ?_⟩
  rw [k_ld_x e1 (by omega) (by omega)]
  unfold M_La_node
  refine Eq.trans ?_ h3
  congr 1
  funext v σ3
  rw [k_ld_x e1 (by omega) (by omega)]
theorem P_more {L i : Nat} {xs : Nat → Int32} {rec23 : kS → Int32 → Option (Int32 × kS)} {σ : kS} (h : Inv σ) (hi : i + 4 ≤ L) (hL : L ≤ 2048) : ∃ σ2, Inv σ2 ∧ M_La_law_232 L xs rec23 σ (nI i) = rec23 σ2 (nI i + 4) := by
  unfold M_La_law_232
  have e1 : nI i + 1 = nI (i + 1) := nI_add i 1
  have e2 : nI i + 2 = nI (i + 2) := nI_add i 2
  have hA := A_more h (xs (i + 1)) (xs (i + 2))
  have := k_askZ hA rec23 (nI i)
  obtain ⟨σ2, h2, h3⟩ := this
  refine ⟨σ2, h2, ?_⟩
  rw [k_ld_x e1 (by omega) (by omega), k_ld_x e2 (by omega) (by omega)]
  unfold M_La_more
  refine Eq.trans ?_ h3
  congr 1
  funext v σ3
  rw [k_ld_x e1 (by omega) (by omega), k_ld_x e2 (by omega) (by omega)]
theorem P_hole {L i : Nat} {xs : Nat → Int32} {rec23 : kS → Int32 → Option (Int32 × kS)} {σ : kS} (h : Inv σ) (hi : i + 4 ≤ L) (hL : L ≤ 2048) : ∃ σ2, Inv σ2 ∧ M_La_law_307 L xs rec23 σ (nI i) = rec23 σ2 (nI i + 4) := by
  unfold M_La_law_307
  have e1 : nI i + 1 = nI (i + 1) := nI_add i 1
  have e2 : nI i + 2 = nI (i + 2) := nI_add i 2
  have hA := A_hole h (xs (i + 1)) (xs (i + 2))
  have := k_askI hA rec23 (nI i)
  obtain ⟨σ2, h2, h3⟩ := this
  refine ⟨σ2, h2, ?_⟩
  rw [k_ld_x e1 (by omega) (by omega), k_ld_x e2 (by omega) (by omega)]
  unfold M_La_hole
  refine Eq.trans ?_ h3
  congr 1
  funext v σ3
  rw [k_ld_x e1 (by omega) (by omega), k_ld_x e2 (by omega) (by omega)]
theorem P_test {L i : Nat} {xs : Nat → Int32} {rec23 : kS → Int32 → Option (Int32 × kS)} {σ : kS} (h : Inv σ) (hi : i + 4 ≤ L) (hL : L ≤ 2048) : ∃ σ2, Inv σ2 ∧ M_La_law_375 L xs rec23 σ (nI i) = rec23 σ2 (nI i + 4) := by
  unfold M_La_law_375
  have e1 : nI i + 1 = nI (i + 1) := nI_add i 1
  have e2 : nI i + 2 = nI (i + 2) := nI_add i 2
  have e3 : nI i + 3 = nI (i + 3) := nI_add i 3
  have hA := A_test h (xs (i + 1)) (xs (i + 2)) (xs (i + 3))
  have := k_askZ hA rec23 (nI i)
  obtain ⟨σ2, h2, h3⟩ := this
  refine ⟨σ2, h2, ?_⟩
  rw [k_ld_x e1 (by omega) (by omega), k_ld_x e2 (by omega) (by omega), k_ld_x e3 (by omega) (by omega)]
  unfold M_La_test
  refine Eq.trans ?_ h3
  congr 1
  funext v σ3
  rw [k_ld_x e1 (by omega) (by omega), k_ld_x e2 (by omega) (by omega), k_ld_x e3 (by omega) (by omega)]
theorem P_match {L i : Nat} {xs : Nat → Int32} {rec23 : kS → Int32 → Option (Int32 × kS)} {σ : kS} (h : Inv σ) (hi : i + 4 ≤ L) (hL : L ≤ 2048) : ∃ σ2, Inv σ2 ∧ M_La_law_462 L xs rec23 σ (nI i) = rec23 σ2 (nI i + 4) := by
  unfold M_La_law_462
  have e1 : nI i + 1 = nI (i + 1) := nI_add i 1
  have e2 : nI i + 2 = nI (i + 2) := nI_add i 2
  have e3 : nI i + 3 = nI (i + 3) := nI_add i 3
  have hA := A_match h (xs (i + 1)) (xs (i + 2)) (xs (i + 3))
  have := k_askI hA rec23 (nI i)
  obtain ⟨σ2, h2, h3⟩ := this
  refine ⟨σ2, h2, ?_⟩
  rw [k_ld_x e1 (by omega) (by omega), k_ld_x e2 (by omega) (by omega), k_ld_x e3 (by omega) (by omega)]
  unfold M_La_match
  refine Eq.trans ?_ h3
  congr 1
  funext v σ3
  rw [k_ld_x e1 (by omega) (by omega), k_ld_x e2 (by omega) (by omega), k_ld_x e3 (by omega) (by omega)]
theorem P_tried {L i : Nat} {xs : Nat → Int32} {rec23 : kS → Int32 → Option (Int32 × kS)} {σ : kS} (h : Inv σ) (hi : i + 4 ≤ L) (hL : L ≤ 2048) : ∃ σ2, Inv σ2 ∧ M_La_law_542 L xs rec23 σ (nI i) = rec23 σ2 (nI i + 4) := by
  unfold M_La_law_542
  obtain ⟨r, σ1, σ2, h1, h2, h3⟩ := A_tried h 
  refine ⟨σ2, h3, ?_⟩
  rw [k_call_s h1, k_call_s h2, if_pos rfl]
  rfl
theorem P_bound {L i : Nat} {xs : Nat → Int32} {rec23 : kS → Int32 → Option (Int32 × kS)} {σ : kS} (h : Inv σ) (hi : i + 4 ≤ L) (hL : L ≤ 2048) : ∃ σ2, Inv σ2 ∧ M_La_law_555 L xs rec23 σ (nI i) = rec23 σ2 (nI i + 4) := by
  unfold M_La_law_555
  have e1 : nI i + 1 = nI (i + 1) := nI_add i 1
  have e2 : nI i + 2 = nI (i + 2) := nI_add i 2
  have e3 : nI i + 3 = nI (i + 3) := nI_add i 3
  have hA := A_bound h (xs (i + 1)) (xs (i + 2)) (xs (i + 3))
  have := k_askI hA rec23 (nI i)
  obtain ⟨σ2, h2, h3⟩ := this
  refine ⟨σ2, h2, ?_⟩
  rw [k_ld_x e1 (by omega) (by omega), k_ld_x e2 (by omega) (by omega), k_ld_x e3 (by omega) (by omega)]
  unfold M_La_bound
  refine Eq.trans ?_ h3
  congr 1
  funext v σ3
  rw [k_ld_x e1 (by omega) (by omega), k_ld_x e2 (by omega) (by omega), k_ld_x e3 (by omega) (by omega)]
theorem P_many {L i : Nat} {xs : Nat → Int32} {rec23 : kS → Int32 → Option (Int32 × kS)} {σ : kS} (h : Inv σ) (hi : i + 4 ≤ L) (hL : L ≤ 2048) : ∃ σ2, Inv σ2 ∧ M_La_law_635 L xs rec23 σ (nI i) = rec23 σ2 (nI i + 4) := by
  unfold M_La_law_635
  have e1 : nI i + 1 = nI (i + 1) := nI_add i 1
  have e2 : nI i + 2 = nI (i + 2) := nI_add i 2
  have hA := A_many h (xs (i + 1)) (xs (i + 2))
  have := k_askI hA rec23 (nI i)
  obtain ⟨σ2, h2, h3⟩ := this
  refine ⟨σ2, h2, ?_⟩
  rw [k_ld_x e1 (by omega) (by omega), k_ld_x e2 (by omega) (by omega)]
  unfold M_La_many
  refine Eq.trans ?_ h3
  congr 1
  funext v σ3
  rw [k_ld_x e1 (by omega) (by omega), k_ld_x e2 (by omega) (by omega)]
theorem P_rule {L i : Nat} {xs : Nat → Int32} {rec23 : kS → Int32 → Option (Int32 × kS)} {σ : kS} (h : Inv σ) (hi : i + 4 ≤ L) (hL : L ≤ 2048) : ∃ σ2, Inv σ2 ∧ M_La_law_703 L xs rec23 σ (nI i) = rec23 σ2 (nI i + 4) := by
  unfold M_La_law_703
  have e1 : nI i + 1 = nI (i + 1) := nI_add i 1
  have hA := A_rule h (xs (i + 1))
  have := k_askI hA rec23 (nI i)
  obtain ⟨σ2, h2, h3⟩ := this
  refine ⟨σ2, h2, ?_⟩
  rw [k_ld_x e1 (by omega) (by omega)]
  unfold M_La_rule
  refine Eq.trans ?_ h3
  congr 1
  funext v σ3
  rw [k_ld_x e1 (by omega) (by omega)]
theorem P_net {L i : Nat} {xs : Nat → Int32} {rec23 : kS → Int32 → Option (Int32 × kS)} {σ : kS} (h : Inv σ) (hi : i + 4 ≤ L) (hL : L ≤ 2048) : ∃ σ2, Inv σ2 ∧ M_La_law_759 L xs rec23 σ (nI i) = rec23 σ2 (nI i + 4) := by
  unfold M_La_law_759
  have e1 : nI i + 1 = nI (i + 1) := nI_add i 1
  have hA := A_net h (xs (i + 1))
  have := k_askI hA rec23 (nI i)
  obtain ⟨σ2, h2, h3⟩ := this
  refine ⟨σ2, h2, ?_⟩
  rw [k_ld_x e1 (by omega) (by omega)]
  unfold M_La_net
  refine Eq.trans ?_ h3
  congr 1
  funext v σ3
  rw [k_ld_x e1 (by omega) (by omega)]
theorem P_rules {L i : Nat} {xs : Nat → Int32} {rec23 : kS → Int32 → Option (Int32 × kS)} {σ : kS} (h : Inv σ) (hi : i + 4 ≤ L) (hL : L ≤ 2048) : ∃ σ2, Inv σ2 ∧ M_La_law_815 L xs rec23 σ (nI i) = rec23 σ2 (nI i + 4) := by
  unfold M_La_law_815
  have e1 : nI i + 1 = nI (i + 1) := nI_add i 1
  obtain ⟨r, σ1, σ2, h1, h2, h3⟩ := A_rules h (xs (i + 1))
  refine ⟨σ2, h3, ?_⟩
  rw [k_ld_x e1 (by omega) (by omega), k_call_s h1, k_ld_x e1 (by omega) (by omega), k_call_s h2, if_pos rfl]
  rfl
theorem P_first {L i : Nat} {xs : Nat → Int32} {rec23 : kS → Int32 → Option (Int32 × kS)} {σ : kS} (h : Inv σ) (hi : i + 4 ≤ L) (hL : L ≤ 2048) : ∃ σ2, Inv σ2 ∧ M_La_law_840 L xs rec23 σ (nI i) = rec23 σ2 (nI i + 4) := by
  unfold M_La_law_840
  have e1 : nI i + 1 = nI (i + 1) := nI_add i 1
  have hA := A_first h (xs (i + 1))
  have := k_askI hA rec23 (nI i)
  obtain ⟨σ2, h2, h3⟩ := this
  refine ⟨σ2, h2, ?_⟩
  rw [k_ld_x e1 (by omega) (by omega)]
  unfold M_La_first
  refine Eq.trans ?_ h3
  congr 1
  funext v σ3
  rw [k_ld_x e1 (by omega) (by omega)]
theorem P_order {L i : Nat} {xs : Nat → Int32} {rec23 : kS → Int32 → Option (Int32 × kS)} {σ : kS} (h : Inv σ) (hi : i + 4 ≤ L) (hL : L ≤ 2048) : ∃ σ2, Inv σ2 ∧ M_La_law_896 L xs rec23 σ (nI i) = rec23 σ2 (nI i + 4) := by
  unfold M_La_law_896
  have e1 : nI i + 1 = nI (i + 1) := nI_add i 1
  have e2 : nI i + 2 = nI (i + 2) := nI_add i 2
  have hA := A_order h (xs (i + 1)) (xs (i + 2))
  have := k_askI hA rec23 (nI i)
  obtain ⟨σ2, h2, h3⟩ := this
  refine ⟨σ2, h2, ?_⟩
  rw [k_ld_x e1 (by omega) (by omega), k_ld_x e2 (by omega) (by omega)]
  unfold M_La_order
  refine Eq.trans ?_ h3
  congr 1
  funext v σ3
  rw [k_ld_x e1 (by omega) (by omega), k_ld_x e2 (by omega) (by omega)]
theorem P_parts {L i : Nat} {xs : Nat → Int32} {rec23 : kS → Int32 → Option (Int32 × kS)} {σ : kS} (h : Inv σ) (hi : i + 4 ≤ L) (hL : L ≤ 2048) : ∃ σ2, Inv σ2 ∧ M_La_law_964 L xs rec23 σ (nI i) = rec23 σ2 (nI i + 4) := by
  unfold M_La_law_964
  have e1 : nI i + 1 = nI (i + 1) := nI_add i 1
  have hA := A_parts h (xs (i + 1))
  have := k_askI hA rec23 (nI i)
  obtain ⟨σ2, h2, h3⟩ := this
  refine ⟨σ2, h2, ?_⟩
  rw [k_ld_x e1 (by omega) (by omega)]
  unfold M_La_parts
  refine Eq.trans ?_ h3
  congr 1
  funext v σ3
  rw [k_ld_x e1 (by omega) (by omega)]
theorem P_part {L i : Nat} {xs : Nat → Int32} {rec23 : kS → Int32 → Option (Int32 × kS)} {σ : kS} (h : Inv σ) (hi : i + 4 ≤ L) (hL : L ≤ 2048) : ∃ σ2, Inv σ2 ∧ M_La_law_1020 L xs rec23 σ (nI i) = rec23 σ2 (nI i + 4) := by
  unfold M_La_law_1020
  have e1 : nI i + 1 = nI (i + 1) := nI_add i 1
  have e2 : nI i + 2 = nI (i + 2) := nI_add i 2
  have hA := A_part h (xs (i + 1)) (xs (i + 2))
  have := k_askI hA rec23 (nI i)
  obtain ⟨σ2, h2, h3⟩ := this
  refine ⟨σ2, h2, ?_⟩
  rw [k_ld_x e1 (by omega) (by omega), k_ld_x e2 (by omega) (by omega)]
  unfold M_La_part
  refine Eq.trans ?_ h3
  congr 1
  funext v σ3
  rw [k_ld_x e1 (by omega) (by omega), k_ld_x e2 (by omega) (by omega)]
theorem P_count {L i : Nat} {xs : Nat → Int32} {rec23 : kS → Int32 → Option (Int32 × kS)} {σ : kS} (h : Inv σ) (hi : i + 4 ≤ L) (hL : L ≤ 2048) : ∃ σ2, Inv σ2 ∧ M_La_law_1088 L xs rec23 σ (nI i) = rec23 σ2 (nI i + 4) := by
  unfold M_La_law_1088
  have e1 : nI i + 1 = nI (i + 1) := nI_add i 1
  obtain ⟨r, σ1, σ2, h1, h2, h3⟩ := A_count h (xs (i + 1))
  refine ⟨σ2, h3, ?_⟩
  rw [k_ld_x e1 (by omega) (by omega), k_call_s h1, k_ld_x e1 (by omega) (by omega), k_call_s h2, if_pos rfl]
  rfl
theorem P_step {L i : Nat} {xs : Nat → Int32} {rec23 : kS → Int32 → Option (Int32 × kS)} {σ : kS} (h : Inv σ) (hi : i + 4 ≤ L) (hL : L ≤ 2048) : ∃ σ2, Inv σ2 ∧ M_La_law_b L xs rec23 σ (nI i) = rec23 σ2 (nI i + 4) := by
  unfold M_La_law_b
  have hlt : ¬ (Int32.ofNat L - 4) < nI i := by
    show ¬ (nI L - nI 4) < nI i
    rw [pk_sub (by omega)]
    exact nI_nlt (by omega) (by omega)
  rw [if_neg hlt, k_ld_x rfl (by omega) (by omega)]
  show ∃ σ2, Inv σ2 ∧ k_let _ _ = _
  unfold k_let
  dsimp only
  by_cases c0 : xs i &&& 31 = 0
  · rw [if_pos c0]; exact P_leaf h hi hL
  rw [if_neg c0]
  by_cases c1 : xs i &&& 31 = 1
  · rw [if_pos c1]; exact P_node h hi hL
  rw [if_neg c1]
  by_cases c2 : xs i &&& 31 = 2
  · rw [if_pos c2]; exact P_more h hi hL
  rw [if_neg c2]
  by_cases c3 : xs i &&& 31 = 3
  · rw [if_pos c3]; exact P_hole h hi hL
  rw [if_neg c3]
  by_cases c4 : xs i &&& 31 = 4
  · rw [if_pos c4]; exact P_test h hi hL
  rw [if_neg c4]
  by_cases c5 : xs i &&& 31 = 5
  · rw [if_pos c5]; exact P_match h hi hL
  rw [if_neg c5]
  by_cases c6 : xs i &&& 31 = 6
  · rw [if_pos c6]; exact P_tried h hi hL
  rw [if_neg c6]
  by_cases c7 : xs i &&& 31 = 7
  · rw [if_pos c7]; exact P_bound h hi hL
  rw [if_neg c7]
  by_cases c8 : xs i &&& 31 = 8
  · rw [if_pos c8]; exact P_many h hi hL
  rw [if_neg c8]
  by_cases c9 : xs i &&& 31 = 9
  · rw [if_pos c9]; exact P_rule h hi hL
  rw [if_neg c9]
  by_cases c10 : xs i &&& 31 = 10
  · rw [if_pos c10]; exact P_net h hi hL
  rw [if_neg c10]
  by_cases c11 : xs i &&& 31 = 11
  · rw [if_pos c11]; exact P_rules h hi hL
  rw [if_neg c11]
  by_cases c12 : xs i &&& 31 = 12
  · rw [if_pos c12]; exact P_first h hi hL
  rw [if_neg c12]
  by_cases c13 : xs i &&& 31 = 13
  · rw [if_pos c13]; exact P_order h hi hL
  rw [if_neg c13]
  by_cases c14 : xs i &&& 31 = 14
  · rw [if_pos c14]; exact P_parts h hi hL
  rw [if_neg c14]
  by_cases c15 : xs i &&& 31 = 15
  · rw [if_pos c15]; exact P_part h hi hL
  rw [if_neg c15]
  by_cases c16 : xs i &&& 31 = 16
  · rw [if_pos c16]; exact P_count h hi hL
  rw [if_neg c16]
  exact ⟨σ, h, rfl⟩
theorem P_loop {L : Nat} {xs : Nat → Int32} (hL : L ≤ 2048) : ∀ (n i : Nat) (σ : kS), Inv σ → i ≤ L → L < i + 4 * n → ∃ σo, M_La_law L xs n σ (nI i) = some (1, σo) := by
  intro n
  induction n with
  | zero =>
    intro i σ h hi hn
    omega
  | succ n ih =>
    intro i σ h hi hn
    show ∃ σo, M_La_law_b L xs (M_La_law L xs n) σ (nI i) = some (1, σo)
    by_cases hc : i + 4 ≤ L
    · obtain ⟨σ2, h2, h3⟩ := P_step (rec23 := M_La_law L xs n) h hc hL
      rw [h3, show nI i + 4 = nI (i + 4) from nI_add i 4]
      exact ih (i + 4) σ2 h2 (by omega) (by omega)
    · refine ⟨σ, ?_⟩
      unfold M_La_law_b
      rw [if_pos]
      by_cases h4 : 4 ≤ L
      · show (nI L - nI 4) < nI i
        rw [pk_sub h4]
        exact nI_lt (by omega) (by omega)
      · have hneg : nI L - nI 4 < 0 := pk_sneg (by omega) (by omega)
        have h1 : (nI L - nI 4).toInt < 0 := Int32.lt_iff_toInt_lt.mp hneg
        have h2 : (nI i).toInt = i := nI_toInt (by omega)
        exact Int32.lt_iff_toInt_lt.mpr (by show (nI L - nI 4).toInt < _; omega)
theorem pure_main (L : Nat) (xs : Nat → Int32) (hL : L ≤ 2048) : ∃ σo, M_La_law L xs k_fu k_s0 0 = some (1, σo) := P_loop hL k_fu 0 k_s0 Inv_0 (by omega) (by unfold k_fu; omega)
