/-! what stands between two calls: the trees are well made, class and model agree -/
/-- tree t of T is well made -/
def TreeOK (σ : kS) (T t : Nat) : Prop :=
  (σ.2.1 2 t = nI (gN σ 2 t) ∧ σ.2.1 3 t = nI (gN σ 3 t) ∧ σ.2.1 4 t = nI (gN σ 4 t) ∧ σ.2.1 5 t = nI (gN σ 5 t) ∧ σ.2.1 6 t = nI (gN σ 6 t) ∧ σ.2.1 7 t = nI (gN σ 7 t) ∧ σ.2.1 8 t = nI (gN σ 8 t) ∧ σ.2.1 9 t = nI (gN σ 9 t) ∧ σ.2.1 11 t = nI (gN σ 11 t)) ∧
  (gN σ 2 t ≤ 2 ∧ gN σ 3 t < 100 ∧ (gN σ 2 t = 1 → gN σ 3 t < 10) ∧ (gN σ 2 t = 2 → gN σ 3 t < 8) ∧ gN σ 4 t ≤ 3 ∧ gN σ 5 t ≤ 1 ∧ gN σ 6 t ≤ 1 ∧ gN σ 7 t ≤ 20 ∧ 1 ≤ gN σ 8 t ∧ gN σ 8 t ≤ 70 ∧ gN σ 9 t ≤ 12 ∧ gN σ 11 t ≤ 3 ∧ (gN σ 2 t ≠ 1 → gN σ 9 t = 0)) ∧
  (∀ k, k < gN σ 9 t → σ.2.1 10 (12 * t + k) = nI (gN σ 10 (12 * t + k)) ∧ gN σ 10 (12 * t + k) < T ∧ gN σ 7 (gN σ 10 (12 * t + k)) < gN σ 7 t ∧ gN σ 6 (gN σ 10 (12 * t + k)) = 1) ∧
  (gN σ 8 t = 1 + ((List.range (gN σ 9 t)).map (fun k => gN σ 8 (gN σ 10 (12 * t + k)))).sum) ∧
  (gN σ 5 t = 1 → gN σ 2 t ≠ 2 ∧ ∀ k, k < gN σ 9 t → gN σ 5 (gN σ 10 (12 * t + k)) = 1) ∧
  (∀ k, k < gN σ 11 t → σ.2.1 12 (3 * t + k) = nI (gN σ 12 (3 * t + k)) ∧ gN σ 12 (3 * t + k) ≤ 4)
/-- the trees -/
def FI (σ : kS) (T : Nat) : Prop := T ≤ 240 ∧ σ.1 2 = nI T ∧ (∀ t, T ≤ t → σ.2.1 4 t = 0 ∧ σ.2.1 6 t = 0 ∧ σ.2.1 7 t = 0 ∧ σ.2.1 9 t = 0 ∧ σ.2.1 11 t = 0) ∧ ∀ t, t < T → TreeOK σ T t
/-- class and model hold the same trees -/
def FE (σ : kS) : Prop := σ.1 11 = σ.1 2 ∧ σ.2.1 26 = σ.2.1 2 ∧ σ.2.1 27 = σ.2.1 3 ∧ σ.2.1 28 = σ.2.1 4 ∧ σ.2.1 31 = σ.2.1 5 ∧ σ.2.1 32 = σ.2.1 6 ∧ σ.2.1 33 = σ.2.1 7 ∧ σ.2.1 34 = σ.2.1 8 ∧ σ.2.1 29 = σ.2.1 9 ∧ σ.2.1 30 = σ.2.1 10 ∧ σ.2.1 35 = σ.2.1 11 ∧ σ.2.1 36 = σ.2.1 12 ∧ σ.2.1 37 = σ.2.1 13
/-- rules, and those that were told -/
def RI (σ : kS) (T : Nat) : Prop := ∃ r n : Nat, r ≤ 30 ∧ n ≤ 30 ∧ σ.1 0 = nI r ∧ σ.1 1 = nI n ∧ (∀ k, k < r → σ.2.1 0 k = nI (gN σ 0 k) ∧ gN σ 0 k < T) ∧ σ.1 12 = σ.1 0 ∧ σ.1 13 = σ.1 1 ∧ σ.2.1 38 = σ.2.1 0 ∧ σ.2.1 39 = σ.2.1 1
/-- the kept matches -/
def KI (σ : kS) : Prop := ∃ n : Nat, n ≤ 20 ∧ σ.1 9 = nI n ∧ σ.1 14 = nI n ∧ σ.1 16 = σ.1 5 ∧ ∀ m, m < n → ∀ h, h < 8 → (σ.2.1 24 (8 * m + h) = σ.2.1 40 (8 * m + h)) ∧ (σ.2.1 24 (8 * m + h) = -1 ∨ ∃ c : Nat, c ≤ 12 ∧ σ.2.1 24 (8 * m + h) = nI c ∧ ∀ k, k < c → σ.2.1 25 (96 * m + 12 * h + k) = σ.2.1 41 (96 * m + 12 * h + k))
def Inv (σ : kS) : Prop := ∃ T : Nat, FI σ T ∧ FE σ ∧ RI σ T ∧ KI σ
theorem Inv_0 : Inv k_s0 := by
  refine ⟨0, ⟨by omega, rfl, fun t _ => ⟨rfl, rfl, rfl, rfl, rfl⟩, fun t h => by omega⟩, ⟨rfl, rfl, rfl, rfl, rfl, rfl, rfl, rfl, rfl, rfl, rfl, rfl, rfl⟩, ⟨0, 0, by omega, by omega, rfl, rfl, fun k h => by omega, rfl, rfl, rfl, rfl⟩, ⟨0, by omega, rfl, rfl, rfl, fun m h => by omega⟩⟩
