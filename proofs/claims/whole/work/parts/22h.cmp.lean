/-! THE ORDER of two trees: the class by recursion, the model by a stack of its own, both this -/
def cmpP (σ : kS) (f : Nat → Nat → Int32) (a b k : Nat) : Nat → Int32
  | 0 => 0
  | m + 1 => if f (gN σ 10 (12 * a + k)) (gN σ 10 (12 * b + k)) = 0 then cmpP σ f a b (k + 1) m else f (gN σ 10 (12 * a + k)) (gN σ 10 (12 * b + k))
def cmpN (σ : kS) : Nat → Nat → Nat → Int32
  | 0 => fun _ _ => 0
  | d + 1 => fun a b => if σ.2.1 2 a = σ.2.1 2 b then (if σ.2.1 3 a = σ.2.1 3 b then (if σ.2.1 9 a = σ.2.1 9 b then cmpP σ (cmpN σ d) a b 0 (gN σ 9 a) else (if σ.2.1 9 b ≤ σ.2.1 9 a then 1 else -1)) else (if σ.2.1 3 b ≤ σ.2.1 3 a then 1 else -1)) else (if σ.2.1 2 b ≤ σ.2.1 2 a then 1 else -1)
theorem cmpN_self (σ : kS) : ∀ (d a : Nat), cmpN σ d a a = 0 := by
  intro d
  induction d with
  | zero => intro a; rfl
  | succ d ih =>
    intro a
    have hp : ∀ m k, cmpP σ (cmpN σ d) a a k m = 0 := by
      intro m
      induction m with
      | zero => intro k; rfl
      | succ m ihm =>
        intro k
        show (if cmpN σ d _ _ = 0 then cmpP σ (cmpN σ d) a a (k + 1) m else _) = 0
        rw [if_pos (ih _)]
        exact ihm (k + 1)
    show (if σ.2.1 2 a = σ.2.1 2 a then _ else _) = 0
    rw [if_pos rfl, if_pos rfl, if_pos rfl]
    exact hp _ _
theorem k_12i {t c : Nat} : 12 * nI t + nI c = nI (12 * t + c) := by rw [show (12 : Int32) = nI 12 from rfl, pk_mul, nI_add]
theorem k_i12 {t c : Nat} : nI t * 12 + nI c = nI (12 * t + c) := by rw [show (12 : Int32) = nI 12 from rfl, pk_mul, nI_add, Nat.mul_comm]
/-- the class -/
theorem F_cmp {σ : kS} {T : Nat} (hF : FI σ T) : ∀ (e a b dep : Nat), a < T → b < T → gN σ 7 a ≤ e → dep + e ≤ 20 → ∀ D, M_F_compareFrom_r (D + e + 1) σ (nI a) (nI b) (nI dep) = some (cmpN σ (e + 1) a b, σ) := by
  obtain ⟨hT, e2, hz, htr⟩ := hF
  intro e
  induction e with
  | zero =>
    intro a b dep ha hb hd hdep D
    show M_F_compareFrom (M_F_compareFrom_r (D + 0)) σ (nI a) (nI b) (nI dep) = _
    unfold M_F_compareFrom
    by_cases hab : a = b
    · subst hab
      rw [if_pos rfl, cmpN_self]
    · rw [if_neg (fun h => hab ((nI_eq (by omega) (by omega)).mp h)), if_pos (show nI dep ≤ 20 from nI_le (b := 20) (by omega) (by omega))]
      rw [k_ld_n (by omega) (by omega), k_ld_n (by omega) (by omega)]
      show _ = some ((if σ.2.1 2 a = σ.2.1 2 b then _ else _), σ)
      by_cases c2 : σ.2.1 2 a = σ.2.1 2 b
      · rw [if_pos c2, if_pos c2, k_ld_n (by omega) (by omega), k_ld_n (by omega) (by omega)]
        by_cases c3 : σ.2.1 3 a = σ.2.1 3 b
        · rw [if_pos c3, if_pos c3, k_ld_n (by omega) (by omega), k_ld_n (by omega) (by omega)]
          by_cases c9 : σ.2.1 9 a = σ.2.1 9 b
          · rw [if_pos c9, if_pos c9]
            have h0 : gN σ 9 a = 0 := by
              rcases Nat.eq_zero_or_pos (gN σ 9 a) with h | h
              · exact h
              · have := ((htr a ha).2.2.1 0 h).2.2.1; omega
            have a9 := (htr a ha).1.2.2.2.2.2.2.2.1
            rw [h0] at a9
            rw [a9, h0]
            show M_F_compareFrom_124_b _ _ _ _ _ _ _ _ = _
            unfold M_F_compareFrom_124_b
            rw [if_pos (show nI 0 ≤ 0 by decide)]
            rfl
          · rw [if_neg c9, if_neg c9, k_ld_n (by omega) (by omega)]
            by_cases c : σ.2.1 9 b ≤ σ.2.1 9 a
            · rw [if_pos c, if_pos c]
            · rw [if_neg c, if_neg c]
        · rw [if_neg c3, if_neg c3, k_ld_n (by omega) (by omega), k_ld_n (by omega) (by omega)]
          by_cases c : σ.2.1 3 b ≤ σ.2.1 3 a
          · rw [if_pos c, if_pos c]
          · rw [if_neg c, if_neg c]
      · rw [if_neg c2, if_neg c2, k_ld_n (by omega) (by omega), k_ld_n (by omega) (by omega)]
        by_cases c : σ.2.1 2 b ≤ σ.2.1 2 a
        · rw [if_pos c, if_pos c]
        · rw [if_neg c, if_neg c]
  | succ e ih =>
    intro a b dep ha hb hd hdep D
    show M_F_compareFrom (M_F_compareFrom_r (D + (e + 1))) σ (nI a) (nI b) (nI dep) = _
    unfold M_F_compareFrom
    by_cases hab : a = b
    · subst hab
      rw [if_pos rfl, cmpN_self]
    · rw [if_neg (fun h => hab ((nI_eq (by omega) (by omega)).mp h)), if_pos (show nI dep ≤ 20 from nI_le (b := 20) (by omega) (by omega))]
      rw [k_ld_n (by omega) (by omega), k_ld_n (by omega) (by omega)]
      show _ = some ((if σ.2.1 2 a = σ.2.1 2 b then _ else _), σ)
      by_cases c2 : σ.2.1 2 a = σ.2.1 2 b
      · rw [if_pos c2, if_pos c2, k_ld_n (by omega) (by omega), k_ld_n (by omega) (by omega)]
        by_cases c3 : σ.2.1 3 a = σ.2.1 3 b
        · rw [if_pos c3, if_pos c3, k_ld_n (by omega) (by omega), k_ld_n (by omega) (by omega)]
          by_cases c9 : σ.2.1 9 a = σ.2.1 9 b
          · rw [if_pos c9, if_pos c9]
            have a9 := (htr a ha).1.2.2.2.2.2.2.2.1
            have b9 := (htr b hb).1.2.2.2.2.2.2.2.1
            have hc12 := (htr a ha).2.1.2.2.2.2.2.2.2.2.2.2.1
            have hcb : gN σ 9 b = gN σ 9 a := congrArg Int32.toNatClampNeg c9.symm
            rw [a9]
            have loop : ∀ (m k n : Nat), k + m = gN σ 9 a → M_F_compareFrom_124 (M_F_compareFrom_r (D + (e + 1))) (n + m + 1) σ (nI a) (nI b) (nI dep) (nI (gN σ 9 a)) (nI k) = some (cmpP σ (cmpN σ (e + 1)) a b k m, σ) := by
              intro m
              induction m with
              | zero =>
                intro k n hk
                show M_F_compareFrom_124_b _ _ _ _ _ _ _ _ = _
                unfold M_F_compareFrom_124_b
                rw [if_pos (nI_le (by omega) (by omega))]
                rfl
              | succ m ihm =>
                intro k n hk
                show M_F_compareFrom_124_b _ (M_F_compareFrom_124 _ (n + (m + 1))) _ _ _ _ _ _ = _
                unfold M_F_compareFrom_124_b
                obtain ⟨p1, p2, p3, p4⟩ := (htr a ha).2.2.1 k (by omega)
                obtain ⟨q1, q2, q3, q4⟩ := (htr b hb).2.2.1 k (by omega)
                rw [if_neg (nI_ge (by omega) (by omega)), k_i12, k_ld_n (by omega) (by omega), k_i12, k_ld_n (by omega) (by omega), p1, q1, show nI dep + 1 = nI (dep + 1) from nI_1 dep]
                rw [k_call_s (show M_F_compareFrom_r (D + (e + 1)) σ _ _ _ = _ from ih _ _ (dep + 1) p2 q2 (by omega) (by omega) D)]
                show _ = some ((if cmpN σ (e + 1) _ _ = 0 then _ else _), σ)
                by_cases cz : cmpN σ (e + 1) (gN σ 10 (12 * a + k)) (gN σ 10 (12 * b + k)) = 0
                · rw [if_pos cz, if_pos cz, k_let_r, show nI k + 1 = nI (k + 1) from nI_1 k]
                  exact ihm (k + 1) n (by omega)
                · rw [if_neg cz, if_neg cz]
            have := loop (gN σ 9 a) 0 (k_fu - gN σ 9 a - 1) (by omega)
            rw [show k_fu - gN σ 9 a - 1 + gN σ 9 a + 1 = k_fu by unfold k_fu; omega] at this
            exact this
          · rw [if_neg c9, if_neg c9, k_ld_n (by omega) (by omega)]
            by_cases c : σ.2.1 9 b ≤ σ.2.1 9 a
            · rw [if_pos c, if_pos c]
            · rw [if_neg c, if_neg c]
        · rw [if_neg c3, if_neg c3, k_ld_n (by omega) (by omega), k_ld_n (by omega) (by omega)]
          by_cases c : σ.2.1 3 b ≤ σ.2.1 3 a
          · rw [if_pos c, if_pos c]
          · rw [if_neg c, if_neg c]
      · rw [if_neg c2, if_neg c2, k_ld_n (by omega) (by omega), k_ld_n (by omega) (by omega)]
        by_cases c : σ.2.1 2 b ≤ σ.2.1 2 a
        · rw [if_pos c, if_pos c]
        · rw [if_neg c, if_neg c]
theorem F_compare {σ : kS} {T a b : Nat} (hF : FI σ T) (ha : a < T) (hb : b < T) : M_F_compare σ (nI a) (nI b) = some (cmpN σ 21 a b, σ) := by
  unfold M_F_compare
  have h := F_cmp hF 20 a b 0 ha hb ((hF.2.2.2 a ha).2.1.2.2.2.2.2.2.2.1) (by omega) 1
  rw [k_call_s (show M_F_compareFrom_r 22 σ (nI a) (nI b) 0 = _ from h)]
