/-! the net: a rule that may match -/
def cntF (σ : kS) (p : Nat) : Nat → Nat → Nat → Nat → Nat × Nat
  | 0 => fun _ need sev => (need, sev)
  | m + 1 => fun k need sev => cntF σ p m (k + 1) (if gN σ 2 (gN σ 10 (12 * p + k)) = 2 ∧ gN σ 4 (gN σ 10 (12 * p + k)) = 3 then need else need + 1) (if gN σ 2 (gN σ 10 (12 * p + k)) = 2 ∧ 2 ≤ gN σ 4 (gN σ 10 (12 * p + k)) then 1 else sev)
def mayS (σ : kS) (p t : Nat) : Int32 := if gN σ 3 p < 5 then (if gN σ 9 p = 0 then 1 else if gN σ 2 (gN σ 10 (12 * p)) = 2 then 1 else if gN σ 9 t = 0 then 0 else if gN σ 2 (gN σ 10 (12 * p)) = gN σ 2 (gN σ 10 (12 * t)) ∧ gN σ 3 (gN σ 10 (12 * p)) = gN σ 3 (gN σ 10 (12 * t)) then 1 else 0) else 1
def mayC (σ : kS) (p t : Nat) (N : Nat × Nat) : Int32 := if gN σ 9 t < N.1 then 0 else if N.2 = 0 ∧ gN σ 9 p < gN σ 9 t then 0 else 1
def mayN (σ : kS) (p t : Nat) : Int32 := if gN σ 2 p = 2 then (if gN σ 4 p = 1 then (if gN σ 2 t = 0 then 1 else 0) else 1) else if gN σ 2 p = gN σ 2 t ∧ gN σ 3 p = gN σ 3 t then (if gN σ 2 p = 0 then 1 else if mayC σ p t (cntF σ p (gN σ 9 p) 0 0 0) = 0 then 0 else mayS σ p t) else 0
theorem F_sort {σ : kS} {T t c : Nat} (hF : FI σ T) (ht : t < T) (hc : c < 2 ^ 31) : σ.2.1 2 t = nI c ↔ gN σ 2 t = c := by
  rw [(hF.2.2.2 t ht).1.1]
  have := (hF.2.2.2 t ht).2.1.1
  exact nI_eq (by omega) hc
theorem F_kind {σ : kS} {T t c : Nat} (hF : FI σ T) (ht : t < T) (hc : c < 2 ^ 31) : σ.2.1 4 t = nI c ↔ gN σ 4 t = c := by
  rw [(hF.2.2.2 t ht).1.2.2.1]
  have := (hF.2.2.2 t ht).2.1.2.2.2.2.1
  exact nI_eq (by omega) hc
theorem F_s0 {σ : kS} {T t : Nat} (hF : FI σ T) (ht : t < T) : σ.2.1 2 t = 0 ↔ gN σ 2 t = 0 := F_sort (c := 0) hF ht (by omega)
theorem F_s1 {σ : kS} {T t : Nat} (hF : FI σ T) (ht : t < T) : σ.2.1 2 t = 1 ↔ gN σ 2 t = 1 := F_sort (c := 1) hF ht (by omega)
theorem F_s2 {σ : kS} {T t : Nat} (hF : FI σ T) (ht : t < T) : σ.2.1 2 t = 2 ↔ gN σ 2 t = 2 := F_sort (c := 2) hF ht (by omega)
theorem F_k1 {σ : kS} {T t : Nat} (hF : FI σ T) (ht : t < T) : σ.2.1 4 t = 1 ↔ gN σ 4 t = 1 := F_kind (c := 1) hF ht (by omega)
theorem F_k2 {σ : kS} {T t : Nat} (hF : FI σ T) (ht : t < T) : σ.2.1 4 t = 2 ↔ gN σ 4 t = 2 := F_kind (c := 2) hF ht (by omega)
theorem F_k3 {σ : kS} {T t : Nat} (hF : FI σ T) (ht : t < T) : σ.2.1 4 t = 3 ↔ gN σ 4 t = 3 := F_kind (c := 3) hF ht (by omega)
theorem F_sort2 {σ : kS} {T t u : Nat} (hF : FI σ T) (ht : t < T) (hu : u < T) : σ.2.1 2 t = σ.2.1 2 u ↔ gN σ 2 t = gN σ 2 u := by
  rw [(hF.2.2.2 u hu).1.1]
  have := (hF.2.2.2 u hu).2.1.1
  exact F_sort hF ht (by omega)
theorem F_name2 {σ : kS} {T t u : Nat} (hF : FI σ T) (ht : t < T) (hu : u < T) : σ.2.1 3 t = σ.2.1 3 u ↔ gN σ 3 t = gN σ 3 u := by
  rw [(hF.2.2.2 t ht).1.2.1, (hF.2.2.2 u hu).1.2.1]
  have := (hF.2.2.2 t ht).2.1.2.1
  have := (hF.2.2.2 u hu).2.1.2.1
  exact nI_eq (by omega) (by omega)
theorem F_isHole {σ : kS} {T t : Nat} (hF : FI σ T) (ht : t < T) : M_F_isHole σ (nI t) = some (if gN σ 2 t = 2 then 1 else 0, σ) := by
  have := hF.1
  unfold M_F_isHole
  rw [k_ld_n (by omega) (by omega)]
  by_cases c : gN σ 2 t = 2
  · rw [if_pos c, if_pos ((F_s2 hF ht).mpr c)]
  · rw [if_neg c, if_neg (fun e => c ((F_s2 hF ht).mp e))]
theorem F_isLeaf {σ : kS} {T t : Nat} (hF : FI σ T) (ht : t < T) : M_F_isLeaf σ (nI t) = some (if gN σ 2 t = 0 then 1 else 0, σ) := by
  have := hF.1
  unfold M_F_isLeaf
  rw [k_ld_n (by omega) (by omega)]
  by_cases c : gN σ 2 t = 0
  · rw [if_pos c, if_pos ((F_s0 hF ht).mpr c)]
  · rw [if_neg c, if_neg (fun e => c ((F_s0 hF ht).mp e))]
theorem F_isNode {σ : kS} {T t : Nat} (hF : FI σ T) (ht : t < T) : M_F_isNode σ (nI t) = some (if gN σ 2 t = 1 then 1 else 0, σ) := by
  have := hF.1
  unfold M_F_isNode
  rw [k_ld_n (by omega) (by omega)]
  by_cases c : gN σ 2 t = 1
  · rw [if_pos c, if_pos ((F_s1 hF ht).mpr c)]
  · rw [if_neg c, if_neg (fun e => c ((F_s1 hF ht).mp e))]
theorem F_isHoleK {σ : kS} {T t k : Nat} (hF : FI σ T) (ht : t < T) (hk : k < 2 ^ 31) : M_F_isHoleOfKind σ (nI t) (nI k) = some (if gN σ 2 t = 2 ∧ gN σ 4 t = k then 1 else 0, σ) := by
  have := hF.1
  unfold M_F_isHoleOfKind
  rw [k_ld_n (by omega) (by omega)]
  by_cases c : gN σ 2 t = 2
  · rw [if_pos ((F_s2 hF ht).mpr c), k_ld_n (by omega) (by omega)]
    by_cases d : gN σ 4 t = k
    · rw [if_pos ((F_kind hF ht hk).mpr d), if_pos ⟨c, d⟩]
    · rw [if_neg (fun e => d ((F_kind hF ht hk).mp e)), if_neg (fun e => d e.2)]
  · rw [if_neg (fun e => c ((F_s2 hF ht).mp e)), if_neg (fun e => c e.1)]
theorem F_several {σ : kS} {T t : Nat} (hF : FI σ T) (ht : t < T) : M_F_takesSeveral σ (nI t) = some (if gN σ 2 t = 2 ∧ 2 ≤ gN σ 4 t then 1 else 0, σ) := by
  have hk := (hF.2.2.2 t ht).2.1.2.2.2.2.1
  unfold M_F_takesSeveral
  rw [k_call_s (show M_F_isHoleOfKind σ (nI t) 2 = _ from F_isHoleK (k := 2) hF ht (by omega))]
  by_cases c : gN σ 2 t = 2 ∧ gN σ 4 t = 2
  · rw [if_pos c, if_neg (by decide), if_pos ⟨c.1, by omega⟩]
  · rw [if_neg c, if_pos rfl, k_call_s (show M_F_isHoleOfKind σ (nI t) 3 = _ from F_isHoleK (k := 3) hF ht (by omega))]
    by_cases d : gN σ 2 t = 2 ∧ gN σ 4 t = 3
    · rw [if_pos d, if_neg (by decide), if_pos ⟨d.1, by omega⟩]
    · rw [if_neg d, if_pos rfl, if_neg (fun e => by
        rcases (show gN σ 4 t = 2 ∨ gN σ 4 t = 3 by omega) with h | h
        · exact c ⟨e.1, h⟩
        · exact d ⟨e.1, h⟩)]
theorem F_likes {σ : kS} {T t u : Nat} (hF : FI σ T) (ht : t < T) (hu : u < T) : M_F_looksLike σ (nI t) (nI u) = some (if gN σ 2 t = gN σ 2 u ∧ gN σ 3 t = gN σ 3 u then 1 else 0, σ) := by
  have := hF.1
  unfold M_F_looksLike
  rw [k_ld_n (by omega) (by omega), k_ld_n (by omega) (by omega), k_ld_n (by omega) (by omega), k_ld_n (by omega) (by omega)]
  by_cases c : gN σ 2 t = gN σ 2 u
  · rw [if_pos ((F_sort2 hF ht hu).mpr c)]
    by_cases d : gN σ 3 t = gN σ 3 u
    · rw [if_pos ((F_name2 hF ht hu).mpr d), if_pos ⟨c, d⟩]
    · rw [if_neg (fun e => d ((F_name2 hF ht hu).mp e)), if_neg (fun e => d e.2)]
  · rw [if_neg (fun e => c ((F_sort2 hF ht hu).mp e)), if_neg (fun e => c e.1)]
theorem F_partAt {σ : kS} {T t k : Nat} (hF : FI σ T) (ht : t < T) (hk : k < gN σ 9 t) : M_F_partAt σ (nI t) (nI k) = some (nI (gN σ 10 (12 * t + k)), σ) := by
  have := hF.1
  have := (hF.2.2.2 t ht).2.1.2.2.2.2.2.2.2.2.2.2.1
  unfold M_F_partAt
  rw [k_i12, k_ld_n (by omega) (by omega), ((hF.2.2.2 t ht).2.2.1 k hk).1]
theorem F_count {σ : kS} {T p t : Nat} (hF : FI σ T) (hp : p < T) (ht : t < T) : ∀ m k n need sev, k + m = gN σ 9 p → need ≤ k → sev ≤ 1 → M_F_hasFittingCount_8 (n + m + 1) σ (nI p) (nI t) (nI need) (nI sev) (nI k) = some (mayC σ p t (cntF σ p m k need sev), σ) := by
  have hT := hF.1
  have ap := (hF.2.2.2 p hp).1.2.2.2.2.2.2.2.1
  have at9 := (hF.2.2.2 t ht).1.2.2.2.2.2.2.2.1
  have bp := (hF.2.2.2 p hp).2.1.2.2.2.2.2.2.2.2.2.2.1
  have bt := (hF.2.2.2 t ht).2.1.2.2.2.2.2.2.2.2.2.2.1
  intro m
  induction m with
  | zero =>
    intro k n need sev hk hn hs
    show M_F_hasFittingCount_8_b _ _ _ _ _ _ _ = some (mayC σ p t (need, sev), σ)
    unfold M_F_hasFittingCount_8_b mayC
    rw [k_ld_n (by omega) (by omega), ap, if_pos (nI_le (by omega) (by omega)), k_ld_n (by omega) (by omega), at9]
    by_cases c1 : gN σ 9 t < need
    · rw [if_pos (nI_lt c1 (by omega)), if_pos c1]
    · rw [if_neg (nI_nlt (by omega) (by omega)), if_neg c1]
      by_cases c2 : sev = 0
      · rw [if_pos ((nI_z (by omega)).mpr c2), k_ld_n (by omega) (by omega), at9, k_ld_n (by omega) (by omega), ap]
        by_cases c3 : gN σ 9 p < gN σ 9 t
        · rw [if_pos (nI_lt c3 (by omega)), if_pos ⟨c2, c3⟩]
        · rw [if_neg (nI_nlt (by omega) (by omega)), if_neg (fun e => c3 e.2)]
      · rw [if_neg (fun e => c2 ((nI_z (by omega)).mp e)), if_neg (fun e => c2 e.1)]
  | succ m ih =>
    intro k n need sev hk hn hs
    obtain ⟨q1, q2, q3, q4⟩ := (hF.2.2.2 p hp).2.2.1 k (by omega)
    show M_F_hasFittingCount_8_b (M_F_hasFittingCount_8 (n + m + 1)) _ _ _ _ _ _ = some (mayC σ p t (cntF σ p m (k + 1) _ _), σ)
    generalize hq : gN σ 10 (12 * p + k) = q at *
    have h41 : ∀ need', need' ≤ k + 1 → M_F_hasFittingCount_41 (M_F_hasFittingCount_8 (n + m + 1)) σ (nI p) (nI t) (nI need') (nI sev) (nI k) (nI q) = some (mayC σ p t (cntF σ p m (k + 1) need' (if gN σ 2 q = 2 ∧ 2 ≤ gN σ 4 q then 1 else sev)), σ) := by
      intro need' hn'
      unfold M_F_hasFittingCount_41
      by_cases c2 : sev = 0
      · rw [if_pos ((nI_z (by omega)).mpr c2), k_call_s (F_several hF q2)]
        by_cases c : gN σ 2 q = 2 ∧ 2 ≤ gN σ 4 q
        · rw [if_pos c, if_neg (by decide), if_pos c, k_let_r, nI_1]
          exact ih (k + 1) n need' 1 (by omega) (by omega) (by omega)
        · rw [if_neg c, if_pos rfl, if_neg c, k_let_r, nI_1, c2]
          exact ih (k + 1) n need' 0 (by omega) (by omega) (by omega)
      · have s1 : sev = 1 := by omega
        rw [if_neg (fun e => c2 ((nI_z (by omega)).mp e)), k_let_r, nI_1, s1]
        have : (if gN σ 2 q = 2 ∧ 2 ≤ gN σ 4 q then 1 else 1) = 1 := by split <;> rfl
        rw [this]
        exact ih (k + 1) n need' 1 (by omega) (by omega) (by omega)
    unfold M_F_hasFittingCount_8_b
    rw [k_ld_n (by omega) (by omega), ap, if_neg (nI_ge (by omega) (by omega)), k_call_s (F_partAt hF hp (by omega)), hq, k_call_s (show M_F_isHoleOfKind σ (nI q) 3 = _ from F_isHoleK (k := 3) hF q2 (by omega))]
    by_cases c : gN σ 2 q = 2 ∧ gN σ 4 q = 3
    · rw [if_pos c, if_neg (by decide), if_pos c]
      exact h41 need (by omega)
    · rw [if_neg c, if_pos rfl, if_neg c, k_let_r, nI_1]
      exact h41 (need + 1) (by omega)
theorem F_start {σ : kS} {T p t : Nat} (hF : FI σ T) (hp : p < T) (ht : t < T) (hs : gN σ 2 p = 1) : M_F_hasFittingStart σ (nI p) (nI t) = some (mayS σ p t, σ) := by
  have hT := hF.1
  have a3 := (hF.2.2.2 p hp).1.2.1
  have b3 := (hF.2.2.2 p hp).2.1.2.1
  have ap := (hF.2.2.2 p hp).1.2.2.2.2.2.2.2.1
  have at9 := (hF.2.2.2 t ht).1.2.2.2.2.2.2.2.1
  have bp := (hF.2.2.2 p hp).2.1.2.2.2.2.2.2.2.2.2.2.1
  have bt := (hF.2.2.2 t ht).2.1.2.2.2.2.2.2.2.2.2.2.1
  unfold M_F_hasFittingStart M_F_isAnyOrder mayS
  rw [k_ld_n (by omega) (by omega), k_ld_n (by omega) (by omega), (hF.2.2.2 p hp).1.1, hs, if_pos (show nI 1 = 1 from rfl), a3]
  by_cases c3 : gN σ 3 p < 5
  · rw [if_pos (show nI (gN σ 3 p) < 5 from nI_lt (b := 5) c3 (by omega)), k_call_s rfl, if_pos rfl, if_pos c3, k_ld_n (by omega) (by omega), ap]
    by_cases c9 : gN σ 9 p = 0
    · rw [if_pos ((nI_z (by omega)).mpr c9), if_pos c9]
    · rw [if_neg (fun e => c9 ((nI_z (by omega)).mp e)), if_neg c9]
      have q2 := ((hF.2.2.2 p hp).2.2.1 0 (by omega)).2.1
      rw [show (0 : Int32) = nI 0 from rfl, k_call_s (F_partAt hF hp (by omega)), k_call_s (F_isHole hF q2)]
      rw [Nat.add_zero] at q2 ⊢
      by_cases cq : gN σ 2 (gN σ 10 (12 * p)) = 2
      · rw [if_pos cq, if_pos cq, if_neg (by decide)]
      · rw [if_neg cq, if_neg cq, if_pos (show (0 : Int32) = nI 0 from rfl), k_ld_n (by omega) (by omega), at9]
        by_cases ct : gN σ 9 t = 0
        · rw [if_pos (show nI (gN σ 9 t) ≤ nI 0 from nI_le (by omega) (by omega)), if_pos ct]
        · have r2 := ((hF.2.2.2 t ht).2.2.1 0 (by omega)).2.1
          rw [if_neg (show ¬ nI (gN σ 9 t) ≤ nI 0 from nI_ge (by omega) (by omega)), if_neg ct, k_call_s (F_partAt hF hp (by omega)), k_call_s (F_partAt hF ht (by omega)), Nat.add_zero, Nat.add_zero, k_call_s (F_likes hF q2 (by rw [Nat.add_zero] at r2; exact r2))]
          by_cases cl : gN σ 2 (gN σ 10 (12 * p)) = gN σ 2 (gN σ 10 (12 * t)) ∧ gN σ 3 (gN σ 10 (12 * p)) = gN σ 3 (gN σ 10 (12 * t))
          · rw [if_pos cl, if_neg (by decide), if_pos cl]
          · rw [if_neg cl, if_pos (show (0 : Int32) = nI 0 from rfl), if_neg cl]
  · rw [if_neg (show ¬ nI (gN σ 3 p) < 5 from nI_nlt (b := 5) (by omega) (by omega)), k_call_s rfl, if_neg (by decide), if_neg c3]
theorem F_may {σ : kS} {T p t : Nat} (hF : FI σ T) (hp : p < T) (ht : t < T) : M_F_mayMatch σ (nI p) (nI t) = some (mayN σ p t, σ) := by
  have hT := hF.1
  have bp := (hF.2.2.2 p hp).2.1.2.2.2.2.2.2.2.2.2.2.1
  unfold M_F_mayMatch mayN
  rw [k_call_s (F_isHole hF hp)]
  by_cases c2 : gN σ 2 p = 2
  · rw [if_pos c2, if_neg (by decide), if_pos c2, k_ld_n (by omega) (by omega)]
    by_cases c4 : gN σ 4 p = 1
    · rw [if_pos c4, if_pos ((F_k1 hF hp).mpr c4), k_call_s (F_isLeaf hF ht)]
      by_cases ct : gN σ 2 t = 0
      · rw [if_pos ct, if_neg (by decide)]
      · rw [if_neg ct, if_pos rfl]
    · rw [if_neg c4, if_neg (fun e => c4 ((F_k1 hF hp).mp e))]
  · rw [if_neg c2, if_pos rfl, if_neg c2, k_call_s (F_likes hF hp ht)]
    by_cases cl : gN σ 2 p = gN σ 2 t ∧ gN σ 3 p = gN σ 3 t
    · rw [if_pos cl, if_neg (by decide), if_pos cl, k_call_s (F_isLeaf hF hp)]
      by_cases c0 : gN σ 2 p = 0
      · rw [if_pos c0, if_pos c0, if_neg (by decide)]
      · have hs : gN σ 2 p = 1 := by have := (hF.2.2.2 p hp).2.1.1; omega
        rw [if_neg c0, if_neg c0, if_pos rfl]
        have hc : M_F_hasFittingCount σ (nI p) (nI t) = some (mayC σ p t (cntF σ p (gN σ 9 p) 0 0 0), σ) := by
          have := F_count hF hp ht (gN σ 9 p) 0 (k_fu - gN σ 9 p - 1) 0 0 (by omega) (by omega) (by omega)
          rw [show k_fu - gN σ 9 p - 1 + gN σ 9 p + 1 = k_fu by unfold k_fu; omega] at this
          exact this
        rw [k_call_s hc]
        by_cases cc : mayC σ p t (cntF σ p (gN σ 9 p) 0 0 0) = 0
        · rw [if_pos cc, if_pos cc]
        · rw [if_neg cc, if_neg cc, k_call_s (F_start hF hp ht hs)]
          by_cases cs : mayS σ p t = 0
          · rw [if_pos cs, cs]
          · rw [if_neg cs]
            have : mayS σ p t = 1 := by
              unfold mayS at cs ⊢
              split
              · split
                · rfl
                · split
                  · rfl
                  · split
                    · rename_i h1 h2 h3 h4
                      rw [if_pos h1, if_neg h2, if_neg h3, if_pos h4] at cs
                      exact absurd rfl cs
                    · split
                      · rfl
                      · rename_i h1 h2 h3 h4 h5
                        rw [if_pos h1, if_neg h2, if_neg h3, if_neg h4, if_neg h5] at cs
                        exact absurd rfl cs
              · rfl
            rw [this]
    · rw [if_neg cl, if_pos rfl, if_neg cl]
