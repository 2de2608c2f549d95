/-- the model's trees in b are those of s -/
def FM (s b : kS) : Prop := b.2.1 26 = s.2.1 2 ∧ b.2.1 27 = s.2.1 3 ∧ b.2.1 28 = s.2.1 4 ∧ b.2.1 29 = s.2.1 9 ∧ b.2.1 30 = s.2.1 10
theorem FM_of {s : kS} (h : FE s) : FM s s := ⟨h.2.1, h.2.2.1, h.2.2.2.1, h.2.2.2.2.2.2.2.2.1, h.2.2.2.2.2.2.2.2.2.1⟩
theorem Md_severals {s b : kS} {T t : Nat} (hF : FI s T) (hM : FM s b) (ht : t < T) : M_Md_severals b (nI t) = some (if gN s 2 t = 2 ∧ 2 ≤ gN s 4 t then 1 else 0, b) := by
  have hT := hF.1
  have hk := (hF.2.2.2 t ht).2.1.2.2.2.2.1
  unfold M_Md_severals
  rw [k_ld_n (by omega) (by omega), k_ld_n (by omega) (by omega), hM.1, hM.2.2.1]
  by_cases c : gN s 2 t = 2
  · rw [if_pos ((F_s2 hF ht).mpr c), (hF.2.2.2 t ht).1.2.2.1]
    by_cases d : 2 ≤ gN s 4 t
    · rw [if_neg (show ¬ nI (gN s 4 t) ≤ 1 from nI_ge (a := 1) (by omega) (by omega)), if_pos ⟨c, d⟩]
    · rw [if_pos (show nI (gN s 4 t) ≤ 1 from nI_le (b := 1) (by omega) (by omega)), if_neg (fun e => d e.2)]
  · rw [if_neg (fun e => c ((F_s2 hF ht).mp e)), if_neg (fun e => c e.1)]
theorem cntF_ge (σ : kS) (p : Nat) : ∀ m k need sev, need ≤ (cntF σ p m k need sev).1 := by
  intro m
  induction m with
  | zero => intro k need sev; exact Nat.le_refl _
  | succ m ih =>
    intro k need sev
    show need ≤ (cntF σ p m (k + 1) (if _ then need else need + 1) _).1
    split
    · exact ih _ _ _
    · exact Nat.le_trans (by omega) (ih (k + 1) (need + 1) _)
theorem Md_may195 {s b : kS} {T p t : Nat} (hF : FI s T) (hM : FM s b) (hp : p < T) (ht : t < T) (x1 x4 x5 x6 : Int32) (h1 : gN s 9 p ≠ 0 → gN s 2 (gN s 10 (12 * p)) ≠ 2 → gN s 9 t ≠ 0) : M_Md_may_195 b x1 (nI t) (nI p) x4 x5 x6 = some (mayS s p t, b) := by
  have hT := hF.1
  have a3 := (hF.2.2.2 p hp).1.2.1
  have b3 := (hF.2.2.2 p hp).2.1.2.1
  have ap := (hF.2.2.2 p hp).1.2.2.2.2.2.2.2.1
  have bp := (hF.2.2.2 p hp).2.1.2.2.2.2.2.2.2.2.2.2.1
  obtain ⟨m2, m3, m4, m9, m10⟩ := hM
  unfold M_Md_may_195 M_Md_anyOrder mayS
  rw [k_ld_n (by omega) (by omega), m3, a3]
  by_cases c3 : gN s 3 p < 5
  · rw [if_pos (show nI (gN s 3 p) ≤ 4 from nI_le (b := 4) (by omega) (by omega)), k_call_s rfl, if_pos rfl, if_pos c3, k_ld_n (by omega) (by omega), m9, ap]
    by_cases c9 : gN s 9 p = 0
    · rw [if_pos ((nI_z (by omega)).mpr c9), if_pos c9]
    · rw [if_neg (fun e => c9 ((nI_z (by omega)).mp e)), if_neg c9]
      obtain ⟨q1, q2, -⟩ := (hF.2.2.2 p hp).2.2.1 0 (by omega)
      rw [Nat.add_zero] at q1 q2
      rw [show 12 * nI p = nI (12 * p) by rw [show (12 : Int32) = nI 12 from rfl, pk_mul], k_ld_n (by omega) (by omega), m10, q1, k_ld_n (by omega) (by omega), m2]
      by_cases cq : gN s 2 (gN s 10 (12 * p)) = 2
      · rw [if_pos cq, if_pos ((F_s2 hF q2).mpr cq)]
      · rw [if_neg cq, if_neg (fun e => cq ((F_s2 hF q2).mp e))]
        have ct := h1 c9 cq
        obtain ⟨r1, r2, -⟩ := (hF.2.2.2 t ht).2.2.1 0 (by omega)
        rw [Nat.add_zero] at r1 r2
        rw [if_neg ct, show 12 * nI t = nI (12 * t) by rw [show (12 : Int32) = nI 12 from rfl, pk_mul], k_ld_n (by omega) (by omega), r1, k_ld_n (by omega) (by omega), k_ld_n (by omega) (by omega)]
        by_cases c2 : gN s 2 (gN s 10 (12 * p)) = gN s 2 (gN s 10 (12 * t))
        · rw [if_pos ((F_sort2 hF r2 q2).mpr c2.symm), k_ld_n (by omega) (by omega), k_ld_n (by omega) (by omega), m3]
          by_cases d3 : gN s 3 (gN s 10 (12 * p)) = gN s 3 (gN s 10 (12 * t))
          · rw [if_pos ((F_name2 hF r2 q2).mpr d3.symm), if_pos ⟨c2, d3⟩]
          · rw [if_neg (fun e => d3 ((F_name2 hF r2 q2).mp e).symm), if_neg (fun e => d3 e.2)]
        · rw [if_neg (fun e => c2 ((F_sort2 hF r2 q2).mp e).symm), if_neg (fun e => c2 e.1)]
  · rw [if_neg (show ¬ nI (gN s 3 p) ≤ 4 from nI_ge (a := 4) (by omega) (by omega)), k_call_s rfl, if_neg (by decide), if_neg c3]
theorem Md_mayL {s b : kS} {T p t : Nat} (hF : FI s T) (hM : FM s b) (hp : p < T) (ht : t < T) (x1 : Int32) : ∀ m k n need sev, k + m = gN s 9 p → need ≤ k → sev ≤ 1 → (gN s 9 p ≠ 0 → gN s 2 (gN s 10 (12 * p)) ≠ 2 → 1 ≤ (cntF s p m k need sev).1) → M_Md_may_94 (n + m + 1) b x1 (nI t) (nI p) (nI need) (nI sev) (nI k) = some (if mayC s p t (cntF s p m k need sev) = 0 then 0 else mayS s p t, b) := by
  have hT := hF.1
  have ap := (hF.2.2.2 p hp).1.2.2.2.2.2.2.2.1
  have at9 := (hF.2.2.2 t ht).1.2.2.2.2.2.2.2.1
  have bp := (hF.2.2.2 p hp).2.1.2.2.2.2.2.2.2.2.2.2.1
  have bt := (hF.2.2.2 t ht).2.1.2.2.2.2.2.2.2.2.2.2.1
  obtain ⟨m2, m3, m4, m9, m10⟩ := id hM
  intro m
  induction m with
  | zero =>
    intro k n need sev hk hn hs h1
    have h1' : gN s 9 p ≠ 0 → gN s 2 (gN s 10 (12 * p)) ≠ 2 → 1 ≤ need := h1
    show M_Md_may_94_b _ _ _ _ _ _ _ _ = some (if mayC s p t (need, sev) = 0 then 0 else _, b)
    unfold M_Md_may_94_b
    rw [k_ld_n (by omega) (by omega), m9, ap, if_pos (nI_le (by omega) (by omega)), k_ld_n (by omega) (by omega), at9]
    by_cases c1 : gN s 9 t < need
    · have hc : mayC s p t (need, sev) = 0 := if_pos c1
      rw [if_pos (nI_lt c1 (by omega)), hc, if_pos rfl]
    · have e195 := fun x4 x5 x6 => Md_may195 hF hM hp ht x1 x4 x5 x6 (fun a c => by have := h1' a c; omega)
      have hc0 : mayC s p t (need, sev) = if sev = 0 ∧ gN s 9 p < gN s 9 t then 0 else 1 := if_neg c1
      rw [if_neg (nI_nlt (by omega) (by omega)), hc0]
      by_cases c2 : sev = 0
      · rw [if_pos ((nI_z (by omega)).mpr c2), k_ld_n (by omega) (by omega), at9, k_ld_n (by omega) (by omega), ap]
        by_cases c3 : gN s 9 p < gN s 9 t
        · rw [if_neg (nI_ge c3 (by omega)), if_pos (c := sev = 0 ∧ gN s 9 p < gN s 9 t) ⟨c2, c3⟩, if_pos rfl]
        · rw [if_pos (nI_le (by omega) (by omega)), if_neg (c := sev = 0 ∧ gN s 9 p < gN s 9 t) (fun e => c3 e.2), if_neg (by decide), e195]
      · rw [if_neg (fun e => c2 ((nI_z (by omega)).mp e)), if_neg (c := sev = 0 ∧ gN s 9 p < gN s 9 t) (fun e => c2 e.1), if_neg (by decide), e195]
  | succ m ih =>
    intro k n need sev hk hn hs h1
    obtain ⟨q1, q2, q3, q4⟩ := (hF.2.2.2 p hp).2.2.1 k (by omega)
    show M_Md_may_94_b (M_Md_may_94 (n + m + 1)) _ _ _ _ _ _ _ = some (if mayC s p t (cntF s p m (k + 1) _ _) = 0 then 0 else _, b)
    have h1' : gN s 9 p ≠ 0 → gN s 2 (gN s 10 (12 * p)) ≠ 2 → 1 ≤ (cntF s p m (k + 1) (if gN s 2 (gN s 10 (12 * p + k)) = 2 ∧ gN s 4 (gN s 10 (12 * p + k)) = 3 then need else need + 1) (if gN s 2 (gN s 10 (12 * p + k)) = 2 ∧ 2 ≤ gN s 4 (gN s 10 (12 * p + k)) then 1 else sev)).1 := h1
    generalize hq : gN s 10 (12 * p + k) = q at *
    have h144 : ∀ need', need' ≤ k + 1 → (gN s 9 p ≠ 0 → gN s 2 (gN s 10 (12 * p)) ≠ 2 → 1 ≤ (cntF s p m (k + 1) need' (if gN s 2 q = 2 ∧ 2 ≤ gN s 4 q then 1 else sev)).1) → M_Md_may_144 (M_Md_may_94 (n + m + 1)) b x1 (nI t) (nI p) (nI need') (nI sev) (nI k) (nI q) = some (if mayC s p t (cntF s p m (k + 1) need' (if gN s 2 q = 2 ∧ 2 ≤ gN s 4 q then 1 else sev)) = 0 then 0 else mayS s p t, b) := by
      intro need' hn' h2
      unfold M_Md_may_144
      rw [k_call_s (Md_severals hF hM q2)]
      by_cases c : gN s 2 q = 2 ∧ 2 ≤ gN s 4 q
      · rw [if_pos c] at h2 ⊢
        rw [if_neg (by decide), k_let_r, nI_1, if_pos c]
        exact ih (k + 1) n need' 1 (by omega) (by omega) (by omega) h2
      · rw [if_neg c] at h2 ⊢
        rw [if_pos rfl, k_let_r, nI_1, if_neg c]
        exact ih (k + 1) n need' sev (by omega) (by omega) (by omega) h2
    unfold M_Md_may_94_b M_Md_may_141
    rw [k_ld_n (by omega) (by omega), m9, ap, if_neg (nI_ge (by omega) (by omega)), k_12i, k_ld_n (by omega) (by omega), m10, q1, k_ld_n (by omega) (by omega), m2, k_ld_n (by omega) (by omega), m4]
    by_cases c2 : gN s 2 q = 2
    · rw [if_pos ((F_s2 hF q2).mpr c2)]
      by_cases c4 : gN s 4 q = 3
      · rw [if_pos ((F_k3 hF q2).mpr c4)]
        rw [if_pos (c := gN s 2 q = 2 ∧ gN s 4 q = 3) ⟨c2, c4⟩] at h1' ⊢
        exact h144 need (by omega) h1'
      · rw [if_neg (fun e => c4 ((F_k3 hF q2).mp e)), k_let_r, nI_1]
        rw [if_neg (c := gN s 2 q = 2 ∧ gN s 4 q = 3) (fun e => c4 e.2)] at h1' ⊢
        exact h144 (need + 1) (by omega) h1'
    · rw [if_neg (fun e => c2 ((F_s2 hF q2).mp e)), k_let_r, nI_1]
      rw [if_neg (c := gN s 2 q = 2 ∧ gN s 4 q = 3) (fun e => c2 e.1)] at h1' ⊢
      exact h144 (need + 1) (by omega) h1'
theorem Md_may {s b : kS} {T p t r : Nat} (hF : FI s T) (hM : FM s b) (hp : p < T) (ht : t < T) (hr : r < 30) (e38 : b.2.1 38 r = nI p) : M_Md_may b (nI r) (nI t) = some (mayN s p t, b) := by
  have hT := hF.1
  have bp := (hF.2.2.2 p hp).2.1.2.2.2.2.2.2.2.2.2.2.1
  obtain ⟨m2, m3, m4, m9, m10⟩ := id hM
  unfold M_Md_may mayN
  rw [k_ld_n (by omega) (by omega), e38]
  simp only [k_ld_n (show p < 240 by omega) (show 240 < 2 ^ 31 by omega), k_ld_n (show t < 240 by omega) (show 240 < 2 ^ 31 by omega)]
  rw [m2, m3, m4]
  by_cases c2 : gN s 2 p = 2
  · rw [if_pos c2, if_pos ((F_s2 hF hp).mpr c2)]
    by_cases c4 : gN s 4 p = 1
    · rw [if_pos c4, if_pos ((F_k1 hF hp).mpr c4)]
      by_cases ct : gN s 2 t = 0
      · rw [if_pos ct, if_pos ((F_s0 hF ht).mpr ct)]
      · rw [if_neg ct, if_neg (fun e => ct ((F_s0 hF ht).mp e))]
    · rw [if_neg c4, if_neg (fun e => c4 ((F_k1 hF hp).mp e))]
  · rw [if_neg c2, if_neg (fun e => c2 ((F_s2 hF hp).mp e))]
    by_cases d2 : gN s 2 p = gN s 2 t
    · rw [if_pos ((F_sort2 hF hp ht).mpr d2)]
      by_cases d3 : gN s 3 p = gN s 3 t
      · rw [if_pos ((F_name2 hF hp ht).mpr d3), if_pos (c := gN s 2 p = gN s 2 t ∧ gN s 3 p = gN s 3 t) ⟨d2, d3⟩]
        by_cases c0 : gN s 2 p = 0
        · rw [if_pos c0, if_pos ((F_s0 hF hp).mpr c0)]
        · rw [if_neg c0, if_neg (fun e => c0 ((F_s0 hF hp).mp e))]
          have := Md_mayL hF hM hp ht (nI r) (gN s 9 p) 0 (k_fu - gN s 9 p - 1) 0 0 (by omega) (by omega) (by omega) (fun h9 hh => by
            obtain ⟨c, hc⟩ : ∃ c, gN s 9 p = c + 1 := ⟨gN s 9 p - 1, by omega⟩
            rw [hc]
            show 1 ≤ (cntF s p c 1 (if gN s 2 (gN s 10 (12 * p + 0)) = 2 ∧ _ then 0 else 0 + 1) _).1
            rw [if_neg (fun e => hh (by have := e.1; rw [Nat.add_zero] at this; exact this))]
            exact cntF_ge s p c 1 1 _)
          rw [show k_fu - gN s 9 p - 1 + gN s 9 p + 1 = k_fu by unfold k_fu; omega] at this
          exact this
      · rw [if_neg (fun e => d3 ((F_name2 hF hp ht).mp e)), if_neg (fun e => d3 e.2)]
    · rw [if_neg (fun e => d2 ((F_sort2 hF hp ht).mp e)), if_neg (fun e => d2 e.1)]
theorem cntF_congr {s σ : kS} (h2 : σ.2.1 2 = s.2.1 2) (h4 : σ.2.1 4 = s.2.1 4) (h10 : σ.2.1 10 = s.2.1 10) (p : Nat) : ∀ m k need sev, cntF σ p m k need sev = cntF s p m k need sev := by
  have g2 : ∀ i, gN σ 2 i = gN s 2 i := fun i => by unfold gN; rw [h2]
  have g4 : ∀ i, gN σ 4 i = gN s 4 i := fun i => by unfold gN; rw [h4]
  have g10 : ∀ i, gN σ 10 i = gN s 10 i := fun i => by unfold gN; rw [h10]
  intro m
  induction m with
  | zero => intro k need sev; rfl
  | succ m ih =>
    intro k need sev
    show cntF σ p m (k + 1) (if gN σ 2 (gN σ 10 (12 * p + k)) = 2 ∧ gN σ 4 (gN σ 10 (12 * p + k)) = 3 then need else need + 1) (if gN σ 2 (gN σ 10 (12 * p + k)) = 2 ∧ 2 ≤ gN σ 4 (gN σ 10 (12 * p + k)) then 1 else sev) = _
    rw [ih, g10, g2, g4]
    rfl
theorem mayN_congr {s σ : kS} (h2 : σ.2.1 2 = s.2.1 2) (h3 : σ.2.1 3 = s.2.1 3) (h4 : σ.2.1 4 = s.2.1 4) (h9 : σ.2.1 9 = s.2.1 9) (h10 : σ.2.1 10 = s.2.1 10) (p t : Nat) : mayN σ p t = mayN s p t := by
  have g2 : ∀ i, gN σ 2 i = gN s 2 i := fun i => by unfold gN; rw [h2]
  have g3 : ∀ i, gN σ 3 i = gN s 3 i := fun i => by unfold gN; rw [h3]
  have g4 : ∀ i, gN σ 4 i = gN s 4 i := fun i => by unfold gN; rw [h4]
  have g9 : ∀ i, gN σ 9 i = gN s 9 i := fun i => by unfold gN; rw [h9]
  have g10 : ∀ i, gN σ 10 i = gN s 10 i := fun i => by unfold gN; rw [h10]
  unfold mayN mayC mayS
  simp only [g2, g3, g4, g9, g10, cntF_congr h2 h4 h10]
/-- both nets, from rule k on, with n told: what is told, and how many -/
def netF (s : kS) (t : Nat) : Nat → Nat → Nat → (Nat → Int32) → Nat × (Nat → Int32)
  | 0 => fun _ n f => (n, f)
  | m + 1 => fun k n f => if mayN s (gN s 0 k) t = 0 then netF s t m (k + 1) n f else netF s t m (k + 1) (n + 1) (upd f n (nI k))
theorem netF_le (s : kS) (t : Nat) : ∀ m k n f, (netF s t m k n f).1 ≤ n + m := by
  intro m
  induction m with
  | zero => intro k n f; exact Nat.le_refl _
  | succ m ih =>
    intro k n f
    show (if _ then netF s t m (k + 1) n f else netF s t m (k + 1) (n + 1) _).1 ≤ _
    split
    · have := ih (k + 1) n f; omega
    · have := ih (k + 1) (n + 1) (upd f n (nI k)); omega
theorem sA_sS {σ : kS} {j i : Nat} {f : Nat → Int32} {x : Int32} : k_sA (k_sS σ i x) j f = k_sS (k_sA σ j f) i x := rfl
theorem sS_sS {σ : kS} {i : Nat} {x y : Int32} : k_sS (k_sS σ i x) i y = k_sS σ i y := by
  unfold k_sS
  congr 1
  funext k
  show upd (upd σ.1 i x) i y k = upd σ.1 i y k
  by_cases e : k = i
  · rw [e, k_upd_s, k_upd_s]
  · rw [k_upd_n e, k_upd_n e, k_upd_n e]
theorem sA_sA {σ : kS} {i : Nat} {f g : Nat → Int32} : k_sA (k_sA σ i f) i g = k_sA σ i g := by
  unfold k_sA
  congr 2
  funext k
  show va_up (va_up σ.2.1 i f) i g k = va_up σ.2.1 i g k
  by_cases e : k = i
  · rw [e]; exact (if_pos rfl).trans (if_pos rfl).symm
  · exact ((if_neg e).trans (if_neg e)).trans (if_neg e).symm
/-- the class's state in the loop -/
def cNet (σ : kS) (n : Nat) (f : Nat → Int32) : kS := k_sS (k_sA σ 1 f) 1 (nI n)
def mNet (σ : kS) (n : Nat) (f : Nat → Int32) : kS := k_sS (k_sA σ 39 f) 13 (nI n)
theorem SM_netL {σ : kS} {T t r : Nat} (hF : FI σ T) (ht : t < T) (hr : r ≤ 30) (e0 : σ.1 0 = nI r) (hp : ∀ k, k < r → σ.2.1 0 k = nI (gN σ 0 k) ∧ gN σ 0 k < T) : ∀ m k i n f, k + m = r → n ≤ k → M_SM_net_12 (i + m + 1) (cNet σ n f) (nI t) (nI k) = some ((0, nI (netF σ t m k n f).1), cNet σ (netF σ t m k n f).1 (netF σ t m k n f).2) := by
  intro m
  induction m with
  | zero =>
    intro k i n f hk hn
    show M_SM_net_12_b _ _ _ _ = _
    unfold M_SM_net_12_b
    rw [if_pos (show (cNet σ n f).1 0 ≤ nI k by show σ.1 0 ≤ nI k; rw [e0]; exact nI_le (by omega) (by omega))]
    rfl
  | succ m ih =>
    intro k i n f hk hn
    obtain ⟨p1, p2⟩ := hp k (by omega)
    show M_SM_net_12_b (M_SM_net_12 (i + m + 1)) _ _ _ = some ((0, nI (if _ then netF σ t m (k + 1) n f else netF σ t m (k + 1) (n + 1) _).1), cNet σ (if _ then netF σ t m (k + 1) n f else netF σ t m (k + 1) (n + 1) _).1 (if _ then netF σ t m (k + 1) n f else netF σ t m (k + 1) (n + 1) _).2)
    have hF' : FI (cNet σ n f) T := hF
    unfold M_SM_net_12_b
    rw [if_neg (show ¬ (cNet σ n f).1 0 ≤ nI k by show ¬ σ.1 0 ≤ nI k; rw [e0]; exact nI_ge (by omega) (by omega)), k_ld_n (by omega) (by omega), show (cNet σ n f).2.1 0 = σ.2.1 0 from rfl, p1, k_call_s (F_may hF' p2 ht), mayN_congr (σ := cNet σ n f) (s := σ) rfl rfl rfl rfl rfl]
    by_cases c : mayN σ (gN σ 0 k) t = 0
    · rw [if_pos c, if_pos c, k_let_r, nI_1]
      exact ih (k + 1) i n f (by omega) (by omega)
    · rw [if_neg c, if_neg c, k_st_x (show (cNet σ n f).1 1 = nI n from rfl) (by omega) (by omega), k_set_r, k_let_r, nI_1]
      have e : k_sS (k_sA (cNet σ n f) 1 (upd ((cNet σ n f).2.1 1) n (nI k))) 1 ((k_sA (cNet σ n f) 1 (upd ((cNet σ n f).2.1 1) n (nI k))).1 1 + 1) = cNet σ (n + 1) (upd f n (nI k)) := by
        unfold cNet
        rw [sA_sS, sS_sS, sA_sA]
        show k_sS _ 1 (nI n + 1) = _
        rw [nI_1]
        rfl
      rw [e]
      exact ih (k + 1) i (n + 1) (upd f n (nI k)) (by omega) (by omega)
theorem Md_netL {s σ : kS} {T t r : Nat} (hF : FI s T) (hM : FM s σ) (ht : t < T) (hr : r ≤ 30) (e12 : σ.1 12 = nI r) (e38 : σ.2.1 38 = s.2.1 0) (hp : ∀ k, k < r → s.2.1 0 k = nI (gN s 0 k) ∧ gN s 0 k < T) : ∀ m k i n f, k + m = r → n ≤ k → M_Md_net_46 (i + m + 1) (mNet σ n f) (nI t) (nI k) = some (nI (netF s t m k n f).1, mNet σ (netF s t m k n f).1 (netF s t m k n f).2) := by
  intro m
  induction m with
  | zero =>
    intro k i n f hk hn
    show M_Md_net_46_b _ _ _ _ = _
    unfold M_Md_net_46_b
    rw [if_pos (show (mNet σ n f).1 12 ≤ nI k by show σ.1 12 ≤ nI k; rw [e12]; exact nI_le (by omega) (by omega))]
    rfl
  | succ m ih =>
    intro k i n f hk hn
    obtain ⟨p1, p2⟩ := hp k (by omega)
    show M_Md_net_46_b (M_Md_net_46 (i + m + 1)) _ _ _ = some (nI (if _ then netF s t m (k + 1) n f else netF s t m (k + 1) (n + 1) _).1, mNet σ (if _ then netF s t m (k + 1) n f else netF s t m (k + 1) (n + 1) _).1 (if _ then netF s t m (k + 1) n f else netF s t m (k + 1) (n + 1) _).2)
    unfold M_Md_net_46_b
    rw [if_neg (show ¬ (mNet σ n f).1 12 ≤ nI k by show ¬ σ.1 12 ≤ nI k; rw [e12]; exact nI_ge (by omega) (by omega)), k_call_s (Md_may (b := mNet σ n f) hF hM p2 ht (by omega) (show σ.2.1 38 k = _ by rw [e38]; exact p1))]
    by_cases c : mayN s (gN s 0 k) t = 0
    · rw [if_pos c, if_pos c, k_let_r, nI_1]
      exact ih (k + 1) i n f (by omega) (by omega)
    · rw [if_neg c, if_neg c, k_st_x (show (mNet σ n f).1 13 = nI n from rfl) (by omega) (by omega), k_set_r, k_let_r, nI_1]
      have e : k_sS (k_sA (mNet σ n f) 39 (upd ((mNet σ n f).2.1 39) n (nI k))) 13 ((k_sA (mNet σ n f) 39 (upd ((mNet σ n f).2.1 39) n (nI k))).1 13 + 1) = mNet σ (n + 1) (upd f n (nI k)) := by
        unfold mNet
        rw [sA_sS, sS_sS, sA_sA]
        show k_sS _ 13 (nI n + 1) = _
        rw [nI_1]
        rfl
      rw [e]
      exact ih (k + 1) i (n + 1) (upd f n (nI k)) (by omega) (by omega)
theorem A_net {σ : kS} (h : Inv σ) (x : Int32) : Agree 3 1 (M_SM_net σ x) (fun s => M_Md_net s x) := by
  obtain ⟨T, hF, hE, hR, hK⟩ := id h
  obtain ⟨hT, e2, hz, htr⟩ := id hF
  obtain ⟨r, n, hr, hn, e0, e1, hp, e12, e13, e38, e39⟩ := id hR
  have e11 : σ.1 11 = nI T := hE.1.trans e2
  rcases k_tree x hT with hx | ⟨t, ht, rfl⟩
  · refine ⟨3, 0, σ, ?_, Or.inr (Or.inl rfl), fun f => ⟨0, k_sS (k_sL σ f) 10 1, ?_, Inv_10 (Inv_L h f) 1, rfl, rfl, fun e => by cases e⟩⟩
    · unfold M_SM_net M_SM_requirePlain
      rw [k_callx_n (n := 2) (k_reqTree0 e2 hx)]
      rfl
    · show M_Md_net (k_sL σ f) x = _
      unfold M_Md_net
      rw [k_call_s (k_noTree1 (σ := k_sL σ f) e11 hT hx), if_neg (by decide)]
      unfold M_Md_net_27
      rw [k_thr1 (by decide)]
  · have hmd : ∀ s : kS, s.1 11 = nI T → s.2.1 31 = σ.2.1 5 → M_Md_net s (nI t) = if σ.2.1 5 t = 0 then M_Md_net_27 s (nI t) 2 else M_Md_net_27 s (nI t) 0 := fun s g1 g2 => by
      unfold M_Md_net
      rw [k_call_s (k_noTree0 (σ := s) g1 hT ht), if_pos rfl, k_ld_n (by omega) (by omega), g2]
    by_cases c5 : σ.2.1 5 t = 0
    · refine ⟨1, 0, σ, ?_, Or.inr (Or.inr ⟨by decide, rfl⟩), fun f => ⟨0, k_sS (k_sL σ f) 10 2, ?_, Inv_10 (Inv_L h f) 2, rfl, rfl, fun e => by cases e⟩⟩
      · unfold M_SM_net
        rw [k_callx_n (n := 0) ((k_reqPlain hF ht).trans (if_pos c5))]
      · show M_Md_net (k_sL σ f) (nI t) = _
        rw [hmd (k_sL σ f) e11 hE.2.2.2.2.1, if_pos c5]
        unfold M_Md_net_27
        rw [k_thr1 (by decide)]
    · have hl := netF_le σ t r 0 0 (σ.2.1 1)
      refine ⟨0, nI (netF σ t r 0 0 (σ.2.1 1)).1, cNet σ (netF σ t r 0 0 (σ.2.1 1)).1 (netF σ t r 0 0 (σ.2.1 1)).2, ?_, Or.inl rfl, fun f => ?_⟩
      · unfold M_SM_net
        rw [k_callx_0 ((k_reqPlain hF ht).trans (if_neg c5)), k_set_r]
        have := SM_netL hF ht hr e0 hp r 0 (k_fu - r - 1) 0 (σ.2.1 1) (by omega) (by omega)
        rw [show k_fu - r - 1 + r + 1 = k_fu by unfold k_fu; omega] at this
        rw [← this]
        have e : cNet σ 0 (σ.2.1 1) = k_sS σ 1 0 := by
          unfold cNet k_sA
          have : va_up σ.2.1 1 (σ.2.1 1) = σ.2.1 := by
            funext i
            by_cases e : i = 1
            · rw [e]; exact if_pos rfl
            · exact if_neg e
          rw [this]
          rfl
        rw [e]
        rfl
      · generalize hN : netF σ t r 0 0 (σ.2.1 1) = N at *
        let b := k_sS (k_sL (cNet σ N.1 N.2) f) 10 0
        have hM : FM σ b := ⟨hE.2.1, hE.2.2.1, hE.2.2.2.1, hE.2.2.2.2.2.2.2.2.1, hE.2.2.2.2.2.2.2.2.2.1⟩
        refine ⟨nI N.1, mNet b N.1 N.2, ?_, ?_, rfl, rfl, fun _ => rfl⟩
        · show M_Md_net (k_sL (cNet σ N.1 N.2) f) (nI t) = _
          rw [hmd (k_sL (cNet σ N.1 N.2) f) e11 hE.2.2.2.2.1, if_neg c5]
          unfold M_Md_net_27
          rw [k_thr0, k_set_r]
          have := Md_netL (σ := b) hF hM ht hr (e12.trans e0) e38 hp r 0 (k_fu - r - 1) 0 (σ.2.1 1) (by omega) (by omega)
          rw [show k_fu - r - 1 + r + 1 = k_fu by unfold k_fu; omega, hN] at this
          rw [← this]
          have e : mNet b 0 (σ.2.1 1) = k_sS b 13 0 := by
            unfold mNet
            have : k_sA b 39 (σ.2.1 1) = b := by
              unfold k_sA
              have : va_up b.2.1 39 (σ.2.1 1) = b.2.1 := by
                funext i
                by_cases e : i = 39
                · rw [e]; exact (if_pos rfl).trans e39.symm
                · exact if_neg e
              rw [this]
            rw [this]
            rfl
          rw [e]
          rfl
        · obtain ⟨k, hk, k9, k14, k16, hkk⟩ := hK
          exact ⟨T, hF, hE, ⟨r, N.1, hr, by omega, e0, rfl, hp, e12, rfl, e38, rfl⟩, ⟨k, hk, k9, k14, k16, hkk⟩⟩
