/-! the row of a try: the chosen parts of B, one behind the other -/
theorem pop_succ : ∀ n x, pop (n + 1) x = pop n x + x / 2 ^ n % 2 := by
  intro n
  induction n with
  | zero => intro x; show x % 2 + 0 = 0 + x / 2 ^ 0 % 2; rw [Nat.pow_zero, Nat.div_one]; omega
  | succ n ih =>
    intro x
    show x % 2 + pop (n + 1) (x / 2) = (x % 2 + pop n (x / 2)) + x / 2 ^ (n + 1) % 2
    rw [ih, Nat.div_div_eq_div_mul, Nat.pow_succ, Nat.mul_comm (2 ^ n) 2]
    omega
theorem pop_mono {n m x : Nat} (h : n ≤ m) : pop n x ≤ pop m x := by
  obtain ⟨d, rfl⟩ : ∃ d, m = n + d := ⟨m - n, by omega⟩
  induction d with
  | zero => exact Nat.le_refl _
  | succ d ih => rw [← Nat.add_assoc, pop_succ]; have := ih (by omega); omega
def rowF (s : kS) (B c : Nat) : Nat → Nat → Nat
  | 0 => fun _ => 0
  | n + 1 => fun i => if c / 2 ^ n % 2 = 1 ∧ i = pop n c then gN s 10 (12 * B + n) else rowF s B c n i
theorem rowF_stop {s : kS} {B c n : Nat} : ∀ m, n ≤ m → (∀ k, n ≤ k → k < m → c / 2 ^ k % 2 = 0) → pop m c = pop n c ∧ rowF s B c m = rowF s B c n := by
  intro m
  induction m with
  | zero => intro h _; rw [show n = 0 by omega]; exact ⟨rfl, rfl⟩
  | succ m ih =>
    intro h hk
    by_cases e : n = m + 1
    · rw [e]; exact ⟨rfl, rfl⟩
    · obtain ⟨i1, i2⟩ := ih (by omega) (fun k k1 k2 => hk k k1 (by omega))
      have h0 := hk m (by omega) (by omega)
      refine ⟨by rw [pop_succ, h0, i1]; rfl, ?_⟩
      rw [← i2]
      funext i
      show (if c / 2 ^ m % 2 = 1 ∧ i = pop m c then _ else _) = _
      rw [if_neg (fun x => by omega)]
theorem rowF_lt {s : kS} {T B c : Nat} (hF : FI s T) (hB : B < T) (hc : ∀ k, k < 12 → c / 2 ^ k % 2 = 1 → k < gN s 9 B) : ∀ n, n ≤ 12 → ∀ i, i < pop n c → rowF s B c n i < T := by
  intro n
  induction n with
  | zero => intro _ i hi; exact absurd hi (Nat.not_lt_zero i)
  | succ n ih =>
    intro hn i hi
    rw [pop_succ] at hi
    show (if c / 2 ^ n % 2 = 1 ∧ i = pop n c then _ else _) < T
    by_cases e : c / 2 ^ n % 2 = 1 ∧ i = pop n c
    · rw [if_pos e]; exact (T_part hF hB (hc n (by omega) e.1)).2.1
    · rw [if_neg e]
      refine ih (by omega) i ?_
      rcases (show c / 2 ^ n % 2 = 1 ∨ c / 2 ^ n % 2 = 0 by omega) with h | h
      · have : i ≠ pop n c := fun x => e ⟨h, x⟩
        omega
      · omega
theorem sA_id (σ : kS) (j : Nat) : k_sA σ j (σ.2.1 j) = σ := by
  have : va_up σ.2.1 j (σ.2.1 j) = σ.2.1 := by
    funext k
    show (if k = j then σ.2.1 j else σ.2.1 k) = σ.2.1 k
    by_cases e : k = j
    · rw [if_pos e, e]
    · rw [if_neg e]
  show (σ.1, va_up σ.2.1 j (σ.2.1 j), σ.2.2) = σ
  rw [this]
/-- the class's row -/
def gRow (σ : kS) (f : Nat → Int32) (m : Nat) : kS := k_sS (k_sA σ 17 f) 3 (nI m)
theorem SC_gRow {s σ : kS} (h : SC s σ) (f : Nat → Int32) (m : Nat) : SC s (gRow σ f m) := by
  refine ⟨?_, fun k hk => ?_⟩
  · unfold gRow; rw [k_sSn (by decide)]; exact h.1
  · unfold gRow; rw [k_sS2, k_sA2 (by omega)]; exact h.2 k hk
theorem gRow_n {σ : kS} {f : Nat → Int32} {m k : Nat} (hk : k ≠ 17) : (gRow σ f m).2.1 k = σ.2.1 k := k_sA2 hk
theorem gRow_17 {σ : kS} {f : Nat → Int32} {m : Nat} : (gRow σ f m).2.1 17 = f := k_sAs
theorem gRow_3 {σ : kS} {f : Nat → Int32} {m : Nat} : (gRow σ f m).1 3 = nI m := k_sSs
theorem gRow_s {σ : kS} {f : Nat → Int32} {m k : Nat} (hk : k ≠ 3) : (gRow σ f m).1 k = σ.1 k := k_sSn hk
theorem Se_gath {s σ : kS} {T j B c : Nat} (hF : FI s T) (hS : SC s σ) (hj : j < 70) (hB : B < T) (h14 : σ.2.1 14 j = nI c) (hc : c < 4096) : ∀ m n f g, n + m = gN s 9 B → (∀ i, i < pop n c → g i = nI (rowF s B c n i)) →
    ∃ g', M_Se_gatherRow_41 (f + m + 1) (gRow σ g (pop n c)) (nI j) (nI B) (nI n) = some (0, gRow σ g' (pop (gN s 9 B) c)) ∧ ∀ i, i < pop (gN s 9 B) c → g' i = nI (rowF s B c (gN s 9 B) i) := by
  have hT := hF.1
  have hcn := T_cnt hF hB
  intro m
  induction m with
  | zero =>
    intro n f g hn hg
    rw [show n = gN s 9 B by omega] at hg ⊢
    refine ⟨g, ?_, hg⟩
    show M_Se_gatherRow_41_b (M_Se_gatherRow_41 (f + 0)) _ _ _ _ = _
    unfold M_Se_gatherRow_41_b
    rw [k_call_s (C_partCount hF (SC_gRow hS g _) hB), if_pos (nI_le (Nat.le_refl _) (by omega))]
  | succ m ih =>
    intro n f g hn hg
    have hpn := pop_le n c
    show ∃ g', M_Se_gatherRow_41_b (M_Se_gatherRow_41 (f + (m + 1))) _ _ _ _ = _ ∧ _
    unfold M_Se_gatherRow_41_b
    rw [k_call_s (C_partCount hF (SC_gRow hS g _) hB), if_neg (nI_ge (by omega) (by omega)), k_ld_n hj (by omega), gRow_n (by decide), h14, sh_bit n (by omega)]
    by_cases b : c / 2 ^ n % 2 = 0
    · rw [if_pos ((nI_andz (by omega)).mpr ((and_pow c n).mpr b)), k_let_r, nI_1]
      have e1 : pop (n + 1) c = pop n c := by rw [pop_succ, b]; rfl
      have := ih (n + 1) f g (by omega) (fun i hi => by
        show g i = nI (if c / 2 ^ n % 2 = 1 ∧ i = pop n c then _ else _)
        rw [if_neg (fun x => by omega)]
        exact hg i (by omega))
      rw [e1] at this
      exact this
    · have b1 : c / 2 ^ n % 2 = 1 := by omega
      rw [if_neg (fun e => b ((and_pow c n).mp ((nI_andz (by omega)).mp e))), k_call_s (C_partAt hF (SC_gRow hS g _) hB (by omega)), k_st_x (gRow_3) (by omega) (by omega), k_set_r, k_let_r, nI_1]
      have e1 : pop (n + 1) c = pop n c + 1 := by rw [pop_succ, b1]
      have := ih (n + 1) f (upd g (pop n c) (nI (gN s 10 (12 * B + n)))) (by omega) (fun i hi => by
        show upd g (pop n c) (nI (gN s 10 (12 * B + n))) i = nI (if c / 2 ^ n % 2 = 1 ∧ i = pop n c then _ else _)
        by_cases ei : i = pop n c
        · rw [if_pos ⟨b1, ei⟩, ei, k_upd_s]
        · rw [if_neg (fun x => ei x.2), k_upd_n ei]
          exact hg i (by omega))
      have es : gRow σ (upd g (pop n c) (nI (gN s 10 (12 * B + n)))) (pop (n + 1) c) = k_sS (k_sA (gRow σ g (pop n c)) 17 (upd ((gRow σ g (pop n c)).2.1 17) (pop n c) (nI (gN s 10 (12 * B + n))))) 3 ((k_sA (gRow σ g (pop n c)) 17 (upd ((gRow σ g (pop n c)).2.1 17) (pop n c) (nI (gN s 10 (12 * B + n))))).1 3 + 1) := by
        rw [gRow_17, k_sA1, gRow_3, nI_1, e1]
        unfold gRow
        rw [sA_sS, sA_sA, sS_sS]
      rw [es] at this
      exact this
theorem Se_gather {s σ : kS} {T j b B c : Nat} (hF : FI s T) (hS : SC s σ) (hj : j < 70) (hb : b < 70) (hj0 : 0 < j) (hB : B < T) (h19 : σ.2.1 19 j = nI b) (h15 : σ.2.1 15 b = nI B) (h14 : σ.2.1 14 j = nI c) (hc : c < 4096) (hcb : ∀ k, k < 12 → c / 2 ^ k % 2 = 1 → k < gN s 9 B) :
    ∃ g, M_Se_gatherRow σ (nI j) = some (0, gRow σ g (pop 12 c)) ∧ ∀ i, i < pop 12 c → g i = nI (rowF s B c 12 i) := by
  have hcn := T_cnt hF hB
  obtain ⟨q1, q2⟩ := rowF_stop (s := s) (B := B) (c := c) (n := gN s 9 B) 12 hcn (fun k k1 k2 => by
    rcases (show c / 2 ^ k % 2 = 1 ∨ c / 2 ^ k % 2 = 0 by omega) with h | h
    · have := hcb k k2 h; omega
    · exact h)
  obtain ⟨g, g1, g2⟩ := Se_gath hF hS hj hB h14 hc (gN s 9 B) 0 (k_fu - gN s 9 B - 1) (σ.2.1 17) (by omega) (fun i hi => absurd hi (Nat.not_lt_zero i))
  rw [q1, q2]
  refine ⟨g, ?_, g2⟩
  unfold M_Se_gatherRow
  rw [if_neg (fun e => by have := (nI_z (by omega)).mp e; omega), k_call_s (Pl_par hj h19), k_ld_n hb (by omega), h15, k_set_r, ← g1]
  rw [show k_fu - gN s 9 B - 1 + gN s 9 B + 1 = k_fu by unfold k_fu; omega]
  congr 1
  show k_sS σ 3 0 = gRow σ (σ.2.1 17) 0
  unfold gRow
  rw [sA_id]
  rfl
/-! the tests of a hole -/
def tst1 (s : kS) (k : Nat) (v : Int32) (r m : Nat) : Int32 :=
  if k = 2 then (if nI m < v then 0 else 1) else if m = 1 then
    (if k = 0 then (if gN s 2 r = 0 then (if s.2.1 3 r ≤ v then 0 else 1) else 0)
     else if k = 1 then (if gN s 2 r = 0 then (if v ≤ s.2.1 3 r then 0 else 1) else 0)
     else if k = 3 then (if gN s 2 r = 1 then (if s.2.1 3 r = v then 1 else 0) else 0)
     else (if gN s 2 r = 0 then 0 else 1)) else 0
def tstA (s : kS) (t r m : Nat) : Nat → Nat → Int32
  | 0 => fun _ => 1
  | n + 1 => fun i => if tst1 s (gN s 12 (3 * t + i)) (s.2.1 13 (3 * t + i)) r m = 0 then 0 else tstA s t r m n (i + 1)
theorem tst1_01 (s : kS) (k : Nat) (v : Int32) (r m : Nat) : tst1 s k v r m = 0 ∨ tst1 s k v r m = 1 := by
  unfold tst1
  repeat' split
  all_goals first | exact Or.inl rfl | exact Or.inr rfl
theorem tstA_01 (s : kS) (t r m : Nat) : ∀ n i, tstA s t r m n i = 0 ∨ tstA s t r m n i = 1 := by
  intro n
  induction n with
  | zero => intro i; exact Or.inr rfl
  | succ n ih =>
    intro i
    show (if _ then _ else _) = _ ∨ (if _ then _ else _) = _
    split
    · exact Or.inl rfl
    · exact ih (i + 1)
theorem F_passes {s σ : kS} {T k r m : Nat} (v : Int32) (hF : FI s T) (hS : SC s σ) (hk : k ≤ 4) (hm : m ≤ 12) (hr : m = 1 → σ.2.1 17 0 = nI r ∧ r < T) : M_F_passes σ (nI k) v (nI m) = some (tst1 s k v r m, σ) := by
  have hT := hF.1
  unfold M_F_passes tst1
  by_cases k2 : k = 2
  · rw [if_pos (show nI k = 2 by rw [k2]; rfl), if_pos k2]
    by_cases c : nI m < v
    · rw [if_pos c, if_pos c]
    · rw [if_neg c, if_neg c]
  · have nk : ∀ q : Nat, q ≤ 4 → k ≠ q → ¬ nI k = nI q := fun q hq hne e => hne ((nI_eq (by omega) (by omega)).mp e)
    rw [if_neg (show ¬ nI k = 2 from nk 2 (by omega) k2), if_neg k2]
    by_cases m1 : m = 1
    · obtain ⟨r1, r2⟩ := hr m1
      rw [if_pos (show nI m = 1 by rw [m1]; rfl), if_pos m1, k_ld_x (x := 0) (i := 0) rfl (by omega) (by omega), r1]
      by_cases k0 : k = 0
      · rw [if_pos (show nI k = 0 by rw [k0]; rfl), if_pos k0, k_call_s (C_isLeaf hF hS r2)]
        by_cases c : gN s 2 r = 0
        · rw [if_pos c, if_neg (by decide), if_pos c, k_ld_n (by omega) (by omega), hS.2 3 (by decide)]
          by_cases d : s.2.1 3 r ≤ v
          · rw [if_pos d, if_pos d]
          · rw [if_neg d, if_neg d]
        · rw [if_neg c, if_pos rfl, if_neg c]
      · rw [if_neg (show ¬ nI k = 0 from nk 0 (by omega) k0), if_neg k0]
        by_cases k1 : k = 1
        · rw [if_pos (show nI k = 1 by rw [k1]; rfl), if_pos k1, k_call_s (C_isLeaf hF hS r2)]
          by_cases c : gN s 2 r = 0
          · rw [if_pos c, if_neg (by decide), if_pos c, k_ld_n (by omega) (by omega), hS.2 3 (by decide)]
            by_cases d : v ≤ s.2.1 3 r
            · rw [if_pos d, if_pos d]
            · rw [if_neg d, if_neg d]
          · rw [if_neg c, if_pos rfl, if_neg c]
        · rw [if_neg (show ¬ nI k = 1 from nk 1 (by omega) k1), if_neg k1, if_neg (show ¬ nI k = 2 from nk 2 (by omega) k2)]
          by_cases k3 : k = 3
          · rw [if_pos (show nI k = 3 by rw [k3]; rfl), if_pos k3, k_call_s (C_isNode hF hS r2)]
            by_cases c : gN s 2 r = 1
            · rw [if_pos c, if_neg (by decide), if_pos c, k_ld_n (by omega) (by omega), hS.2 3 (by decide)]
              by_cases d : s.2.1 3 r = v
              · rw [if_pos d, if_pos d]
              · rw [if_neg d, if_neg d]
            · rw [if_neg c, if_pos rfl, if_neg c]
          · rw [if_neg (show ¬ nI k = 3 from nk 3 (by omega) k3), if_neg k3, k_call_s (C_isLeaf hF hS r2)]
            by_cases c : gN s 2 r = 0
            · rw [if_pos c, if_neg (by decide), if_pos c]
            · rw [if_neg c, if_pos rfl, if_neg c]
    · rw [if_neg (show ¬ nI m = 1 from fun e => m1 ((nI_eq (b := 1) (by omega) (by omega)).mp e)), if_neg m1]
theorem T_tk {s : kS} {T t k : Nat} (hF : FI s T) (ht : t < T) (hk : k < gN s 11 t) : s.2.1 12 (3 * t + k) = nI (gN s 12 (3 * t + k)) ∧ gN s 12 (3 * t + k) ≤ 4 := (hF.2.2.2 t ht).2.2.2.2.2 k hk
theorem F_tests3 {s σ : kS} {T t r m : Nat} (hF : FI s T) (hS : SC s σ) (ht : t < T) (hm : m ≤ 12) (hr : m = 1 → σ.2.1 17 0 = nI r ∧ r < T) : ∀ n i f, i + n = gN s 11 t → M_F_passesTests_3 (f + n + 1) σ (nI t) (nI m) (nI i) = some (tstA s t r m n i, σ) := by
  have hT := hF.1
  have h3 := T_tests hF ht
  intro n
  induction n with
  | zero =>
    intro i f hi
    show M_F_passesTests_3_b (M_F_passesTests_3 (f + 0)) σ _ _ _ = _
    unfold M_F_passesTests_3_b
    rw [k_ld_n (by omega) (by omega), hS.2 11 (by decide), T_e11 hF ht, if_pos (nI_le (by omega) (by omega))]
    rfl
  | succ n ih =>
    intro i f hi
    obtain ⟨t1, t2⟩ := T_tk hF ht (show i < gN s 11 t by omega)
    show M_F_passesTests_3_b (M_F_passesTests_3 (f + (n + 1))) σ _ _ _ = some ((if _ then _ else _), σ)
    unfold M_F_passesTests_3_b
    rw [k_ld_n (by omega) (by omega), hS.2 11 (by decide), T_e11 hF ht, if_neg (nI_ge (by omega) (by omega)), k_let_r, show nI t * 3 + nI i = nI (3 * t + i) by rw [show (3 : Int32) = nI 3 from rfl, pk_mul, nI_add, Nat.mul_comm], k_ld_n (by omega) (by omega), k_ld_n (by omega) (by omega), hS.2 12 (by decide), hS.2 13 (by decide), t1, k_call_s (F_passes _ hF hS t2 hm hr)]
    by_cases c : tst1 s (gN s 12 (3 * t + i)) (s.2.1 13 (3 * t + i)) r m = 0
    · rw [if_pos c, if_pos c]
    · rw [if_neg c, if_neg c, k_let_r, nI_1]
      exact ih (i + 1) f (by omega)
theorem F_tests {s σ : kS} {T t r m : Nat} (hF : FI s T) (hS : SC s σ) (ht : t < T) (hm : m ≤ 12) (hr : m = 1 → σ.2.1 17 0 = nI r ∧ r < T) : M_F_passesTests σ (nI t) (nI m) = some (tstA s t r m (gN s 11 t) 0, σ) := by
  have h3 := T_tests hF ht
  have := F_tests3 hF hS ht hm hr (gN s 11 t) 0 (k_fu - gN s 11 t - 1) (by omega)
  rw [show k_fu - gN s 11 t - 1 + gN s 11 t + 1 = k_fu by unfold k_fu; omega] at this
  exact this
