/-! the choices of both sides: words -/
theorem sh_bit : ∀ k, k < 32 → (1 : Int32) <<< (nI k &&& 31) = nI (2 ^ k) := by decide +kernel
theorem sh_bit2 : ∀ k, k < 12 → (1 : Int32) <<< ((11 - nI k) &&& 31) = nI (2 ^ (11 - k)) := by decide +kernel
theorem sh_mod : ∀ k, k < 32 → ((nI k &&& 31).toBitVec.smod 32).toNat = k := by decide +kernel
theorem shr_1 {n i : Nat} (hn : n < 2 ^ 31) (hi : i < 32) : (nI n >>> (nI i &&& 31)) &&& 1 = nI (n / 2 ^ i % 2) := by
  rw [pk_shrN hn _ i (sh_mod i hi)]
  exact pk_andN (Nat.lt_of_le_of_lt (Nat.div_le_self _ _) (by omega)) 1 rfl
theorem nI_andz {a b : Nat} (ha : a < 2 ^ 31) : nI a &&& nI b = 0 ↔ a &&& b = 0 := by
  rw [nI_and]
  exact nI_z (Nat.lt_of_le_of_lt Nat.and_le_left ha)
/-- the class: the k lowest -/
theorem Pc_low7 (σ : kS) (x1 : Int32) {x : Nat} (hx : x < 4096) : ∀ n i k acc f, i + n = 12 → k ≤ 4096 → acc < 2 ^ i → M_Pc_lowest_7 (f + n + 1) σ (nI x) x1 (nI acc) (nI k) (nI i) = some (if k ≤ pop n (x / 2 ^ i) then nI (acc + 2 ^ i * lowT n (x / 2 ^ i) k) else -1, σ) := by
  intro n
  induction n with
  | zero =>
    intro i k acc f hi hk hacc
    have e : i = 12 := by omega
    subst e
    show M_Pc_lowest_7_b _ _ _ _ _ _ _ = _
    unfold M_Pc_lowest_7_b M_Pc_lowest_45
    rw [if_pos (show (12 : Int32) ≤ nI 12 by decide)]
    show _ = some (if k ≤ 0 then nI (acc + 2 ^ 12 * 0) else -1, σ)
    by_cases c : k = 0
    · rw [if_pos ((nI_z (by omega)).mpr c), if_pos (by omega)]
      rfl
    · rw [if_neg (fun e => c ((nI_z (by omega)).mp e)), if_neg (by omega)]
  | succ n ih =>
    intro i k acc f hi hk hacc
    have h2 : 2 ^ (i + 1) ≤ 2 ^ 12 := Nat.pow_le_pow_right (by omega) (by omega)
    have hp : 2 ^ (i + 1) = 2 * 2 ^ i := by rw [Nat.pow_succ, Nat.mul_comm]
    show M_Pc_lowest_7_b (M_Pc_lowest_7 (f + n + 1)) _ _ _ _ _ _ = _
    unfold M_Pc_lowest_7_b M_Pc_lowest_45
    rw [if_neg (show ¬ (12 : Int32) ≤ nI i from nI_ge (b := 12) (by omega) (by omega))]
    have ep : pop (n + 1) (x / 2 ^ i) = x / 2 ^ i % 2 + pop n (x / 2 ^ (i + 1)) := by
      show _ + pop n (x / 2 ^ i / 2) = _
      rw [Nat.div_div_eq_div_mul, ← Nat.pow_succ]
    have el : lowT (n + 1) (x / 2 ^ i) k = if k = 0 then 0 else if x / 2 ^ i % 2 = 1 then 1 + 2 * lowT n (x / 2 ^ (i + 1)) (k - 1) else 2 * lowT n (x / 2 ^ (i + 1)) k := by
      show (if k = 0 then 0 else if x / 2 ^ i % 2 = 1 then 1 + 2 * lowT n (x / 2 ^ i / 2) (k - 1) else 2 * lowT n (x / 2 ^ i / 2) k) = _
      rw [Nat.div_div_eq_div_mul, ← Nat.pow_succ]
    rw [ep, el]
    by_cases c : k = 0
    · subst c
      rw [if_pos (show nI 0 ≤ 0 by decide), if_pos (show nI 0 = 0 from rfl), if_pos (by omega), if_pos rfl]
      rfl
    · rw [if_neg (show ¬ nI k ≤ 0 from nI_ge (a := 0) (by omega) (by omega)), if_neg c, k_let_r, sh_bit i (by omega)]
      by_cases b : x / 2 ^ i % 2 = 0
      · rw [if_pos ((nI_andz (by omega)).mpr ((and_pow x i).mpr b)), k_let_r, nI_1, if_neg (show ¬ x / 2 ^ i % 2 = 1 by omega)]
        have := ih (i + 1) k acc f (by omega) hk (by omega)
        rw [show f + n + 1 = f + n + 1 from rfl] at this
        rw [this]
        have e : 2 ^ i * (2 * lowT n (x / 2 ^ (i + 1)) k) = 2 ^ (i + 1) * lowT n (x / 2 ^ (i + 1)) k := by rw [hp, Nat.mul_left_comm, Nat.mul_assoc]
        rw [e]
        by_cases d : k ≤ pop n (x / 2 ^ (i + 1))
        · rw [if_pos d, if_pos (by omega)]
        · rw [if_neg d, if_neg (by omega)]
      · have b1 : x / 2 ^ i % 2 = 1 := by omega
        obtain ⟨k', rfl⟩ : ∃ k', k = k' + 1 := ⟨k - 1, by omega⟩
        rw [if_neg (fun e => b ((and_pow x i).mp ((nI_andz (by omega)).mp e))), k_let_r, k_let_r, k_let_r, nI_1, nI_or, or_pow hacc, k_m1, if_pos b1, b1, Nat.add_sub_cancel]
        have := ih (i + 1) k' (acc + 2 ^ i) f (by omega) (by omega) (by omega)
        rw [this]
        have e : acc + 2 ^ i + 2 ^ (i + 1) * lowT n (x / 2 ^ (i + 1)) k' = acc + 2 ^ i * (1 + 2 * lowT n (x / 2 ^ (i + 1)) k') := by
          rw [Nat.mul_add, Nat.mul_one, hp, Nat.mul_left_comm (2 ^ i) 2, ← Nat.mul_assoc 2, Nat.add_assoc]
        rw [e]
        by_cases d : k' ≤ pop n (x / 2 ^ (i + 1))
        · rw [if_pos d, if_pos (by omega)]
        · rw [if_neg d, if_neg (by omega)]
theorem Pc_lowest (σ : kS) {x k : Nat} (hx : x < 4096) (hk : k ≤ 4096) : M_Pc_lowest σ (nI x) (nI k) = some (if k ≤ pop 12 x then nI (lowT 12 x k) else -1, σ) := by
  have := Pc_low7 σ (nI k) hx 12 0 k 0 (k_fu - 13) (by omega) hk (by omega)
  rw [show k_fu - 13 + 12 + 1 = k_fu by unfold k_fu; omega, Nat.pow_zero, Nat.div_one, Nat.one_mul, Nat.zero_add] at this
  exact this
theorem dif_top {x i : Nat} (hx : x < 4096) (hi : i < 12) : dif x (2 ^ (i + 1) - 1) = x / 2 ^ (i + 1) * 2 ^ (i + 1) := by
  apply Nat.eq_of_testBit_eq
  intro k
  rw [Nat.testBit_mul_two_pow]
  by_cases hk : k < 32
  · rw [dif_bit hk, Nat.testBit_two_pow_sub_one]
    by_cases c : k < i + 1
    · simp [c]
      intro h
      omega
    · have e : i + 1 ≤ k := by omega
      rw [Nat.testBit_div_two_pow, show k - (i + 1) + (i + 1) = k by omega]
      simp [c, e]
  · have e : 2 ^ 12 ≤ 2 ^ k := Nat.pow_le_pow_right (by omega) (by omega)
    rw [Nat.testBit_lt_two_pow (Nat.lt_of_le_of_lt (dif_le _ _) (by omega)), Nat.testBit_div_two_pow, Nat.testBit_lt_two_pow (i := k - (i + 1) + (i + 1))]
    · simp
    · rw [show k - (i + 1) + (i + 1) = k by omega]; omega
theorem or_dec (i : Nat) : 2 ^ i ||| (2 ^ i - 1) = 2 ^ (i + 1) - 1 := by
  have h := Nat.two_pow_pos i
  have := or_low (i := i) (a := 1) (b := 2 ^ i - 1) (by omega)
  rw [Nat.mul_one] at this
  rw [this, Nat.pow_succ]
  omega
theorem Pc_behind (σ : kS) {x i : Nat} (hx : x < 4096) (hi : i < 12) : M_Pc_behind σ (nI x) (nI (2 ^ i)) = some (nI (x / 2 ^ (i + 1) * 2 ^ (i + 1)), σ) := by
  unfold M_Pc_behind
  have h := Nat.two_pow_pos i
  rw [show nI (2 ^ i) - 1 = nI (2 ^ i - 1) by
    have := nI_pred (2 ^ i - 1)
    rw [show 2 ^ i - 1 + 1 = 2 ^ i by omega] at this
    exact this, nI_or, or_dec, nI_dif, dif_top hx hi]
/-- k places on: a set without its k first places -/
theorem pop_sh : ∀ i n x, pop (n + i) (x * 2 ^ i) = pop n x := by
  intro i
  induction i with
  | zero => intro n x; rw [Nat.pow_zero, Nat.mul_one]; rfl
  | succ i ih =>
    intro n x
    rw [show n + (i + 1) = n + i + 1 by omega]
    show x * 2 ^ (i + 1) % 2 + pop (n + i) (x * 2 ^ (i + 1) / 2) = _
    rw [show x * 2 ^ (i + 1) = 2 * (x * 2 ^ i) by rw [Nat.pow_succ, ← Nat.mul_assoc, Nat.mul_comm], show 2 * (x * 2 ^ i) % 2 = 0 by omega, show 2 * (x * 2 ^ i) / 2 = x * 2 ^ i by omega, ih, Nat.zero_add]
theorem lowT_sh : ∀ i n x k, lowT (n + i) (x * 2 ^ i) k = 2 ^ i * lowT n x k := by
  intro i
  induction i with
  | zero => intro n x k; rw [Nat.pow_zero, Nat.mul_one, Nat.one_mul]; rfl
  | succ i ih =>
    intro n x k
    rw [show n + (i + 1) = n + i + 1 by omega]
    have e : x * 2 ^ (i + 1) = 2 * (x * 2 ^ i) := by rw [Nat.pow_succ, ← Nat.mul_assoc, Nat.mul_comm]
    show (if k = 0 then 0 else if x * 2 ^ (i + 1) % 2 = 1 then 1 + 2 * lowT (n + i) (x * 2 ^ (i + 1) / 2) (k - 1) else 2 * lowT (n + i) (x * 2 ^ (i + 1) / 2) k) = _
    by_cases c : k = 0
    · rw [if_pos c, c, lowT_0, Nat.mul_zero]
    · rw [if_neg c, e, show 2 * (x * 2 ^ i) % 2 = 0 by omega, if_neg (by omega), show 2 * (x * 2 ^ i) / 2 = x * 2 ^ i by omega, ih, Nat.pow_succ, ← Nat.mul_assoc, Nat.mul_comm 2]
theorem sub_tail {n x a : Nat} (h : ∀ k, k < n + 1 → x.testBit k = true → a.testBit k = true) : ∀ k, k < n → (x / 2).testBit k = true → (a / 2).testBit k = true := fun k hk hb => by
  rw [← Nat.testBit_succ] at hb ⊢
  exact h (k + 1) (by omega) hb
theorem sub_pop : ∀ n x a, (∀ k, k < n → x.testBit k = true → a.testBit k = true) → pop n x ≤ pop n a := by
  intro n
  induction n with
  | zero => intro x a _; exact Nat.le_refl 0
  | succ n ih =>
    intro x a h
    have h1 := ih (x / 2) (a / 2) (sub_tail h)
    have h2 := h 0 (by omega)
    rw [Nat.testBit_zero, Nat.testBit_zero] at h2
    show x % 2 + pop n (x / 2) ≤ a % 2 + pop n (a / 2)
    rcases Nat.mod_two_eq_zero_or_one x with e | e
    · omega
    · have := of_decide_eq_true (h2 (decide_eq_true e)); omega
theorem Pc_next8 (σ : kS) {a l : Nat} (ha : a < 4096) (hl : l < 4096) (hs : ∀ k, k < 12 → l.testBit k = true → a.testBit k = true) : ∀ i n f, i + n = 12 → nxt n (a / 2 ^ i) (l / 2 ^ i) = none →
    M_Pc_nextChoice_8 (f + i + 1) σ (nI a) (nI l) (nI (pop n (l / 2 ^ i))) (if pop n (l / 2 ^ i) < pop n (a / 2 ^ i) then 1 else 0) (nI i + (-1)) = some (match nxt 12 a l with
      | some r => nI r
      | none => if pop 12 l + 1 ≤ pop 12 a then nI (lowT 12 a (pop 12 l + 1)) else -1, σ) := by
  intro i
  induction i with
  | zero =>
    intro n f hi hn
    have e : n = 12 := by omega
    subst e
    rw [Nat.pow_zero, Nat.div_one, Nat.div_one] at hn ⊢
    rw [hn]
    show M_Pc_nextChoice_8_b _ _ _ _ _ _ _ = _
    unfold M_Pc_nextChoice_8_b
    have := pop_le 12 l
    rw [if_pos (show nI 0 + (-1) < 0 by decide), nI_1, k_call_s (Pc_lowest σ ha (by omega))]
  | succ i ih =>
    intro n f hi hn
    have hp : 2 ^ (i + 1) = 2 * 2 ^ i := by rw [Nat.pow_succ, Nat.mul_comm]
    have dd : ∀ x : Nat, x / 2 ^ (i + 1) = x / 2 ^ i / 2 := fun x => by rw [Nat.div_div_eq_div_mul, ← Nat.pow_succ]
    have hsub : ∀ k, k < n + 1 → (l / 2 ^ i).testBit k = true → (a / 2 ^ i).testBit k = true := fun k hk hb => by
      rw [Nat.testBit_div_two_pow] at hb ⊢
      exact hs _ (by omega) hb
    have hpl : pop n (l / 2 ^ (i + 1)) ≤ pop n (a / 2 ^ (i + 1)) := by
      rw [dd, dd]
      exact sub_pop n _ _ (sub_tail hsub)
    have pl : pop (n + 1) (l / 2 ^ i) = l / 2 ^ i % 2 + pop n (l / 2 ^ (i + 1)) := by rw [dd]; rfl
    have pa : pop (n + 1) (a / 2 ^ i) = a / 2 ^ i % 2 + pop n (a / 2 ^ (i + 1)) := by rw [dd]; rfl
    have hn2 := hn
    rw [dd, dd] at hn2
    have nn := nxt_none hn2
    rw [← dd, ← dd] at nn
    have ln := pop_le n (l / 2 ^ (i + 1))
    have rc0 := ih (n + 1) f (by omega)
    show M_Pc_nextChoice_8_b (M_Pc_nextChoice_8 (f + i + 1)) _ _ _ _ _ _ = _
    unfold M_Pc_nextChoice_8_b
    rw [k_m1, if_neg (nI_lt0 (by omega)), k_let_r, sh_bit i (by omega)]
    by_cases b : l / 2 ^ i % 2 = 0
    · rw [if_pos ((nI_andz (by omega)).mpr ((and_pow l i).mpr b))]
      rw [if_neg (fun c => by omega)] at nn
      have rc0 := rc0 nn
      rw [pl, pa, b, Nat.zero_add] at rc0
      by_cases c : pop n (l / 2 ^ (i + 1)) < pop n (a / 2 ^ (i + 1))
      · rw [if_pos c, if_neg (by decide), k_let_r]
        rw [if_pos (by omega)] at rc0
        exact rc0
      · rw [if_neg c, if_pos rfl]
        by_cases d : a / 2 ^ i % 2 = 0
        · rw [if_pos ((nI_andz (by omega)).mpr ((and_pow a i).mpr d)), k_let_r]
          rw [if_neg (by omega)] at rc0
          exact rc0
        · rw [if_neg (fun e => d ((and_pow a i).mp ((nI_andz (by omega)).mp e))), k_let_r]
          rw [if_pos (by omega)] at rc0
          exact rc0
    · have b1 : l / 2 ^ i % 2 = 1 := by omega
      have d1 : a / 2 ^ i % 2 = 1 := by
        have := hsub 0 (by omega)
        rw [Nat.testBit_zero, Nat.testBit_zero] at this
        exact of_decide_eq_true (this (decide_eq_true b1))
      rw [if_neg (fun e => b ((and_pow l i).mp ((nI_andz (by omega)).mp e)))]
      by_cases c : pop n (l / 2 ^ (i + 1)) < pop n (a / 2 ^ (i + 1))
      · rw [if_pos c, if_neg (by decide), k_call_s (Pc_behind σ ha (by omega)), nI_1]
        have hb : a / 2 ^ (i + 1) * 2 ^ (i + 1) < 4096 := Nat.lt_of_le_of_lt (Nat.div_mul_le_self _ _) ha
        rw [k_call_s (Pc_lowest σ hb (by omega))]
        have e1 : pop 12 (a / 2 ^ (i + 1) * 2 ^ (i + 1)) = pop n (a / 2 ^ (i + 1)) := by
          have := pop_sh (i + 1) n (a / 2 ^ (i + 1))
          rw [show n + (i + 1) = 12 by omega] at this
          exact this
        have e2 : lowT 12 (a / 2 ^ (i + 1) * 2 ^ (i + 1)) (pop n (l / 2 ^ (i + 1)) + 1) = 2 ^ (i + 1) * lowT n (a / 2 ^ (i + 1)) (pop n (l / 2 ^ (i + 1)) + 1) := by
          have := lowT_sh (i + 1) n (a / 2 ^ (i + 1)) (pop n (l / 2 ^ (i + 1)) + 1)
          rw [show n + (i + 1) = 12 by omega] at this
          exact this
        rw [e1, e2, if_pos (by omega)]
        rw [if_pos ⟨b1, by omega⟩] at nn
        have nl := nxt_lift i (n + 1) a l _ nn
        rw [show n + 1 + i = 12 by omega] at nl
        rw [nl]
        have hpos := Nat.two_pow_pos i
        rw [show nI (2 ^ i) - 1 = nI (2 ^ i - 1) by
          have := nI_pred (2 ^ i - 1)
          rw [show 2 ^ i - 1 + 1 = 2 ^ i by omega] at this
          exact this, nI_and, Nat.and_two_pow_sub_one_eq_mod, nI_or]
        have hm : l % 2 ^ i < 2 ^ i := Nat.mod_lt _ hpos
        show some (nI _, σ) = some (nI _, σ)
        congr 3
        rw [Nat.or_comm, show 2 ^ (i + 1) * lowT n (a / 2 ^ (i + 1)) (pop n (l / 2 ^ (i + 1)) + 1) = 2 ^ i * (2 * lowT n (a / 2 ^ (i + 1)) (pop n (l / 2 ^ (i + 1)) + 1)) by rw [hp, ← Nat.mul_assoc, Nat.mul_comm (2 ^ i) 2], or_low hm, Nat.add_comm]
      · rw [if_neg c, if_pos rfl, k_let_r, k_let_r, nI_1]
        rw [if_neg (fun q => by omega)] at nn
        have rc0 := rc0 nn
        rw [pl, pa, b1, d1, if_neg (by omega), Nat.add_comm 1] at rc0
        exact rc0
/-- the next choice for several in any order -/
def nxtA (a l : Nat) : Option Nat := match nxt 12 a l with
  | some r => some r
  | none => if pop 12 l + 1 ≤ pop 12 a then some (lowT 12 a (pop 12 l + 1)) else none
def oI : Option Nat → Int32
  | some r => nI r
  | none => -1
theorem Pc_nextChoice (σ : kS) {a l : Nat} (ha : a < 4096) (hl : l < 4096) (hs : ∀ k, k < 12 → l.testBit k = true → a.testBit k = true) : M_Pc_nextChoice σ (nI a) (nI l) = some (oI (nxtA a l), σ) := by
  have := Pc_next8 σ ha hl hs 12 0 (k_fu - 13) (by omega) rfl
  rw [show k_fu - 13 + 12 + 1 = k_fu by unfold k_fu; omega] at this
  have e : pop 0 (l / 2 ^ 12) = 0 := rfl
  have e' : pop 0 (a / 2 ^ 12) = 0 := rfl
  rw [e, e', if_neg (by omega)] at this
  unfold M_Pc_nextChoice
  refine Eq.trans this ?_
  unfold nxtA
  cases nxt 12 a l with
  | some r => rfl
  | none =>
    show some ((if _ then _ else _), σ) = some (oI (if _ then _ else _), σ)
    by_cases c : pop 12 l + 1 ≤ pop 12 a
    · rw [if_pos c, if_pos c]; rfl
    · rw [if_neg c, if_neg c]; rfl
theorem In_bits0 : ∀ a, a < 64 → ∀ b, b < 64 → ∀ σ : kS, M_In_bitCount σ (nI (64 * a + b)) = some (nI (pop 12 (64 * a + b)), σ) := by
  have key : ∀ a, a < 64 → ∀ b, b < 64 → (let x0 := nI (64 * a + b); let v1 := ((x0 - (((x0).toUInt32 >>> ((1 : Int32).toUInt32 &&& Int32.toUInt32 31)).toInt32 &&& 1431655765))); let v2 := (((v1 &&& 858993459) + (((v1).toUInt32 >>> ((2 : Int32).toUInt32 &&& Int32.toUInt32 31)).toInt32 &&& 858993459))); let v3 := (((v2 + ((v2).toUInt32 >>> ((4 : Int32).toUInt32 &&& Int32.toUInt32 31)).toInt32) &&& 252645135)); let v4 := ((v3 + ((v3).toUInt32 >>> ((8 : Int32).toUInt32 &&& Int32.toUInt32 31)).toInt32)); let v5 := ((v4 + ((v4).toUInt32 >>> ((16 : Int32).toUInt32 &&& Int32.toUInt32 31)).toInt32)); (v5 &&& 63)) = nI (pop 12 (64 * a + b)) := by decide +kernel
  intro a ha b hb σ
  unfold M_In_bitCount
  exact congrArg (fun x => some (x, σ)) (key a ha b hb)
theorem In_bits (σ : kS) {x : Nat} (hx : x < 4096) : M_In_bitCount σ (nI x) = some (nI (pop 12 x), σ) := by
  have := In_bits0 (x / 64) (by omega) (x % 64) (by omega) σ
  rw [Nat.div_add_mod] at this
  exact this
