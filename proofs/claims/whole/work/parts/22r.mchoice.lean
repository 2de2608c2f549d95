/-! the model's choices -/
theorem Md_bit (σ : kS) {k : Nat} (hk : k < 12) : M_Md_bit σ (nI k) = some (nI (2 ^ (11 - k)), σ) := by
  unfold M_Md_bit
  rw [sh_bit2 k hk]
theorem Md_bits4 (σ : kS) {x : Nat} (hx : x < 4096) : ∀ n i c f, i + n = 12 → c ≤ i → M_Md_bits_4 (f + n + 1) σ (nI x) (nI c) (nI i) = some (nI (c + pop n (x / 2 ^ i)), σ) := by
  intro n
  induction n with
  | zero =>
    intro i c f hi hc
    have e : i = 12 := by omega
    subst e
    show M_Md_bits_4_b _ _ _ _ _ = _
    unfold M_Md_bits_4_b
    rw [if_pos (show (12 : Int32) ≤ nI 12 by decide)]
    rfl
  | succ n ih =>
    intro i c f hi hc
    show M_Md_bits_4_b (M_Md_bits_4 (f + n + 1)) _ _ _ _ = _
    unfold M_Md_bits_4_b
    rw [if_neg (show ¬ (12 : Int32) ≤ nI i from nI_ge (b := 12) (by omega) (by omega)), k_let_r, k_let_r, shr_1 (by omega) (by omega), nI_add, nI_1]
    rw [ih (i + 1) (c + x / 2 ^ i % 2) f (by omega) (by omega)]
    have e : pop (n + 1) (x / 2 ^ i) = x / 2 ^ i % 2 + pop n (x / 2 ^ (i + 1)) := by
      show _ + pop n (x / 2 ^ i / 2) = _
      rw [Nat.div_div_eq_div_mul, ← Nat.pow_succ]
    rw [e, Nat.add_assoc]
theorem Md_bits (σ : kS) {x : Nat} (hx : x < 4096) : M_Md_bits σ (nI x) = some (nI (pop 12 x), σ) := by
  have := Md_bits4 σ hx 12 0 0 (k_fu - 13) (by omega) (by omega)
  rw [show k_fu - 13 + 12 + 1 = k_fu by unfold k_fu; omega, Nat.pow_zero, Nat.div_one, Nat.zero_add] at this
  exact this
theorem mv12_lt (x : Nat) : mv 12 x < 4096 := mv_lt 12 x
/-- place i of the set a, in the model's number -/
theorem mv_at {a i : Nat} (hi : i < 12) : nI (mv 12 a) &&& nI (2 ^ (11 - i)) = 0 ↔ a / 2 ^ i % 2 = 0 := by
  have h := mv12_lt a
  rw [nI_andz (by omega), and_pow]
  have e := mv_bit 12 a (11 - i) (by omega)
  rw [show 12 - 1 - (11 - i) = i by omega, bit_dm, bit_dm] at e
  have e2 := decide_eq_decide.mp e
  generalize mv 12 a / 2 ^ (11 - i) = q at e2 ⊢
  generalize a / 2 ^ i = r at e2 ⊢
  omega
theorem Md_first7 (σ : kS) {a k0 : Nat} (hk0 : k0 ≤ 12) : ∀ n i k acc f, i + n = 12 → k ≤ k0 → k ≤ pop n (a / 2 ^ i) → (∃ q, acc = 2 ^ n * q) → acc < 4096 → M_Md_firstOf_7 (f + n + 1) σ (nI (mv 12 a)) (nI k0) (nI acc) (nI (k0 - k)) (nI i) = some (nI (acc + mv n (lowT n (a / 2 ^ i) k)), σ) := by
  intro n
  induction n with
  | zero =>
    intro i k acc f hi hk hp hq ha
    have e : i = 12 := by omega
    subst e
    show M_Md_firstOf_7_b _ _ _ _ _ _ _ = _
    unfold M_Md_firstOf_7_b
    rw [if_pos (show (12 : Int32) ≤ nI 12 by decide)]
    rfl
  | succ n ih =>
    intro i k acc f hi hk hp hq ha
    obtain ⟨q, rfl⟩ := hq
    have hpn : 2 ^ (n + 1) = 2 * 2 ^ n := by rw [Nat.pow_succ, Nat.mul_comm]
    have dd : a / 2 ^ i / 2 = a / 2 ^ (i + 1) := by rw [Nat.div_div_eq_div_mul, ← Nat.pow_succ]
    have ep : pop (n + 1) (a / 2 ^ i) = a / 2 ^ i % 2 + pop n (a / 2 ^ (i + 1)) := by rw [← dd]; rfl
    have el : lowT (n + 1) (a / 2 ^ i) k = if k = 0 then 0 else if a / 2 ^ i % 2 = 1 then 1 + 2 * lowT n (a / 2 ^ (i + 1)) (k - 1) else 2 * lowT n (a / 2 ^ (i + 1)) k := by rw [← dd]; rfl
    show M_Md_firstOf_7_b (M_Md_firstOf_7 (f + n + 1)) _ _ _ _ _ _ = _
    unfold M_Md_firstOf_7_b
    rw [if_neg (show ¬ (12 : Int32) ≤ nI i from nI_ge (b := 12) (by omega) (by omega)), el]
    by_cases c : k = 0
    · rw [if_pos (nI_le (by omega) (by omega)), if_pos c, mv_0]
      rfl
    · rw [if_neg (nI_ge (by omega) (by omega)), if_neg c, k_call_s (Md_bit σ (by omega))]
      by_cases b : a / 2 ^ i % 2 = 0
      · rw [if_pos ((mv_at (by omega)).mpr b), k_let_r, nI_1, if_neg (by omega)]
        rw [ih (i + 1) k _ f (by omega) hk (by omega) ⟨2 * q, by rw [hpn, Nat.mul_comm 2, Nat.mul_assoc]⟩ ha]
        have := mv_cons n 0 (lowT n (a / 2 ^ (i + 1)) k) (by omega)
        rw [Nat.zero_add, Nat.mul_zero, Nat.zero_add] at this
        rw [this]
      · have b1 : a / 2 ^ i % 2 = 1 := by omega
        have hn : 11 - i = n := by omega
        rw [if_neg (fun e => b ((mv_at (by omega)).mp e)), k_call_s (Md_bit σ (by omega)), k_let_r, k_let_r, k_let_r, nI_1, nI_1, nI_or, if_pos b1, hn]
        have hlt : 2 ^ n < 2 ^ (n + 1) := Nat.pow_lt_pow_right (by omega) (by omega)
        rw [or_low hlt, show k0 - k + 1 = k0 - (k - 1) by omega]
        have hm : 2 ^ (n + 1) ≤ 2 ^ 12 := Nat.pow_le_pow_right (by omega) (by omega)
        have hacc : 2 ^ (n + 1) * q + 2 ^ n < 4096 := by
          have hd : 2 ^ 12 = 2 ^ (n + 1) * 2 ^ i := by rw [← Nat.pow_add, show n + 1 + i = 12 by omega]
          have h1 : q < 2 ^ i := by
            rw [show (4096 : Nat) = 2 ^ 12 from rfl, hd] at ha
            exact Nat.lt_of_mul_lt_mul_left ha
          have h2 : 2 ^ (n + 1) * (q + 1) ≤ 2 ^ (n + 1) * 2 ^ i := Nat.mul_le_mul_left _ h1
          rw [Nat.mul_add, Nat.mul_one, ← hd] at h2
          omega
        rw [ih (i + 1) (k - 1) _ f (by omega) (by omega) (by omega) ⟨2 * q + 1, by rw [hpn, Nat.mul_add, Nat.mul_one, Nat.mul_comm 2, Nat.mul_assoc]⟩ hacc]
        rw [mv_cons n 1 _ (by omega), Nat.mul_one, Nat.add_assoc]
theorem Md_firstOf (σ : kS) {a k : Nat} (hk : k ≤ pop 12 a) : M_Md_firstOf σ (nI (mv 12 a)) (nI k) = some (nI (mv 12 (lowT 12 a k)), σ) := by
  have h12 := pop_le 12 a
  have := Md_first7 σ (a := a) (k0 := k) (by omega) 12 0 k 0 (k_fu - 13) (by omega) (by omega) (by rw [Nat.pow_zero, Nat.div_one]; exact hk) ⟨0, rfl⟩ (by omega)
  rw [show k_fu - 13 + 12 + 1 = k_fu by unfold k_fu; omega, Nat.pow_zero, Nat.div_one, Nat.zero_add, Nat.sub_self] at this
  exact this
def oM : Option Nat → Int32
  | some r => nI (mv 12 r)
  | none => -1
/-- the k first, if there are so many -/
def lowO (a k : Nat) : Option Nat := if k ≤ pop 12 a then some (lowT 12 a k) else none
theorem Md_lowO (σ : kS) {a k : Nat} (hk : k < 2 ^ 31) : (k_call (M_Md_bits σ (nI (mv 12 a))) fun v σ2 => if nI k ≤ v then (k_call (M_Md_firstOf σ2 (nI (mv 12 a)) (nI k)) fun w σ6 => some (w, σ6)) else some (-1, σ2)) = some (oM (lowO a k), σ) := by
  have h12 := pop_le 12 a
  rw [k_call_s (Md_bits σ (mv12_lt a)), pop_mv]
  unfold lowO
  by_cases c : k ≤ pop 12 a
  · rw [if_pos c, if_pos (nI_le c (by omega)), k_call_s (Md_firstOf σ c)]
    rfl
  · rw [if_neg c, if_neg (nI_ge (by omega) hk)]
    rfl
/-- one place: the loop over the places -/
theorem Md_next56 (σ : kS) (x1 x2 x3 x5 : Int32) {a thr : Nat} (h2 : (x2 < 0 ∧ thr = 0) ∨ (∃ p, p < 12 ∧ x2 = nI (2 ^ (11 - p)) ∧ ((x5 ≠ 0 ∧ thr = p + 1) ∨ (x5 = 0 ∧ thr = 12)))) : ∀ n i f, i + n = 12 → M_Md_takenNext_56 (f + n + 1) σ x1 x2 x3 (nI (mv 12 a)) x5 (nI i) = some (if 1 ≤ pop 12 (a / 2 ^ (max thr i) * 2 ^ (max thr i)) then nI (mv 12 (lowT 12 (a / 2 ^ (max thr i) * 2 ^ (max thr i)) 1)) else -1, σ) := by
  intro n
  have hthr : thr ≤ 12 := by rcases h2 with ⟨_, h⟩ | ⟨p, hp, _, ⟨_, h⟩ | ⟨_, h⟩⟩ <;> omega
  induction n with
  | zero =>
    intro i f hi
    have e : i = 12 := by omega
    subst e
    show M_Md_takenNext_56_b _ _ _ _ _ _ _ _ = _
    unfold M_Md_takenNext_56_b
    rw [if_pos (show (12 : Int32) ≤ nI 12 by decide), show max thr 12 = 12 by omega, if_neg]
    have := pop_sh 12 0 (a / 2 ^ 12)
    rw [Nat.zero_add] at this
    rw [this]
    show ¬ 1 ≤ 0
    omega
  | succ n ih =>
    intro i f hi
    have ih' := ih (i + 1) f (by omega)
    have h86 : ∀ y0 : Int32, M_Md_takenNext_86 (M_Md_takenNext_56 (f + n + 1)) σ x1 x2 x3 (nI (mv 12 a)) x5 (nI i) y0 = if a / 2 ^ i % 2 = 0 then M_Md_takenNext_56 (f + n + 1) σ x1 x2 x3 (nI (mv 12 a)) x5 (nI (i + 1)) else if y0 = 0 then M_Md_takenNext_56 (f + n + 1) σ x1 x2 x3 (nI (mv 12 a)) x5 (nI (i + 1)) else some (nI (2 ^ (11 - i)), σ) := fun y0 => by
      unfold M_Md_takenNext_86
      rw [k_call_s (Md_bit σ (by omega)), k_let_r, nI_1, k_call_s (Md_bit σ (by omega))]
      by_cases b : a / 2 ^ i % 2 = 0
      · rw [if_pos b, if_pos ((mv_at (by omega)).mpr b)]
      · rw [if_neg b, if_neg (fun e => b ((mv_at (by omega)).mp e))]
    have step : M_Md_takenNext_56 (f + (n + 1) + 1) σ x1 x2 x3 (nI (mv 12 a)) x5 (nI i) = if i < thr then M_Md_takenNext_56 (f + n + 1) σ x1 x2 x3 (nI (mv 12 a)) x5 (nI (i + 1)) else if a / 2 ^ i % 2 = 0 then M_Md_takenNext_56 (f + n + 1) σ x1 x2 x3 (nI (mv 12 a)) x5 (nI (i + 1)) else some (nI (2 ^ (11 - i)), σ) := by
      show M_Md_takenNext_56_b (M_Md_takenNext_56 (f + n + 1)) _ _ _ _ _ _ _ = _
      unfold M_Md_takenNext_56_b M_Md_takenNext_81 M_Md_takenNext_85
      rw [if_neg (show ¬ (12 : Int32) ≤ nI i from nI_ge (b := 12) (by omega) (by omega)), h86, h86, if_neg (show ¬ (1 : Int32) = 0 by decide), if_pos (show (0 : Int32) = 0 from rfl)]
      have s0 : (if a / 2 ^ i % 2 = 0 then M_Md_takenNext_56 (f + n + 1) σ x1 x2 x3 (nI (mv 12 a)) x5 (nI (i + 1)) else M_Md_takenNext_56 (f + n + 1) σ x1 x2 x3 (nI (mv 12 a)) x5 (nI (i + 1))) = M_Md_takenNext_56 (f + n + 1) σ x1 x2 x3 (nI (mv 12 a)) x5 (nI (i + 1)) := by split <;> rfl
      rcases h2 with ⟨hneg, ht⟩ | ⟨p, hp, e2, hcase⟩
      · rw [if_pos hneg, if_neg (show ¬ i < thr by omega)]
      · have hp11 : 2 ^ (11 - p) ≤ 2 ^ 11 := Nat.pow_le_pow_right (by omega) (by omega)
        have hi11 : 2 ^ (11 - i) ≤ 2 ^ 11 := Nat.pow_le_pow_right (by omega) (by omega)
        rw [if_neg (show ¬ x2 < 0 by rw [e2]; exact nI_lt0 (by omega)), s0]
        rcases hcase with ⟨h5, ht⟩ | ⟨h5, ht⟩
        · rw [if_neg h5, k_call_s (Md_bit σ (by omega)), e2]
          by_cases c : i < thr
          · rw [if_pos (nI_le (Nat.pow_le_pow_right (by omega) (by omega)) (by omega)), if_pos c, ← e2, h86, if_pos (show (0 : Int32) = 0 from rfl), s0]
          · rw [if_neg (nI_ge (Nat.pow_lt_pow_right (by omega) (by omega)) (by omega)), if_neg c, ← e2, h86, if_neg (show ¬ (1 : Int32) = 0 by decide)]
        · rw [if_pos h5, if_pos (show i < thr by omega)]
    rw [step]
    by_cases c : i < thr
    · rw [if_pos c, ih', show max thr (i + 1) = max thr i by omega]
    · rw [if_neg c, show max thr i = i by omega]
      rw [show max thr (i + 1) = i + 1 by omega] at ih'
      have q1 := pop_sh i (n + 1) (a / 2 ^ i)
      have q2 := lowT_sh i (n + 1) (a / 2 ^ i) 1
      have q3 := pop_sh (i + 1) n (a / 2 ^ (i + 1))
      have q4 := lowT_sh (i + 1) n (a / 2 ^ (i + 1)) 1
      rw [show n + 1 + i = 12 by omega] at q1 q2
      rw [show n + (i + 1) = 12 by omega] at q3 q4
      have dd : a / 2 ^ i / 2 = a / 2 ^ (i + 1) := by rw [Nat.div_div_eq_div_mul, ← Nat.pow_succ]
      have ep : pop (n + 1) (a / 2 ^ i) = a / 2 ^ i % 2 + pop n (a / 2 ^ (i + 1)) := by rw [← dd]; rfl
      have el : lowT (n + 1) (a / 2 ^ i) 1 = if a / 2 ^ i % 2 = 1 then 1 + 2 * lowT n (a / 2 ^ (i + 1)) 0 else 2 * lowT n (a / 2 ^ (i + 1)) 1 := by rw [← dd]; rfl
      rw [q1, q2, ep, el]
      rw [q3, q4] at ih'
      by_cases b : a / 2 ^ i % 2 = 0
      · rw [if_pos b, ih', b, Nat.zero_add, if_neg (show ¬ (0 : Nat) = 1 by omega), Nat.pow_succ, Nat.mul_assoc]
      · have b1 : a / 2 ^ i % 2 = 1 := by omega
        rw [if_neg b, b1, if_pos rfl, if_pos (by omega), lowT_0, Nat.mul_zero, Nat.add_zero, Nat.mul_one, mv_pow (by omega)]
/-! several in any order: the loop down the numbers -/
theorem gd_dif {m a : Nat} (hm : m < 4096) : nI m &&& (nI (mv 12 a) ^^^ (-1)) = 0 ↔ gd 12 m a := by
  rw [nI_dif, nI_z (Nat.lt_of_le_of_lt (dif_le _ _) (by omega)), dif_0 (n := 12) (by omega) hm, gd_iff 12 m a hm]
theorem Md_next220n (σ : kS) (x1 x2 x3 x5 : Int32) {a K : Nat} (hK : K ≤ 12) : ∀ X f, X ≤ 4096 → (∀ m, m < X → gd 12 m a → pop 12 m ≠ K) → M_Md_takenNext_220 (f + X + 1) σ x1 x2 x3 (nI (mv 12 a)) x5 (nI K) (nI X + (-1)) = some (oM (lowO a (K + 1)), σ) := by
  intro X
  induction X with
  | zero =>
    intro f _ _
    show M_Md_takenNext_220_b _ _ _ _ _ _ _ _ _ = _
    unfold M_Md_takenNext_220_b
    rw [if_pos (show nI 0 + (-1) < 0 by decide), nI_1]
    exact Md_lowO σ (by omega)
  | succ X ih =>
    intro f hX h
    show M_Md_takenNext_220_b (M_Md_takenNext_220 (f + X + 1)) _ _ _ _ _ _ _ _ = _
    unfold M_Md_takenNext_220_b
    have rc := ih f (by omega) (fun m hm => h m (by omega))
    rw [k_m1, if_neg (nI_lt0 (by omega)), k_let_r]
    by_cases c : gd 12 X a
    · rw [if_pos ((gd_dif (by omega)).mpr c), k_call_s (Md_bits σ (by omega)), if_neg (fun e => h X (by omega) c ((nI_eq (Nat.lt_of_le_of_lt (pop_le 12 X) (by omega)) (by omega)).mp e)), k_let_r]
      exact rc
    · rw [if_neg (fun e => c ((gd_dif (by omega)).mp e))]
      exact rc
theorem Md_next220s (σ : kS) (x1 x2 x3 x5 : Int32) {a K R : Nat} (hK : K ≤ 12) (hR : gd 12 R a) (hp : pop 12 R = K) : ∀ X f, X ≤ 4096 → R < X → (∀ m, R < m → m < X → gd 12 m a → pop 12 m ≠ K) → M_Md_takenNext_220 (f + X + 1) σ x1 x2 x3 (nI (mv 12 a)) x5 (nI K) (nI X + (-1)) = some (nI R, σ) := by
  intro X
  induction X with
  | zero => intro f _ h; omega
  | succ X ih =>
    intro f hX hRX h
    show M_Md_takenNext_220_b (M_Md_takenNext_220 (f + X + 1)) _ _ _ _ _ _ _ _ = _
    unfold M_Md_takenNext_220_b
    rw [k_m1, if_neg (nI_lt0 (by omega)), k_let_r]
    by_cases e : R = X
    · subst e
      rw [if_pos ((gd_dif (by omega)).mpr hR), k_call_s (Md_bits σ (by omega)), if_pos (congrArg nI hp)]
    · have rc := ih f (by omega) (by omega) (fun m h1 h2 => h m h1 (by omega))
      by_cases c : gd 12 X a
      · rw [if_pos ((gd_dif (by omega)).mpr c), k_call_s (Md_bits σ (by omega)), if_neg (fun e2 => h X (by omega) (by omega) c ((nI_eq (Nat.lt_of_le_of_lt (pop_le 12 X) (by omega)) (by omega)).mp e2)), k_let_r]
        exact rc
      · rw [if_neg (fun e2 => c ((gd_dif (by omega)).mp e2))]
        exact rc
theorem Md_nextA (σ : kS) (x1 x2 x3 x5 : Int32) {a l : Nat} (hl : l < 4096) (hs : gd 12 (mv 12 l) a) : M_Md_takenNext_220 k_fu σ x1 x2 x3 (nI (mv 12 a)) x5 (nI (pop 12 l)) (nI (mv 12 l) - 1) = some (oM (nxtA a l), σ) := by
  have h12 := pop_le 12 l
  have hm := mv12_lt l
  obtain ⟨s1, s2⟩ := nxt_spec 12 a l hs
  have e1 : nI (mv 12 l) - 1 = nI (mv 12 l) + (-1) := by rw [Int32.sub_eq_add_neg]
  rw [e1, show k_fu = k_fu - mv 12 l - 1 + mv 12 l + 1 by unfold k_fu; omega]
  unfold nxtA
  cases hn : nxt 12 a l with
  | none =>
    rw [Md_next220n σ x1 x2 x3 x5 h12 (mv 12 l) _ (by omega) (s1 hn)]
    rfl
  | some r =>
    obtain ⟨r1, r2, r3, r4, r5⟩ := s2 r hn
    rw [Md_next220s σ x1 x2 x3 x5 h12 r3 ((pop_mv 12 r).trans r4) (mv 12 l) _ (by omega) r2 (fun m h1 h2 h3 h4 => by have := r5 m h2 h3 h4; omega)]
    rfl
