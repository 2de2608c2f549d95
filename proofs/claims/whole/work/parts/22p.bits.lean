/-! sets of places as numbers: place k is bit k in the class; the model has place k at bit 11 - k -/
theorem nI_and (a b : Nat) : nI a &&& nI b = nI (a &&& b) := by
  unfold nI
  apply Int32.toBitVec_inj.mp
  simp
theorem nI_or (a b : Nat) : nI a ||| nI b = nI (a ||| b) := by
  unfold nI
  apply Int32.toBitVec_inj.mp
  simp
theorem nI_xor (a b : Nat) : nI a ^^^ nI b = nI (a ^^^ b) := by
  unfold nI
  apply Int32.toBitVec_inj.mp
  simp
/-- a without b -/
def dif (a b : Nat) : Nat := a &&& (b ^^^ 4294967295)
theorem nI_dif (a b : Nat) : nI a &&& (nI b ^^^ (-1)) = nI (dif a b) := by
  rw [show (-1 : Int32) = nI 4294967295 by decide, nI_xor, nI_and]
  rfl
theorem dif_bit {a b k : Nat} (hk : k < 32) : (dif a b).testBit k = (a.testBit k && !b.testBit k) := by
  unfold dif
  rw [Nat.testBit_and, Nat.testBit_xor, show 4294967295 = 2 ^ 32 - 1 by decide, Nat.testBit_two_pow_sub_one]
  simp [hk]
theorem dif_le (a b : Nat) : dif a b ≤ a := Nat.and_le_left
theorem dif_0 {a b n : Nat} (hn : n ≤ 32) (ha : a < 2 ^ n) : dif a b = 0 ↔ ∀ k, k < n → a.testBit k = true → b.testBit k = true := by
  constructor
  · intro h k hk hak
    have := dif_bit (a := a) (b := b) (k := k) (by omega)
    rw [h, Nat.zero_testBit, hak] at this
    cases hb : b.testBit k
    · rw [hb] at this; simp at this
    · rfl
  · intro h
    apply Nat.eq_of_testBit_eq
    intro k
    rw [Nat.zero_testBit]
    by_cases hk : k < n
    · rw [dif_bit (by omega)]
      cases ha : a.testBit k
      · rfl
      · rw [h k hk ha]; rfl
    · exact Nat.testBit_lt_two_pow (Nat.lt_of_le_of_lt (dif_le a b) (Nat.lt_of_lt_of_le ha (Nat.pow_le_pow_right (by omega) (by omega))))
theorem bit_dm (x i : Nat) : x.testBit i = decide (x / 2 ^ i % 2 = 1) := Nat.testBit_eq_decide_div_mod_eq
theorem and_pow (x i : Nat) : x &&& 2 ^ i = 0 ↔ x / 2 ^ i % 2 = 0 := by
  constructor
  · intro h
    have e : (x &&& 2 ^ i).testBit i = false := by rw [h, Nat.zero_testBit]
    rw [Nat.testBit_and, Nat.testBit_two_pow, bit_dm] at e
    simp at e
    exact e
  · intro h
    apply Nat.eq_of_testBit_eq
    intro k
    rw [Nat.zero_testBit, Nat.testBit_and, Nat.testBit_two_pow]
    by_cases e : i = k
    · subst e
      rw [bit_dm, h]
      rfl
    · simp [e]
theorem or_pow {acc i : Nat} (h : acc < 2 ^ i) : acc ||| 2 ^ i = acc + 2 ^ i := by
  have := Nat.two_pow_add_eq_or_of_lt h 1
  rw [Nat.mul_one] at this
  rw [Nat.or_comm, ← this, Nat.add_comm]
theorem or_low {i a b : Nat} (h : b < 2 ^ i) : 2 ^ i * a ||| b = 2 ^ i * a + b := (Nat.two_pow_add_eq_or_of_lt h a).symm
/-- how many of n places -/
def pop : Nat → Nat → Nat
  | 0 => fun _ => 0
  | n + 1 => fun x => x % 2 + pop n (x / 2)
/-- the k first of them -/
def lowT : Nat → Nat → Nat → Nat
  | 0 => fun _ _ => 0
  | n + 1 => fun x k => if k = 0 then 0 else if x % 2 = 1 then 1 + 2 * lowT n (x / 2) (k - 1) else 2 * lowT n (x / 2) k
/-- the model's number -/
def mv : Nat → Nat → Nat
  | 0 => fun _ => 0
  | n + 1 => fun x => 2 ^ n * (x % 2) + mv n (x / 2)
theorem mv_lt : ∀ n x, mv n x < 2 ^ n := by
  intro n
  induction n with
  | zero => intro x; show 0 < 1; omega
  | succ n ih =>
    intro x
    show 2 ^ n * (x % 2) + mv n (x / 2) < 2 ^ (n + 1)
    have := ih (x / 2)
    rw [Nat.pow_succ]
    rcases Nat.mod_two_eq_zero_or_one x with h | h <;> rw [h] <;> omega
theorem mv_bit : ∀ n x k, k < n → (mv n x).testBit k = x.testBit (n - 1 - k) := by
  intro n
  induction n with
  | zero => intro x k hk; omega
  | succ n ih =>
    intro x k hk
    show (2 ^ n * (x % 2) + mv n (x / 2)).testBit k = _
    rw [Nat.testBit_two_pow_mul_add _ (mv_lt n (x / 2))]
    by_cases h : k < n
    · rw [if_pos h, ih (x / 2) k h, show n + 1 - 1 - k = (n - 1 - k) + 1 by omega, Nat.testBit_succ]
    · have : k = n := by omega
      subst this
      rw [if_neg h, Nat.sub_self, show k + 1 - 1 - k = 0 by omega, Nat.testBit_zero, Nat.testBit_zero]
      congr 1
      have := Nat.mod_mod x 2
      rw [this]
theorem mv_ext {n x y : Nat} (hx : x < 2 ^ n) (h : ∀ k, k < n → x.testBit k = y.testBit (n - 1 - k)) : x = mv n y := by
  apply Nat.eq_of_testBit_eq
  intro k
  by_cases hk : k < n
  · rw [h k hk, mv_bit n y k hk]
  · have e := Nat.pow_le_pow_right (n := 2) (by omega) (show n ≤ k by omega)
    rw [Nat.testBit_lt_two_pow (Nat.lt_of_lt_of_le hx e), Nat.testBit_lt_two_pow (Nat.lt_of_lt_of_le (mv_lt n y) e)]
theorem mv_or (n x y : Nat) : mv n x ||| mv n y = mv n (x ||| y) := by
  refine mv_ext (Nat.or_lt_two_pow (mv_lt n x) (mv_lt n y)) (fun k hk => ?_)
  rw [Nat.testBit_or, Nat.testBit_or, mv_bit n x k hk, mv_bit n y k hk]
theorem mv_dif {n x y : Nat} (hn : n ≤ 32) : dif (mv n x) (mv n y) = mv n (dif x y) := by
  refine mv_ext (Nat.lt_of_le_of_lt (dif_le _ _) (mv_lt n x)) (fun k hk => ?_)
  rw [dif_bit (by omega), dif_bit (by omega), mv_bit n x k hk, mv_bit n y k hk]
theorem mv_0 : ∀ n, mv n 0 = 0 := by
  intro n
  induction n with
  | zero => rfl
  | succ n ih => show 2 ^ n * 0 + mv n 0 = 0; rw [ih, Nat.mul_zero]
theorem mv_z {n x : Nat} (hx : x < 2 ^ n) : mv n x = 0 ↔ x = 0 := by
  constructor
  · intro h
    apply Nat.eq_of_testBit_eq
    intro k
    rw [Nat.zero_testBit]
    by_cases hk : k < n
    · have := mv_bit n x (n - 1 - k) (by omega)
      rw [h, Nat.zero_testBit, show n - 1 - (n - 1 - k) = k by omega] at this
      exact this.symm
    · exact Nat.testBit_lt_two_pow (Nat.lt_of_lt_of_le hx (Nat.pow_le_pow_right (by omega) (by omega)))
  · intro h
    rw [h, mv_0]
theorem mv_pow {n k : Nat} (hk : k < n) : mv n (2 ^ k) = 2 ^ (n - 1 - k) := by
  refine (mv_ext (Nat.pow_lt_pow_right (by omega) (by omega)) (fun i hi => ?_)).symm
  rw [Nat.testBit_two_pow, Nat.testBit_two_pow]
  congr 1
  simp only [eq_iff_iff]
  omega
theorem pop_top : ∀ n b z, b ≤ 1 → z < 2 ^ n → pop (n + 1) (2 ^ n * b + z) = b + pop n z := by
  intro n
  induction n with
  | zero =>
    intro b z hb hz
    have : z = 0 := by omega
    subst this
    show (2 ^ 0 * b + 0) % 2 + 0 = b + 0
    omega
  | succ n ih =>
    intro b z hb hz
    show (2 ^ (n + 1) * b + z) % 2 + pop (n + 1) ((2 ^ (n + 1) * b + z) / 2) = b + (z % 2 + pop n (z / 2))
    have e1 : 2 ^ (n + 1) * b + z = 2 * (2 ^ n * b) + z := by rw [Nat.pow_succ]; simp [Nat.mul_comm, Nat.mul_left_comm]
    rw [e1, show (2 * (2 ^ n * b) + z) % 2 = z % 2 by omega, show (2 * (2 ^ n * b) + z) / 2 = 2 ^ n * b + z / 2 by omega, ih b (z / 2) hb (by rw [Nat.pow_succ] at hz; omega)]
    omega
theorem pop_mv : ∀ n x, pop n (mv n x) = pop n x := by
  intro n
  induction n with
  | zero => intro x; rfl
  | succ n ih =>
    intro x
    show pop (n + 1) (2 ^ n * (x % 2) + mv n (x / 2)) = x % 2 + pop n (x / 2)
    rw [pop_top n _ _ (by omega) (mv_lt n _), ih]
theorem pop_le : ∀ n x, pop n x ≤ n := by
  intro n
  induction n with
  | zero => intro x; exact Nat.le_refl 0
  | succ n ih => intro x; have := ih (x / 2); show x % 2 + pop n (x / 2) ≤ n + 1; omega
theorem pop_z : ∀ n x, x < 2 ^ n → pop n x = 0 → x = 0 := by
  intro n
  induction n with
  | zero => intro x hx _; omega
  | succ n ih =>
    intro x hx h
    have h' : x % 2 + pop n (x / 2) = 0 := h
    have := ih (x / 2) (by rw [Nat.pow_succ] at hx; omega) (by omega)
    omega
theorem lowT_lt : ∀ n x k, lowT n x k < 2 ^ n := by
  intro n
  induction n with
  | zero => intro x k; show 0 < 1; omega
  | succ n ih =>
    intro x k
    have h1 := ih (x / 2) (k - 1)
    have h2 := ih (x / 2) k
    have h3 := Nat.two_pow_pos (n + 1)
    show (if k = 0 then 0 else if x % 2 = 1 then 1 + 2 * lowT n (x / 2) (k - 1) else 2 * lowT n (x / 2) k) < 2 ^ (n + 1)
    rw [Nat.pow_succ] at *
    split
    · omega
    · split <;> omega
theorem lowT_0 (n x : Nat) : lowT n x 0 = 0 := by
  cases n with
  | zero => rfl
  | succ n =>
    show (if (0 : Nat) = 0 then 0 else if x % 2 = 1 then 1 + 2 * lowT n (x / 2) (0 - 1) else 2 * lowT n (x / 2) 0) = 0
    exact if_pos rfl
theorem lowT_pop : ∀ n x k, k ≤ pop n x → pop n (lowT n x k) = k := by
  intro n
  induction n with
  | zero => intro x k hk; have : k ≤ 0 := hk; show 0 = k; omega
  | succ n ih =>
    intro x k hk
    have hk' : k ≤ x % 2 + pop n (x / 2) := hk
    show (lowT (n + 1) x k) % 2 + pop n (lowT (n + 1) x k / 2) = k
    have e : lowT (n + 1) x k = if k = 0 then 0 else if x % 2 = 1 then 1 + 2 * lowT n (x / 2) (k - 1) else 2 * lowT n (x / 2) k := rfl
    by_cases h0 : k = 0
    · rw [e, if_pos h0, h0]
      have : ∀ m, pop m 0 = 0 := fun m => by
        induction m with
        | zero => rfl
        | succ m ihm => show 0 + pop m 0 = 0; omega
      show 0 + pop n 0 = 0
      rw [this]
    · rw [e, if_neg h0]
      by_cases h1 : x % 2 = 1
      · rw [if_pos h1, show (1 + 2 * lowT n (x / 2) (k - 1)) / 2 = lowT n (x / 2) (k - 1) by omega, ih _ _ (by omega)]
        omega
      · rw [if_neg h1, show (2 * lowT n (x / 2) k) / 2 = lowT n (x / 2) k by omega, ih _ _ (by omega)]
        omega
/-- a set in a set, place by place from the first -/
def gd : Nat → Nat → Nat → Prop
  | 0 => fun _ _ => True
  | n + 1 => fun m a => m / 2 ^ n ≤ a % 2 ∧ gd n (m % 2 ^ n) (a / 2)
theorem gd_iff : ∀ n m a, m < 2 ^ n → (gd n m a ↔ ∀ k, k < n → m.testBit k = true → (mv n a).testBit k = true) := by
  intro n
  induction n with
  | zero => intro m a _; exact ⟨fun _ k hk => by omega, fun _ => trivial⟩
  | succ n ih =>
    intro m a hm
    have hb : m / 2 ^ n ≤ 1 := by
      have := Nat.two_pow_pos n
      rw [Nat.pow_succ] at hm
      exact Nat.le_of_lt_succ (Nat.div_lt_of_lt_mul hm)
    have key : ∀ k, k < n + 1 → (mv (n + 1) a).testBit k = if k < n then (mv n (a / 2)).testBit k else decide (a % 2 = 1) := by
      intro k hk
      show (2 ^ n * (a % 2) + mv n (a / 2)).testBit k = _
      rw [Nat.testBit_two_pow_mul_add _ (mv_lt n _)]
      by_cases h : k < n
      · rw [if_pos h, if_pos h]
      · have : k = n := by omega
        subst this
        rw [if_neg h, if_neg h, Nat.sub_self, Nat.testBit_zero, Nat.mod_mod]
    have hmod := ih (m % 2 ^ n) (a / 2) (Nat.mod_lt _ (Nat.two_pow_pos n))
    constructor
    · intro h k hk hb1
      rw [key k hk]
      by_cases hkn : k < n
      · rw [if_pos hkn]
        refine hmod.mp h.2 k hkn ?_
        rw [Nat.testBit_mod_two_pow, hb1]
        simp [hkn]
      · have : k = n := by omega
        subst this
        rw [if_neg hkn]
        rw [bit_dm] at hb1
        have h1 := of_decide_eq_true hb1
        have h2 : m / 2 ^ k ≤ a % 2 := h.1
        generalize m / 2 ^ k = q at h1 h2 hb
        exact decide_eq_true (by omega)
    · intro h
      refine ⟨?_, hmod.mpr (fun k hk hb1 => ?_)⟩
      · rcases (show m / 2 ^ n = 0 ∨ m / 2 ^ n = 1 by generalize m / 2 ^ n = q at hb; omega) with e | e
        · rw [e]; exact Nat.zero_le _
        · have := h n (by omega) (by rw [bit_dm, e]; rfl)
          rw [key n (by omega), if_neg (by omega)] at this
          have := of_decide_eq_true this
          rw [e, this]; exact Nat.le_refl 1
      · rw [Nat.testBit_mod_two_pow] at hb1
        have hb2 : m.testBit k = true := by
          cases hx : m.testBit k
          · rw [hx] at hb1; simp at hb1
          · rfl
        have := h k (by omega) hb2
        rw [key k (by omega), if_pos hk] at this
        exact this
theorem gd_pop : ∀ n m a, m < 2 ^ n → gd n m a → pop n m ≤ pop n a := by
  intro n
  induction n with
  | zero => intro m a _ _; exact Nat.le_refl 0
  | succ n ih =>
    intro m a hm h
    have h2 := ih (m % 2 ^ n) (a / 2) (Nat.mod_lt _ (Nat.two_pow_pos n)) h.2
    have hb : m / 2 ^ n ≤ 1 := by
      rw [Nat.pow_succ] at hm
      exact Nat.le_of_lt_succ (Nat.div_lt_of_lt_mul hm)
    have e := pop_top n (m / 2 ^ n) (m % 2 ^ n) hb (Nat.mod_lt _ (Nat.two_pow_pos n))
    rw [Nat.div_add_mod] at e
    rw [e]
    show _ ≤ a % 2 + pop n (a / 2)
    have := h.1
    omega
/-- a number of n + 1 places: its first place and the rest -/
theorem top_cases {n m : Nat} (hm : m < 2 ^ (n + 1)) : ∃ b z, b ≤ 1 ∧ z < 2 ^ n ∧ m = 2 ^ n * b + z ∧ m / 2 ^ n = b ∧ m % 2 ^ n = z := by
  refine ⟨m / 2 ^ n, m % 2 ^ n, ?_, Nat.mod_lt _ (Nat.two_pow_pos n), (Nat.div_add_mod m (2 ^ n)).symm, rfl, rfl⟩
  rw [Nat.pow_succ] at hm
  exact Nat.le_of_lt_succ (Nat.div_lt_of_lt_mul hm)
theorem gd_mk {n b z a : Nat} (hz : z < 2 ^ n) (h : b ≤ a % 2) (hg : gd n z (a / 2)) : gd (n + 1) (2 ^ n * b + z) a := by
  have e1 : (2 ^ n * b + z) / 2 ^ n = b := by rw [Nat.mul_add_div (Nat.two_pow_pos n), Nat.div_eq_of_lt hz, Nat.add_zero]
  have e2 : (2 ^ n * b + z) % 2 ^ n = z := by rw [Nat.mul_add_mod, Nat.mod_eq_of_lt hz]
  show _ ≤ _ ∧ gd n _ _
  rw [e1, e2]
  exact ⟨h, hg⟩
theorem mv_cons (n l r : Nat) (hl : l ≤ 1) : mv (n + 1) (l + 2 * r) = 2 ^ n * l + mv n r := by
  show 2 ^ n * ((l + 2 * r) % 2) + mv n ((l + 2 * r) / 2) = _
  rw [show (l + 2 * r) % 2 = l by omega, show (l + 2 * r) / 2 = r by omega]
theorem lowT_max : ∀ n a k, k ≤ pop n a → gd n (mv n (lowT n a k)) a ∧ ∀ m, m < 2 ^ n → gd n m a → pop n m = k → m ≤ mv n (lowT n a k) := by
  intro n
  induction n with
  | zero => intro a k _; exact ⟨trivial, fun m hm _ _ => by have : m < 1 := hm; show m ≤ 0; omega⟩
  | succ n ih =>
    intro a k hk
    have hk' : k ≤ a % 2 + pop n (a / 2) := hk
    have e : lowT (n + 1) a k = if k = 0 then 0 else if a % 2 = 1 then 1 + 2 * lowT n (a / 2) (k - 1) else 2 * lowT n (a / 2) k := rfl
    by_cases h0 : k = 0
    · rw [e, if_pos h0, mv_0]
      refine ⟨?_, fun m hm hg hp => ?_⟩
      · have g0 : ∀ i b, gd i 0 b := fun i => by
          induction i with
          | zero => intro b; exact trivial
          | succ i ihi => intro b; show 0 / 2 ^ i ≤ _ ∧ gd i (0 % 2 ^ i) _; rw [Nat.zero_div, Nat.zero_mod]; exact ⟨Nat.zero_le _, ihi _⟩
        exact g0 _ _
      · have := pop_z (n + 1) m hm (by omega)
        omega
    · rw [e, if_neg h0]
      by_cases h1 : a % 2 = 1
      · rw [if_pos h1, mv_cons n 1 _ (by omega)]
        obtain ⟨i1, i2⟩ := ih (a / 2) (k - 1) (by omega)
        refine ⟨gd_mk (mv_lt n _) (by omega) i1, fun m hm hg hp => ?_⟩
        obtain ⟨b, z, hb, hz, em, eb, ez⟩ := top_cases hm
        have hg2 : gd n z (a / 2) := by have := hg.2; rw [ez] at this; exact this
        rw [em, pop_top n b z hb hz] at hp
        rcases (show b = 0 ∨ b = 1 by omega) with q | q
        · subst q
          rw [Nat.mul_zero, Nat.zero_add] at em
          omega
        · subst q
          have := i2 z hz hg2 (by omega)
          omega
      · rw [if_neg h1, show 2 * lowT n (a / 2) k = 0 + 2 * lowT n (a / 2) k by omega, mv_cons n 0 _ (by omega), Nat.mul_zero, Nat.zero_add]
        obtain ⟨i1, i2⟩ := ih (a / 2) k (by omega)
        refine ⟨by have := gd_mk (mv_lt n (lowT n (a / 2) k)) (show 0 ≤ a % 2 by omega) i1; rw [Nat.mul_zero, Nat.zero_add] at this; exact this, fun m hm hg hp => ?_⟩
        obtain ⟨b, z, hb, hz, em, eb, ez⟩ := top_cases hm
        have hg1 : b ≤ a % 2 := by have := hg.1; rw [eb] at this; exact this
        have hg2 : gd n z (a / 2) := by have := hg.2; rw [ez] at this; exact this
        have q : b = 0 := by omega
        subst q
        rw [Nat.mul_zero, Nat.zero_add] at em
        rw [em]
        exact i2 z hz hg2 (by rw [← em]; rw [em] at hp; have := pop_top n 0 z (by omega) hz; rw [Nat.mul_zero, Nat.zero_add] at this; rw [this] at hp; rw [em]; omega)
/-- the next set of the same number -/
def nxt : Nat → Nat → Nat → Option Nat
  | 0 => fun _ _ => none
  | n + 1 => fun a l => match nxt n (a / 2) (l / 2) with
    | some m => some (l % 2 + 2 * m)
    | none => if l % 2 = 1 ∧ pop n (l / 2) + 1 ≤ pop n (a / 2) then some (2 * lowT n (a / 2) (pop n (l / 2) + 1)) else none
theorem nxt_some {n a l m : Nat} (h : nxt n (a / 2) (l / 2) = some m) : nxt (n + 1) a l = some (l % 2 + 2 * m) := by
  show (match nxt n (a / 2) (l / 2) with | some m => some (l % 2 + 2 * m) | none => _) = _
  rw [h]
theorem nxt_none {n a l : Nat} (h : nxt n (a / 2) (l / 2) = none) : nxt (n + 1) a l = if l % 2 = 1 ∧ pop n (l / 2) + 1 ≤ pop n (a / 2) then some (2 * lowT n (a / 2) (pop n (l / 2) + 1)) else none := by
  show (match nxt n (a / 2) (l / 2) with | some m => some (l % 2 + 2 * m) | none => _) = _
  rw [h]
theorem nxt_spec : ∀ n a l, gd n (mv n l) a → (nxt n a l = none → ∀ m, m < mv n l → gd n m a → pop n m ≠ pop n l) ∧ (∀ r, nxt n a l = some r → r < 2 ^ n ∧ mv n r < mv n l ∧ gd n (mv n r) a ∧ pop n r = pop n l ∧ ∀ m, m < mv n l → gd n m a → pop n m = pop n l → m ≤ mv n r) := by
  intro n
  induction n with
  | zero => intro a l _; exact ⟨fun _ m hm => by have : m < 0 := hm; omega, fun r hr => by cases hr⟩
  | succ n ih =>
    intro a l hgl
    have el : mv (n + 1) l = 2 ^ n * (l % 2) + mv n (l / 2) := rfl
    have hl1 : l % 2 ≤ 1 := by omega
    have ebl : mv (n + 1) l / 2 ^ n = l % 2 := by rw [el, Nat.mul_add_div (Nat.two_pow_pos n), Nat.div_eq_of_lt (mv_lt n _), Nat.add_zero]
    have ezl : mv (n + 1) l % 2 ^ n = mv n (l / 2) := by rw [el, Nat.mul_add_mod, Nat.mod_eq_of_lt (mv_lt n _)]
    have hgl1 : l % 2 ≤ a % 2 := by have := hgl.1; rw [ebl] at this; exact this
    have hgl2 : gd n (mv n (l / 2)) (a / 2) := by have := hgl.2; rw [ezl] at this; exact this
    obtain ⟨i1, i2⟩ := ih (a / 2) (l / 2) hgl2
    have epl : pop (n + 1) l = l % 2 + pop n (l / 2) := rfl
    have spl : ∀ m, m < mv (n + 1) l → gd (n + 1) m a → ∃ b z, b ≤ 1 ∧ z < 2 ^ n ∧ m = 2 ^ n * b + z ∧ b ≤ a % 2 ∧ gd n z (a / 2) ∧ pop (n + 1) m = b + pop n z := by
      intro m hm hg
      obtain ⟨b, z, hb, hz, em, eb, ez⟩ := top_cases (Nat.lt_trans hm (mv_lt (n + 1) l))
      refine ⟨b, z, hb, hz, em, ?_, ?_, ?_⟩
      · have := hg.1; rw [eb] at this; exact this
      · have := hg.2; rw [ez] at this; exact this
      · rw [em, pop_top n b z hb hz]
    have hzl := mv_lt n (l / 2)
    cases hn : nxt n (a / 2) (l / 2) with
    | some r' =>
      rw [nxt_some hn]
      obtain ⟨r1, r2, r3, r4, r5⟩ := i2 r' hn
      refine ⟨fun h => (by cases h), fun r hr => ?_⟩
      have hr := Option.some.inj hr
      subst hr
      rw [mv_cons n (l % 2) r' hl1]
      refine ⟨by rw [Nat.pow_succ]; omega, by rw [el]; omega, gd_mk (mv_lt n _) hgl1 r3, ?_, fun m hm hg hp => ?_⟩
      · show (l % 2 + 2 * r') % 2 + pop n ((l % 2 + 2 * r') / 2) = _
        rw [show (l % 2 + 2 * r') % 2 = l % 2 by omega, show (l % 2 + 2 * r') / 2 = r' by omega, r4, epl]
      · obtain ⟨b, z, hb, hz, em, g1, g2, ep⟩ := spl m hm hg
        rw [el, em] at hm
        rcases (show b = 0 ∨ b = 1 by omega) with q | q <;> rcases (show l % 2 = 0 ∨ l % 2 = 1 by omega) with p | p <;> rw [q] at em hm ep <;> rw [p] at hm epl ⊢
        · have := r5 z (by omega) g2 (by omega); omega
        · omega
        · omega
        · have := r5 z (by omega) g2 (by omega); omega
    | none =>
      rw [nxt_none hn]
      have no := i1 hn
      by_cases c : l % 2 = 1 ∧ pop n (l / 2) + 1 ≤ pop n (a / 2)
      · rw [if_pos c]
        refine ⟨fun h => (by cases h), fun r hr => ?_⟩
        have hr := Option.some.inj hr
        subst hr
        obtain ⟨m1, m2⟩ := lowT_max n (a / 2) (pop n (l / 2) + 1) c.2
        have lt := lowT_lt n (a / 2) (pop n (l / 2) + 1)
        have e0 : mv (n + 1) (2 * lowT n (a / 2) (pop n (l / 2) + 1)) = mv n (lowT n (a / 2) (pop n (l / 2) + 1)) := by
          have := mv_cons n 0 (lowT n (a / 2) (pop n (l / 2) + 1)) (by omega)
          rw [Nat.zero_add, Nat.mul_zero, Nat.zero_add] at this
          exact this
        have lt2 := mv_lt n (lowT n (a / 2) (pop n (l / 2) + 1))
        rw [e0]
        refine ⟨by rw [Nat.pow_succ]; omega, by rw [el, c.1]; omega, ?_, ?_, fun m hm hg hp => ?_⟩
        · have := gd_mk lt2 (show 0 ≤ a % 2 by omega) m1
          rw [Nat.mul_zero, Nat.zero_add] at this
          exact this
        · show (2 * lowT n _ _) % 2 + pop n ((2 * lowT n _ _) / 2) = _
          rw [show (2 * lowT n (a / 2) (pop n (l / 2) + 1)) % 2 = 0 by omega, show (2 * lowT n (a / 2) (pop n (l / 2) + 1)) / 2 = lowT n (a / 2) (pop n (l / 2) + 1) by omega, lowT_pop n _ _ c.2, epl, c.1]
          omega
        · obtain ⟨b, z, hb, hz, em, g1, g2, ep⟩ := spl m hm hg
          rw [el, em, c.1] at hm
          rcases (show b = 0 ∨ b = 1 by omega) with q | q <;> rw [q] at em hm ep
          · have := m2 z hz g2 (by rw [ep, epl, c.1] at hp; omega)
            omega
          · exact absurd (show pop n z = pop n (l / 2) by rw [ep, epl, c.1] at hp; omega) (no z (by omega) g2)
      · rw [if_neg c]
        refine ⟨fun _ m hm hg hp => ?_, fun r hr => by cases hr⟩
        obtain ⟨b, z, hb, hz, em, g1, g2, ep⟩ := spl m hm hg
        rw [el, em] at hm
        rcases (show b = 0 ∨ b = 1 by omega) with q | q <;> rcases (show l % 2 = 0 ∨ l % 2 = 1 by omega) with p | p <;> rw [q] at em hm ep <;> rw [p] at hm epl
        · exact no z (by omega) g2 (by omega)
        · have := gd_pop n z (a / 2) hz g2
          exact c ⟨p, by omega⟩
        · omega
        · exact no z (by omega) g2 (by omega)
theorem nxt_lift : ∀ i n a l r, nxt n (a / 2 ^ i) (l / 2 ^ i) = some r → nxt (n + i) a l = some (l % 2 ^ i + 2 ^ i * r) := by
  intro i
  induction i with
  | zero =>
    intro n a l r h
    rw [Nat.pow_zero, Nat.div_one, Nat.div_one] at h
    rw [Nat.add_zero, h, Nat.pow_zero, Nat.mod_one]
    congr 1
    omega
  | succ i ih =>
    intro n a l r h
    rw [Nat.pow_succ, Nat.mul_comm, ← Nat.div_div_eq_div_mul, ← Nat.div_div_eq_div_mul] at h
    have := nxt_some (ih n (a / 2) (l / 2) r h)
    rw [show n + (i + 1) = n + i + 1 by omega, this]
    congr 1
    rw [Nat.pow_succ, Nat.mul_comm (2 ^ i) 2, Nat.mod_mul]
    rw [Nat.mul_add, Nat.mul_assoc]
    omega
