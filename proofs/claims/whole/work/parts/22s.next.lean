/-! the search: the trees of a state at work, and one choice after the other -/
/-- σ holds the class's trees of s -/
def SC (s σ : kS) : Prop := σ.1 2 = s.1 2 ∧ ∀ k, k < 14 → σ.2.1 k = s.2.1 k
/-- σ holds the model's trees of s -/
def SMd (s σ : kS) : Prop := FM s σ ∧ σ.2.1 35 = s.2.1 11 ∧ σ.2.1 36 = s.2.1 12 ∧ σ.2.1 37 = s.2.1 13
theorem SC_gN {s σ : kS} (h : SC s σ) {k : Nat} (hk : k < 14) (t : Nat) : gN σ k t = gN s k t := by unfold gN; rw [h.2 k hk]
theorem FI_SC {s σ : kS} {T : Nat} (hF : FI s T) (h : SC s σ) : FI σ T := by
  obtain ⟨hT, e2, hz, htr⟩ := hF
  refine ⟨hT, by rw [h.1]; exact e2, fun t ht => ?_, fun t ht => ?_⟩
  · rw [h.2 4 (by decide), h.2 6 (by decide), h.2 7 (by decide), h.2 9 (by decide), h.2 11 (by decide)]
    exact hz t ht
  · refine TreeOK_congr (Nat.le_refl T) ht (fun j hj u _ => ?_) (fun k _ => ?_) (fun k _ => ?_) (htr t ht)
    · rw [h.2 j (by omega)]
    · rw [h.2 10 (by decide)]
    · rw [h.2 12 (by decide)]
theorem T_sort {s : kS} {T t : Nat} (hF : FI s T) (ht : t < T) : gN s 2 t ≤ 2 := (hF.2.2.2 t ht).2.1.1
theorem T_name {s : kS} {T t : Nat} (hF : FI s T) (ht : t < T) : gN s 3 t < 100 := (hF.2.2.2 t ht).2.1.2.1
theorem T_name8 {s : kS} {T t : Nat} (hF : FI s T) (ht : t < T) (h : gN s 2 t = 2) : gN s 3 t < 8 := (hF.2.2.2 t ht).2.1.2.2.2.1 h
theorem T_kind {s : kS} {T t : Nat} (hF : FI s T) (ht : t < T) : gN s 4 t ≤ 3 := (hF.2.2.2 t ht).2.1.2.2.2.2.1
theorem T_dep {s : kS} {T t : Nat} (hF : FI s T) (ht : t < T) : gN s 7 t ≤ 20 := (hF.2.2.2 t ht).2.1.2.2.2.2.2.2.2.1
theorem T_size {s : kS} {T t : Nat} (hF : FI s T) (ht : t < T) : 1 ≤ gN s 8 t ∧ gN s 8 t ≤ 70 := ⟨(hF.2.2.2 t ht).2.1.2.2.2.2.2.2.2.2.1, (hF.2.2.2 t ht).2.1.2.2.2.2.2.2.2.2.2.1⟩
theorem T_cnt {s : kS} {T t : Nat} (hF : FI s T) (ht : t < T) : gN s 9 t ≤ 12 := (hF.2.2.2 t ht).2.1.2.2.2.2.2.2.2.2.2.2.1
theorem T_tests {s : kS} {T t : Nat} (hF : FI s T) (ht : t < T) : gN s 11 t ≤ 3 := (hF.2.2.2 t ht).2.1.2.2.2.2.2.2.2.2.2.2.2.1
theorem T_node {s : kS} {T t : Nat} (hF : FI s T) (ht : t < T) (h : gN s 2 t ≠ 1) : gN s 9 t = 0 := (hF.2.2.2 t ht).2.1.2.2.2.2.2.2.2.2.2.2.2.2 h
theorem T_e2 {s : kS} {T t : Nat} (hF : FI s T) (ht : t < T) : s.2.1 2 t = nI (gN s 2 t) := (hF.2.2.2 t ht).1.1
theorem T_e3 {s : kS} {T t : Nat} (hF : FI s T) (ht : t < T) : s.2.1 3 t = nI (gN s 3 t) := (hF.2.2.2 t ht).1.2.1
theorem T_e4 {s : kS} {T t : Nat} (hF : FI s T) (ht : t < T) : s.2.1 4 t = nI (gN s 4 t) := (hF.2.2.2 t ht).1.2.2.1
theorem T_e9 {s : kS} {T t : Nat} (hF : FI s T) (ht : t < T) : s.2.1 9 t = nI (gN s 9 t) := (hF.2.2.2 t ht).1.2.2.2.2.2.2.2.1
theorem T_e11 {s : kS} {T t : Nat} (hF : FI s T) (ht : t < T) : s.2.1 11 t = nI (gN s 11 t) := (hF.2.2.2 t ht).1.2.2.2.2.2.2.2.2
theorem T_part {s : kS} {T t k : Nat} (hF : FI s T) (ht : t < T) (hk : k < gN s 9 t) : s.2.1 10 (12 * t + k) = nI (gN s 10 (12 * t + k)) ∧ gN s 10 (12 * t + k) < T ∧ gN s 7 (gN s 10 (12 * t + k)) < gN s 7 t :=
  ⟨((hF.2.2.2 t ht).2.2.1 k hk).1, ((hF.2.2.2 t ht).2.2.1 k hk).2.1, ((hF.2.2.2 t ht).2.2.1 k hk).2.2.1⟩
/-! bits: a subset of a subset -/
theorem lowT_sub {a k : Nat} (hk : k ≤ pop 12 a) : ∀ i, i < 12 → (lowT 12 a k).testBit i = true → a.testBit i = true := by
  intro i hi hb
  have h1 := (gd_iff 12 _ a (mv_lt 12 _)).mp (lowT_max 12 a k hk).1 (11 - i) (by omega)
  rw [mv_bit 12 _ _ (by omega), mv_bit 12 _ _ (by omega), show 12 - 1 - (11 - i) = i by omega] at h1
  exact h1 hb
theorem gd_sub {l a : Nat} : gd 12 (mv 12 l) a ↔ ∀ i, i < 12 → l.testBit i = true → a.testBit i = true := by
  rw [gd_iff 12 _ a (mv_lt 12 _)]
  constructor
  · intro h i hi hb
    have := h (11 - i) (by omega)
    rw [mv_bit 12 _ _ (by omega), mv_bit 12 _ _ (by omega), show 12 - 1 - (11 - i) = i by omega] at this
    exact this hb
  · intro h i hi hb
    rw [mv_bit 12 _ _ hi] at hb ⊢
    exact h _ (by omega) hb
theorem pop_one : ∀ n x, x < 2 ^ n → pop n x = 1 → ∃ p, p < n ∧ x = 2 ^ p := by
  intro n
  induction n with
  | zero => intro x _ h; exact absurd (show (0 : Nat) = 1 from h) (by omega)
  | succ n ih =>
    intro x hx h
    have h' : x % 2 + pop n (x / 2) = 1 := h
    have hx2 : x / 2 < 2 ^ n := by rw [Nat.pow_succ] at hx; omega
    rcases (show x % 2 = 0 ∨ x % 2 = 1 by omega) with e | e
    · obtain ⟨p, hp, e2⟩ := ih (x / 2) hx2 (by omega)
      exact ⟨p + 1, by omega, by rw [Nat.pow_succ, ← e2]; omega⟩
    · have := pop_z n (x / 2) hx2 (by omega)
      exact ⟨0, by omega, by rw [Nat.pow_zero]; omega⟩
/-- the next set of places that a part t of the pattern P takes out of a; fr: the first one; l: the one before -/
def nextC (s : kS) (P t a : Nat) (fr : Bool) (l : Nat) : Option Nat :=
  if fr = true then (if gN s 2 t = 2 ∧ gN s 4 t = 3 then some 0 else lowO a 1)
  else if gN s 2 t = 2 ∧ 2 ≤ gN s 4 t then (if gN s 3 P < 5 then lowO a (pop 12 l + 1) else nxtA a l)
  else if gN s 3 P < 5 then none else lowO (dif a (l ||| (l - 1))) 1
/-- l may have been chosen by t out of a -/
def LaOK (s : kS) (t a l : Nat) : Prop := l < 4096 ∧ (∀ i, i < 12 → l.testBit i = true → a.testBit i = true) ∧ (¬ (gN s 2 t = 2 ∧ 2 ≤ gN s 4 t) → ∃ p, p < 12 ∧ l = 2 ^ p)
theorem lowO_ok {a k c : Nat} (h : lowO a k = some c) : c < 4096 ∧ (∀ i, i < 12 → c.testBit i = true → a.testBit i = true) ∧ pop 12 c = k := by
  unfold lowO at h
  by_cases e : k ≤ pop 12 a
  · rw [if_pos e] at h
    cases h
    exact ⟨lowT_lt 12 a k, lowT_sub e, lowT_pop 12 a k e⟩
  · rw [if_neg e] at h; cases h
theorem nextC_ok {s : kS} {P t a l c : Nat} {fr : Bool} (hl : fr = false → LaOK s t a l) (h : nextC s P t a fr l = some c) : LaOK s t a c := by
  unfold nextC at h
  cases fr with
  | true =>
    rw [if_pos rfl] at h
    by_cases c3 : gN s 2 t = 2 ∧ gN s 4 t = 3
    · rw [if_pos c3] at h
      cases h
      exact ⟨by omega, fun i _ hb => absurd hb (by rw [Nat.zero_testBit]; decide), fun hn => absurd ⟨c3.1, by omega⟩ hn⟩
    · rw [if_neg c3] at h
      obtain ⟨h1, h2, h3⟩ := lowO_ok h
      exact ⟨h1, h2, fun _ => pop_one 12 c h1 h3⟩
  | false =>
    rw [if_neg (by decide)] at h
    obtain ⟨l1, l2, l3⟩ := hl rfl
    by_cases cs : gN s 2 t = 2 ∧ 2 ≤ gN s 4 t
    · rw [if_pos cs] at h
      by_cases c5 : gN s 3 P < 5
      · rw [if_pos c5] at h
        obtain ⟨h1, h2, h3⟩ := lowO_ok h
        exact ⟨h1, h2, fun hn => absurd cs hn⟩
      · rw [if_neg c5] at h
        unfold nxtA at h
        cases hn : nxt 12 a l with
        | none =>
          rw [hn] at h
          have h' : lowO a (pop 12 l + 1) = some c := h
          obtain ⟨h1, h2, h3⟩ := lowO_ok h'
          exact ⟨h1, h2, fun hn => absurd cs hn⟩
        | some r =>
          rw [hn] at h
          have h' : some r = some c := h
          cases h'
          obtain ⟨r1, r2, r3, r4, r5⟩ := (nxt_spec 12 a l (gd_sub.mpr l2)).2 c hn
          exact ⟨r1, gd_sub.mp r3, fun hn => absurd cs hn⟩
    · rw [if_neg cs] at h
      by_cases c5 : gN s 3 P < 5
      · rw [if_pos c5] at h; cases h
      · rw [if_neg c5] at h
        obtain ⟨h1, h2, h3⟩ := lowO_ok h
        refine ⟨h1, fun i hi hb => ?_, fun _ => pop_one 12 c h1 h3⟩
        have := h2 i hi hb
        rw [dif_bit (by omega)] at this
        cases ha : a.testBit i
        · rw [ha] at this; cases this
        · rfl
theorem Pc_lowO (σ : kS) {x k : Nat} (hx : x < 4096) (hk : k ≤ 4096) : M_Pc_lowest σ (nI x) (nI k) = some (oI (lowO x k), σ) := by
  rw [Pc_lowest σ hx hk]
  unfold lowO
  by_cases c : k ≤ pop 12 x
  · rw [if_pos c, if_pos c]; rfl
  · rw [if_neg c, if_neg c]; rfl
/-! the class -/
theorem C_isAny {s σ : kS} {T t : Nat} (hF : FI s T) (hS : SC s σ) (ht : t < T) (h1 : gN s 2 t = 1) : M_F_isAnyOrder σ (nI t) = some (if gN s 3 t < 5 then 0 else 1, σ) := by
  have hT := hF.1
  have hn := T_name hF ht
  unfold M_F_isAnyOrder
  rw [k_ld_n (by omega) (by omega), k_ld_n (by omega) (by omega), hS.2 2 (by decide), hS.2 3 (by decide), if_pos ((F_s1 hF ht).mpr h1), T_e3 hF ht]
  by_cases c : gN s 3 t < 5
  · rw [if_pos c, if_pos (show nI (gN s 3 t) < 5 from nI_lt (b := 5) c (by omega))]
  · rw [if_neg c, if_neg (show ¬ nI (gN s 3 t) < 5 from nI_nlt (b := 5) (by omega) (by omega))]
theorem C_isHole {s σ : kS} {T t : Nat} (hF : FI s T) (hS : SC s σ) (ht : t < T) : M_F_isHole σ (nI t) = some (if gN s 2 t = 2 then 1 else 0, σ) := by
  rw [F_isHole (FI_SC hF hS) ht, SC_gN hS (by decide)]
theorem C_isLeaf {s σ : kS} {T t : Nat} (hF : FI s T) (hS : SC s σ) (ht : t < T) : M_F_isLeaf σ (nI t) = some (if gN s 2 t = 0 then 1 else 0, σ) := by
  rw [F_isLeaf (FI_SC hF hS) ht, SC_gN hS (by decide)]
theorem C_isNode {s σ : kS} {T t : Nat} (hF : FI s T) (hS : SC s σ) (ht : t < T) : M_F_isNode σ (nI t) = some (if gN s 2 t = 1 then 1 else 0, σ) := by
  rw [F_isNode (FI_SC hF hS) ht, SC_gN hS (by decide)]
theorem C_isHoleK {s σ : kS} {T t k : Nat} (hF : FI s T) (hS : SC s σ) (ht : t < T) (hk : k < 2 ^ 31) : M_F_isHoleOfKind σ (nI t) (nI k) = some (if gN s 2 t = 2 ∧ gN s 4 t = k then 1 else 0, σ) := by
  rw [F_isHoleK (FI_SC hF hS) ht hk, SC_gN hS (by decide), SC_gN hS (by decide)]
theorem C_several {s σ : kS} {T t : Nat} (hF : FI s T) (hS : SC s σ) (ht : t < T) : M_F_takesSeveral σ (nI t) = some (if gN s 2 t = 2 ∧ 2 ≤ gN s 4 t then 1 else 0, σ) := by
  rw [F_several (FI_SC hF hS) ht, SC_gN hS (by decide), SC_gN hS (by decide)]
theorem C_likes {s σ : kS} {T t u : Nat} (hF : FI s T) (hS : SC s σ) (ht : t < T) (hu : u < T) : M_F_looksLike σ (nI t) (nI u) = some (if gN s 2 t = gN s 2 u ∧ gN s 3 t = gN s 3 u then 1 else 0, σ) := by
  rw [F_likes (FI_SC hF hS) ht hu, SC_gN hS (by decide), SC_gN hS (by decide), SC_gN hS (by decide), SC_gN hS (by decide)]
theorem C_partAt {s σ : kS} {T t k : Nat} (hF : FI s T) (hS : SC s σ) (ht : t < T) (hk : k < gN s 9 t) : M_F_partAt σ (nI t) (nI k) = some (nI (gN s 10 (12 * t + k)), σ) := by
  rw [F_partAt (FI_SC hF hS) ht (by rw [SC_gN hS (by decide)]; exact hk), SC_gN hS (by decide)]
theorem C_partCount {s σ : kS} {T t : Nat} (hF : FI s T) (hS : SC s σ) (ht : t < T) : M_F_partCount σ (nI t) = some (nI (gN s 9 t), σ) := by
  have := hF.1
  unfold M_F_partCount
  rw [k_ld_n (by omega) (by omega), hS.2 9 (by decide), T_e9 hF ht]
theorem C_nameOf {s σ : kS} {T t : Nat} (hF : FI s T) (hS : SC s σ) (ht : t < T) : M_F_nameOf σ (nI t) = some (nI (gN s 3 t), σ) := by
  have := hF.1
  unfold M_F_nameOf
  rw [k_ld_n (by omega) (by omega), hS.2 3 (by decide), T_e3 hF ht]
theorem Pl_tree {σ : kS} {j t : Nat} (hj : j < 70) (h : σ.2.1 18 j = nI t) : M_Pl_treeAt σ (nI j) = some (nI t, σ) := by
  unfold M_Pl_treeAt
  rw [k_ld_n hj (by omega), h]
theorem Pl_par {σ : kS} {j t : Nat} (hj : j < 70) (h : σ.2.1 19 j = nI t) : M_Pl_parentOf σ (nI j) = some (nI t, σ) := by
  unfold M_Pl_parentOf
  rw [k_ld_n hj (by omega), h]
theorem Se_first {s σ : kS} {T j b t P a l : Nat} (hF : FI s T) (hS : SC s σ) (hj : j < 70) (hb : b < 70) (ht : t < T) (e18 : σ.2.1 18 j = nI t) (e19 : σ.2.1 19 j = nI b) (e16 : σ.2.1 16 b = nI a) (ha : a < 4096) :
    M_Se_firstChoice σ (nI j) = some (oI (nextC s P t a true l), σ) := by
  unfold M_Se_firstChoice nextC
  rw [if_pos rfl, k_call_s (Pl_tree hj e18), k_call_s (show M_F_isHoleOfKind σ (nI t) 3 = _ from C_isHoleK (k := 3) hF hS ht (by omega))]
  by_cases c : gN s 2 t = 2 ∧ gN s 4 t = 3
  · rw [if_pos c, if_neg (by decide), if_pos c]
    unfold M_Se_firstChoice_24
    rw [k_call_s (Pl_par hj e19), k_ld_n hb (by omega), e16, k_call_s (show M_Pc_lowest σ (nI a) 0 = _ from Pc_lowO σ (k := 0) ha (by omega))]
    unfold lowO
    rw [if_pos (Nat.zero_le _), lowT_0]
  · rw [if_neg c, if_pos rfl, if_neg c]
    unfold M_Se_firstChoice_24
    rw [k_call_s (Pl_par hj e19), k_ld_n hb (by omega), e16, k_call_s (show M_Pc_lowest σ (nI a) 1 = _ from Pc_lowO σ (k := 1) ha (by omega))]
theorem Se_later {s σ : kS} {T j b t P a l : Nat} (hF : FI s T) (hS : SC s σ) (hj : j < 70) (hb : b < 70) (ht : t < T) (hP : P < T) (hPn : gN s 2 P = 1) (e18 : σ.2.1 18 j = nI t) (e18b : σ.2.1 18 b = nI P) (e19 : σ.2.1 19 j = nI b) (e16 : σ.2.1 16 b = nI a) (ha : a < 4096) (e14 : σ.2.1 14 j = nI l) (hl : LaOK s t a l) :
    M_Se_laterChoice σ (nI j) = some (oI (nextC s P t a false l), σ) := by
  obtain ⟨l1, l2, l3⟩ := hl
  have h12 := pop_le 12 l
  unfold M_Se_laterChoice nextC
  rw [if_neg (by decide), k_call_s (Pl_par hj e19), k_call_s (Pl_tree hb e18b), k_call_s (C_isAny hF hS hP hPn), k_call_s (Pl_tree hj e18), k_call_s (C_several hF hS ht)]
  by_cases cs : gN s 2 t = 2 ∧ 2 ≤ gN s 4 t
  · rw [if_pos cs, if_neg (by decide), if_pos cs]
    by_cases c5 : gN s 3 P < 5
    · rw [if_pos c5, if_pos rfl, if_pos c5, k_ld_n hb (by omega), k_ld_n hj (by omega), e14, e16, k_call_s (In_bits σ l1), nI_1, k_call_s (Pc_lowO σ ha (by omega))]
    · rw [if_neg c5, if_neg (by decide), if_neg c5, k_ld_n hb (by omega), k_ld_n hj (by omega), e14, e16, k_call_s (Pc_nextChoice σ ha l1 l2)]
  · rw [if_neg cs, if_pos rfl, if_neg cs]
    by_cases c5 : gN s 3 P < 5
    · rw [if_pos c5, if_pos rfl, if_pos c5]
      rfl
    · obtain ⟨p, hp, rfl⟩ := l3 cs
      rw [if_neg c5, if_neg (by decide), if_neg c5, k_ld_n hb (by omega), k_ld_n hj (by omega), e14, e16, k_call_s (Pc_behind σ ha hp), or_dec, dif_top ha hp]
      have : a / 2 ^ (p + 1) * 2 ^ (p + 1) ≤ a := Nat.div_mul_le_self _ _
      rw [k_call_s (show M_Pc_lowest σ (nI (a / 2 ^ (p + 1) * 2 ^ (p + 1))) 1 = _ from Pc_lowO σ (k := 1) (by omega) (by omega))]
/-! the model -/
theorem mv_all : ∀ c, c ≤ 12 → nI (mv 12 (2 ^ c - 1)) = nI (4096 - 2 ^ (12 - c)) := by decide +kernel
theorem mv_step : ∀ c, c < 12 → mv 12 (2 ^ c - 1) ||| 2 ^ (11 - c) = mv 12 (2 ^ (c + 1) - 1) := by decide +kernel
theorem all_lt {c : Nat} (h : c ≤ 12) : 2 ^ c - 1 < 4096 := by
  have : 2 ^ c ≤ 2 ^ 12 := Nat.pow_le_pow_right (by omega) h
  omega
theorem Md_anyO (σ : kS) {n : Nat} (h : n < 100) : M_Md_anyOrder σ (nI n) = some (if n < 5 then 0 else 1, σ) := by
  unfold M_Md_anyOrder
  by_cases c : n < 5
  · rw [if_pos c, if_pos (show nI n ≤ 4 from nI_le (b := 4) (by omega) (by omega))]
  · rw [if_neg c, if_neg (show ¬ nI n ≤ 4 from nI_ge (a := 4) (by omega) (by omega))]
/-- a goal of the model: its number g, the node P, the tree B beside it, the part k, the places u, what follows -/
def Goal (σ : kS) (g P B k u : Nat) (v : Int32) : Prop := σ.2.1 45 g = nI P ∧ σ.2.1 46 g = nI B ∧ σ.2.1 47 g = nI k ∧ σ.2.1 48 g = nI (mv 12 u) ∧ σ.2.1 49 g = v
theorem Md_left4 {s σ : kS} {T g P B k u : Nat} {v : Int32} (hF : FI s T) (hM : SMd s σ) (hg : g < 1000) (hB : B < T) (hG : Goal σ g P B k u v) : ∀ n i f, i + n = gN s 9 B → M_Md_leftOf_4 (f + n + 1) σ (nI g) (nI (mv 12 (2 ^ i - 1))) (nI i) = some (nI (mv 12 (dif (2 ^ (gN s 9 B) - 1) u)), σ) := by
  have hT := hF.1
  have hc := T_cnt hF hB
  intro n
  induction n with
  | zero =>
    intro i f hi
    show M_Md_leftOf_4_b (M_Md_leftOf_4 (f + 0)) σ _ _ _ = _
    unfold M_Md_leftOf_4_b
    rw [k_ld_n hg (by omega), hG.2.1, k_ld_n (by omega) (by omega), hM.1.2.2.2.1, T_e9 hF hB, if_pos (nI_le (by omega) (by omega)), k_ld_n hg (by omega), hG.2.2.2.1, nI_dif, mv_dif (by omega)]
    rw [show i = gN s 9 B by omega]
  | succ n ih =>
    intro i f hi
    show M_Md_leftOf_4_b (M_Md_leftOf_4 (f + (n + 1))) σ _ _ _ = _
    unfold M_Md_leftOf_4_b
    rw [k_ld_n hg (by omega), hG.2.1, k_ld_n (by omega) (by omega), hM.1.2.2.2.1, T_e9 hF hB, if_neg (nI_ge (by omega) (by omega)), k_call_s (Md_bit σ (by omega)), k_let_r, k_let_r, nI_or, mv_step i (by omega), nI_1]
    exact ih (i + 1) f (by omega)
theorem Md_left {s σ : kS} {T g P B k u : Nat} {v : Int32} (hF : FI s T) (hM : SMd s σ) (hg : g < 1000) (hB : B < T) (hG : Goal σ g P B k u v) : M_Md_leftOf σ (nI g) = some (nI (mv 12 (dif (2 ^ (gN s 9 B) - 1) u)), σ) := by
  have hc := T_cnt hF hB
  have := Md_left4 hF hM hg hB hG (gN s 9 B) 0 (k_fu - gN s 9 B - 1) (by omega)
  rw [show k_fu - gN s 9 B - 1 + gN s 9 B + 1 = k_fu by unfold k_fu; omega] at this
  exact this
theorem pop_0 : ∀ n, pop n 0 = 0 := by
  intro n
  induction n with
  | zero => rfl
  | succ n ih => show 0 + pop n (0 / 2) = 0; rw [show 0 / 2 = 0 from rfl, ih]
theorem nI_neg1 : (-1 : Int32) < 0 := by decide
theorem Md_next {s σ : kS} {T g P B k u t a l : Nat} {v : Int32} {fr : Bool} (hF : FI s T) (hM : SMd s σ) (hg : g < 1000) (hB : B < T) (hP : P < T) (hk : k < gN s 9 P) (hG : Goal σ g P B k u v) (et : gN s 10 (12 * P + k) = t) (ea : dif (2 ^ (gN s 9 B) - 1) u = a) (hl : fr = false → LaOK s t a l) :
    M_Md_takenNext σ (nI g) (if fr = true then -1 else nI (mv 12 l)) = some (oM (nextC s P t a fr l), σ) := by
  have hT := hF.1
  have hc := T_cnt hF hP
  have hcB := T_cnt hF hB
  obtain ⟨p1, p2, p3⟩ := T_part hF hP hk
  have hn := T_name hF hP
  rw [et] at p1 p2 p3
  have hk3 := T_kind hF p2
  have ha : a < 4096 := by
    have h1 := dif_le (2 ^ (gN s 9 B) - 1) u
    have h2 := all_lt hcB
    omega
  have h12 := pop_le 12 l
  have hml := mv12_lt l
  unfold M_Md_takenNext nextC
  rw [k_ld_n hg (by omega), k_ld_n hg (by omega), hG.1, hG.2.2.1, k_12i, k_ld_n (by omega) (by omega), hM.1.2.2.2.2, p1, k_call_s (Md_left hF hM hg hB hG), ea, k_ld_n hg (by omega), hG.1, k_ld_n (by omega) (by omega), hM.1.2.1, T_e3 hF hP, k_call_s (Md_anyO σ hn), k_call_s (Md_severals hF hM.1 p2)]
  cases fr with
  | true =>
    rw [if_pos rfl, if_pos rfl]
    by_cases cs : gN s 2 t = 2 ∧ 2 ≤ gN s 4 t
    · rw [if_pos cs, if_neg (by decide), if_neg (by decide), k_ld_n (by omega) (by omega), hM.1.2.2.1]
      by_cases c3 : gN s 4 t = 3
      · rw [if_pos ((F_k3 hF p2).mpr c3), if_pos ⟨cs.1, c3⟩]
        show some (0, σ) = some (nI (mv 12 0), σ)
        rw [mv_0]
        rfl
      · rw [if_neg (fun e => c3 ((F_k3 hF p2).mp e)), if_neg (c := gN s 2 t = 2 ∧ gN s 4 t = 3) (fun e => c3 e.2)]
        unfold M_Md_takenNext_134
        rw [if_neg (by decide)]
        unfold M_Md_takenNext_146
        have lw := Md_lowO σ (a := a) (k := 1) (by omega)
        by_cases c5 : gN s 3 P < 5
        · rw [if_pos c5, if_pos rfl, if_neg (by decide)]
          unfold M_Md_takenNext_165
          exact lw
        · rw [if_neg c5, if_neg (by decide), if_neg (by decide)]
          exact lw
    · rw [if_neg cs, if_pos rfl, if_neg (c := gN s 2 t = 2 ∧ gN s 4 t = 3) (fun e => cs ⟨e.1, by omega⟩)]
      have := Md_next56 σ (nI g) (-1) (nI t) (if gN s 3 P < 5 then 0 else 1) (a := a) (thr := 0) (Or.inl ⟨nI_neg1, rfl⟩) 12 0 (k_fu - 13) (by omega)
      rw [show k_fu - 13 + 12 + 1 = k_fu by unfold k_fu; omega] at this
      refine this.trans ?_
      rw [show max 0 0 = 0 from rfl, Nat.pow_zero, Nat.div_one, Nat.mul_one]
      unfold lowO
      by_cases c1 : 1 ≤ pop 12 a
      · rw [if_pos c1, if_pos c1]; rfl
      · rw [if_neg c1, if_neg c1]; rfl
  | false =>
    obtain ⟨l1, l2, l3⟩ := hl rfl
    have h0 : (0 : Int32) ≤ nI (mv 12 l) := nI_le (a := 0) (by omega) (by omega)
    rw [if_neg (c := false = true) (by decide), if_neg (c := false = true) (by decide)]
    by_cases cs : gN s 2 t = 2 ∧ 2 ≤ gN s 4 t
    · rw [if_pos cs, if_neg (by decide), if_pos h0, if_pos cs]
      unfold M_Md_takenNext_134
      rw [if_pos h0, k_call_s (Md_bits σ hml), pop_mv]
      unfold M_Md_takenNext_146
      by_cases c5 : gN s 3 P < 5
      · rw [if_pos c5, if_pos rfl, if_pos h0, if_pos c5]
        unfold M_Md_takenNext_165
        rw [nI_1]
        exact Md_lowO σ (a := a) (k := pop 12 l + 1) (by omega)
      · rw [if_neg c5, if_neg (by decide), if_pos h0, if_neg c5, k_let_r]
        exact Md_nextA σ _ _ _ _ l1 (gd_sub.mpr l2)
    · rw [if_neg cs, if_pos rfl, if_neg cs]
      obtain ⟨p, hp, rfl⟩ := l3 cs
      rw [mv_pow hp]
      by_cases c5 : gN s 3 P < 5
      · rw [if_pos c5, if_pos c5]
        have := Md_next56 σ (nI g) (nI (2 ^ (11 - p))) (nI t) 0 (a := a) (thr := 12) (Or.inr ⟨p, hp, rfl, Or.inr ⟨rfl, rfl⟩⟩) 12 0 (k_fu - 13) (by omega)
        rw [show k_fu - 13 + 12 + 1 = k_fu by unfold k_fu; omega] at this
        refine this.trans ?_
        rw [show max 12 0 = 12 from rfl, show a / 2 ^ 12 = 0 from Nat.div_eq_of_lt ha, Nat.zero_mul, pop_0, if_neg (by omega)]
        rfl
      · rw [if_neg c5, if_neg c5]
        have := Md_next56 σ (nI g) (nI (2 ^ (11 - p))) (nI t) 1 (a := a) (thr := p + 1) (Or.inr ⟨p, hp, rfl, Or.inl ⟨by decide, rfl⟩⟩) 12 0 (k_fu - 13) (by omega)
        rw [show k_fu - 13 + 12 + 1 = k_fu by unfold k_fu; omega] at this
        refine this.trans ?_
        rw [show max (p + 1) 0 = p + 1 from Nat.max_eq_left (by omega), or_dec, dif_top ha hp]
        unfold lowO
        by_cases c1 : 1 ≤ pop 12 (a / 2 ^ (p + 1) * 2 ^ (p + 1))
        · rw [if_pos c1, if_pos c1]; rfl
        · rw [if_neg c1, if_neg c1]; rfl
