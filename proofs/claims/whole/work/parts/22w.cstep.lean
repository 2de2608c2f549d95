/-! the class's search, one step: a slot gives back what it took, and takes the next -/
theorem dif_hi {a b k : Nat} (ha : a < 4096) (hk : 12 ≤ k) : (dif a b).testBit k = false := by
  refine Nat.testBit_lt_two_pow (Nat.lt_of_le_of_lt (dif_le a b) (Nat.lt_of_lt_of_le ha ?_))
  exact Nat.le_trans (show 4096 ≤ 2 ^ 12 by decide) (Nat.pow_le_pow_right (by omega) hk)
theorem dif_dif {a u c : Nat} (ha : a < 4096) : dif (dif a u) c = dif a (u ||| c) := by
  refine Nat.eq_of_testBit_eq (fun k => ?_)
  by_cases hk : k < 12
  · rw [dif_bit (by omega), dif_bit (by omega), dif_bit (by omega), Nat.testBit_or]
    cases a.testBit k <;> cases u.testBit k <;> cases c.testBit k <;> rfl
  · rw [dif_hi (Nat.lt_of_le_of_lt (dif_le a u) ha) (by omega), dif_hi ha (by omega)]
theorem dif_back {a u t : Nat} (ha : a < 4096) (ht : t < 4096) (h : ∀ k, k < 12 → t.testBit k = true → (dif a u).testBit k = true) : dif a (u ||| t) ||| t = dif a u := by
  refine Nat.eq_of_testBit_eq (fun k => ?_)
  by_cases hk : k < 12
  · have h1 := h k hk
    rw [dif_bit (by omega)] at h1
    rw [Nat.testBit_or, dif_bit (by omega), dif_bit (by omega), Nat.testBit_or]
    cases ht' : t.testBit k
    · cases a.testBit k <;> cases u.testBit k <;> rfl
    · have := h1 ht'
      rw [this]
      cases a.testBit k <;> cases u.testBit k <;> rfl
  · rw [Nat.testBit_or, dif_hi ha (by omega), dif_hi ha (by omega)]
    rw [Nat.testBit_lt_two_pow (Nat.lt_of_lt_of_le ht (Nat.le_trans (show 4096 ≤ 2 ^ 12 by decide) (Nat.pow_le_pow_right (by omega) (by omega))))]
    rfl
theorem dif_z (a : Nat) (ha : a < 4096) : dif a 0 = a := by
  refine Nat.eq_of_testBit_eq (fun k => ?_)
  by_cases hk : k < 12
  · rw [dif_bit (by omega), Nat.zero_testBit]
    cases a.testBit k <;> rfl
  · rw [dif_hi ha (by omega)]
    rw [Nat.testBit_lt_two_pow (Nat.lt_of_lt_of_le ha (Nat.le_trans (show 4096 ≤ 2 ^ 12 by decide) (Nat.pow_le_pow_right (by omega) (by omega))))]
theorem k_ft {P : Prop} (h : false = true) : P := by cases h
/-- G with x for i in row k -/
def gU (G : Nat → Nat → Nat) (k i x : Nat) : Nat → Nat → Nat := fun k' i' => if k' = k ∧ i' = i then x else G k' i'
theorem gU_s {G : Nat → Nat → Nat} {k i x : Nat} : gU G k i x k i = x := if_pos ⟨rfl, rfl⟩
theorem gU_k {G : Nat → Nat → Nat} {k i x k' i' : Nat} (h : k' ≠ k) : gU G k i x k' i' = G k' i' := if_neg (fun e => h e.1)
theorem gU_i {G : Nat → Nat → Nat} {k i x k' i' : Nat} (h : i' ≠ i) : gU G k i x k' i' = G k' i' := if_neg (fun e => h e.2)
/-! what was done up to slot j: G 0 the places used before a slot, G 1 those it took, G 2 the tree beside it, G 3 and G 4 the names, G 5 who gave a name its row (slot and one) -/
def alS (s : kS) (G : Nat → Nat → Nat) (b : Nat) : Nat := 2 ^ (gN s 9 (G 2 b)) - 1
def avS (s : kS) (W G : Nat → Nat → Nat) (i : Nat) : Nat := dif (alS s G (W 1 i)) (G 0 i)
def SI (s : kS) (T n : Nat) (W : Nat → Nat → Nat) (j : Nat) (fr : Bool) (G : Nat → Nat → Nat) : Prop :=
  j < n ∧ (∀ i, i < j → gN s 2 (W 0 i) ≠ 2 → G 2 i < T) ∧
  (∀ i, 0 < i → i ≤ j → (i = j → fr = false) → LaOK s (W 0 i) (avS s W G i) (G 1 i)) ∧ (fr = true → G 1 j = 0) ∧
  (∀ i, 0 < i → i ≤ j → W 2 i = 0 → G 0 i = 0) ∧
  (∀ i, 0 < i → enS s W i ≤ j → W 2 i + 1 < cnS s W (W 1 i) → G 0 (enS s W i) = G 0 i ||| G 1 i) ∧
  (∀ h, h < 8 → (G 3 h = 0 ↔ G 5 h = 0) ∧ G 5 h ≤ j + 1 ∧ (G 5 h ≠ 0 → gN s 2 (W 0 (G 5 h - 1)) = 2 ∧ gN s 3 (W 0 (G 5 h - 1)) = h) ∧ (∀ k, k + 1 < G 3 h → G 4 (12 * h + k) < T) ∧ G 3 h ≤ 13) ∧
  (fr = true → ∀ h, h < 8 → G 5 h ≠ j + 1)
/-- the same without what slot j gave -/
def relG (s : kS) (W : Nat → Nat → Nat) (j : Nat) (G : Nat → Nat → Nat) : Nat → Nat → Nat := if gN s 2 (W 0 j) = 2 ∧ G 5 (gN s 3 (W 0 j)) = j + 1 then gU (gU G 3 (gN s 3 (W 0 j)) 0) 5 (gN s 3 (W 0 j)) 0 else G
theorem relG_k {s : kS} {W G : Nat → Nat → Nat} {j k i : Nat} (h3 : k ≠ 3) (h5 : k ≠ 5) : relG s W j G k i = G k i := by
  unfold relG
  split
  · rw [gU_k h5, gU_k h3]
  · rfl
theorem relG_av {s : kS} {W G : Nat → Nat → Nat} {j : Nat} (i : Nat) : avS s W (relG s W j G) i = avS s W G i := by
  unfold avS alS
  rw [relG_k (by decide) (by decide), relG_k (by decide) (by decide)]
theorem relG_3 {s : kS} {W G : Nat → Nat → Nat} {j h : Nat} : relG s W j G 3 h = if gN s 2 (W 0 j) = 2 ∧ G 5 (gN s 3 (W 0 j)) = j + 1 ∧ h = gN s 3 (W 0 j) then 0 else G 3 h := by
  unfold relG
  by_cases c : gN s 2 (W 0 j) = 2 ∧ G 5 (gN s 3 (W 0 j)) = j + 1
  · rw [if_pos c, gU_k (by decide)]
    by_cases d : h = gN s 3 (W 0 j)
    · rw [if_pos ⟨c.1, c.2, d⟩, d, gU_s]
    · rw [if_neg (fun x => d x.2.2), gU_i d]
  · rw [if_neg c, if_neg (fun x => c ⟨x.1, x.2.1⟩)]
theorem relG_5 {s : kS} {W G : Nat → Nat → Nat} {j h : Nat} : relG s W j G 5 h = if gN s 2 (W 0 j) = 2 ∧ G 5 (gN s 3 (W 0 j)) = j + 1 ∧ h = gN s 3 (W 0 j) then 0 else G 5 h := by
  unfold relG
  by_cases c : gN s 2 (W 0 j) = 2 ∧ G 5 (gN s 3 (W 0 j)) = j + 1
  · rw [if_pos c]
    by_cases d : h = gN s 3 (W 0 j)
    · rw [if_pos ⟨c.1, c.2, d⟩, d, gU_s]
    · rw [if_neg (fun x => d x.2.2), gU_i d, gU_k (by decide)]
  · rw [if_neg c, if_neg (fun x => c ⟨x.1, x.2.1⟩)]
theorem rel_names {s : kS} {T n j : Nat} {W G : Nat → Nat → Nat} {fr : Bool} (h : SI s T n W j fr G) : ∀ h, h < 8 → (relG s W j G 3 h = 0 ↔ relG s W j G 5 h = 0) ∧ relG s W j G 5 h ≤ j ∧ (relG s W j G 5 h ≠ 0 → gN s 2 (W 0 (relG s W j G 5 h - 1)) = 2 ∧ gN s 3 (W 0 (relG s W j G 5 h - 1)) = h) ∧ (∀ k, k + 1 < relG s W j G 3 h → relG s W j G 4 (12 * h + k) < T) ∧ relG s W j G 3 h ≤ 13 := by
  intro q hq
  obtain ⟨n1, n2, n3, n4, n5⟩ := h.2.2.2.2.2.2.1 q hq
  rw [relG_3, relG_5]
  by_cases c : gN s 2 (W 0 j) = 2 ∧ G 5 (gN s 3 (W 0 j)) = j + 1 ∧ q = gN s 3 (W 0 j)
  · rw [if_pos c, if_pos c]
    exact ⟨⟨fun _ => rfl, fun _ => rfl⟩, Nat.zero_le _, fun x => absurd rfl x, fun k hk => by omega, by omega⟩
  · rw [if_neg c, if_neg c]
    refine ⟨n1, ?_, n3, fun k hk => ?_, n5⟩
    · by_cases e : G 5 q = j + 1
      · obtain ⟨m1, m2⟩ := n3 (by omega)
        rw [e, Nat.add_sub_cancel] at m1 m2
        exact absurd ⟨m1, by rw [m2]; exact e, m2.symm⟩ c
      · omega
    · rw [relG_k (by decide) (by decide)]
      exact n4 k hk
theorem P_tr {s : kS} {T n : Nat} {W : Nat → Nat → Nat} (hP : Plan s T n W) {i : Nat} (hi : i < n) : W 0 i < T := by
  by_cases e : i = 0
  · rw [e]; exact hP.2.1
  · exact (hP.2.2.2.2 i (by omega) hi).1.2.2.1
theorem P_en {s : kS} {T n : Nat} {W : Nat → Nat → Nat} (hF : FI s T) (hP : Plan s T n W) {i : Nat} (hi : i < n) : i < enS s W i ∧ enS s W i ≤ n := by
  have := T_size hF (P_tr hP hi)
  by_cases e : i = 0
  · have h2 := hP.2.2.1
    rw [e]
    rw [e] at hi
    omega
  · have h2 := (hP.2.2.2.2 i (by omega) hi).2.1.1
    unfold enS at h2 ⊢
    omega
/-- the parent of a slot is a node, with parts -/
theorem W_node {s : kS} {T n : Nat} {W : Nat → Nat → Nat} (hF : FI s T) (hP : Plan s T n W) {i : Nat} (h0 : 0 < i) (hi : i < n) : gN s 2 (W 0 (W 1 i)) = 1 := by
  obtain ⟨⟨b1, b2, b3, b4, b5⟩, _⟩ := hP.2.2.2.2 i h0 hi
  have hT := P_tr hP (show W 1 i < n by omega)
  by_cases e : gN s 2 (W 0 (W 1 i)) = 1
  · exact e
  · have := T_node hF hT e
    unfold cnS at b4
    omega
theorem P_sib {s : kS} {T n i j : Nat} {W : Nat → Nat → Nat} (hF : FI s T) (hP : Plan s T n W) (h0 : 0 < i) (hij : i < j) (hj : j < n) (h : W 1 i = W 1 j) : enS s W i ≤ j ∧ W 2 i + 1 < cnS s W (W 1 i) := by
  obtain ⟨⟨b1, b2, b3, b4, b5⟩, ⟨g1, g2, g3⟩, nx, q, _⟩ := hP.2.2.2.2 i h0 (by omega)
  obtain ⟨⟨c1, c2, c3, c4, c5⟩, ⟨d1, d2, d3⟩, _⟩ := hP.2.2.2.2 j (by omega) hj
  have ej := (P_en hF hP hj).1
  have key : enS s W i ≤ j := by
    rcases (show enS s W i ≤ j ∨ j < enS s W i by omega) with x | x
    · exact x
    · have := q j hij x
      omega
  refine ⟨key, ?_⟩
  rcases (show W 2 i + 1 < cnS s W (W 1 i) ∨ W 2 i + 1 = cnS s W (W 1 i) by omega) with x | x
  · exact x
  · have := g3 x
    rw [h] at this
    omega
theorem SI_av {s : kS} {T n j : Nat} {W G : Nat → Nat → Nat} {fr : Bool} (hF : FI s T) (hP : Plan s T n W) (h : SI s T n W j fr G) {i : Nat} (h0 : 0 < i) (hi : i ≤ j) : G 2 (W 1 i) < T ∧ alS s G (W 1 i) < 4096 ∧ avS s W G i < 4096 := by
  have hj := h.1
  obtain ⟨⟨b1, b2, b3, b4, b5⟩, _⟩ := hP.2.2.2.2 i h0 (by omega)
  have e1 := h.2.1 (W 1 i) (by omega) (by rw [W_node hF hP h0 (by omega)]; omega)
  have e2 := all_lt (T_cnt hF e1)
  exact ⟨e1, e2, Nat.lt_of_le_of_lt (dif_le _ _) e2⟩
/-- one slot back -/
theorem SI_pop {s : kS} {T n j : Nat} {W G : Nat → Nat → Nat} {fr : Bool} (h : SI s T n W (j + 1) fr G) : SI s T n W j false (relG s W (j + 1) G) := by
  obtain ⟨h1, h2, h3, h4, h5, h6, h7, h8⟩ := h
  have hn := rel_names (s := s) (T := T) (n := n) (W := W) (fr := fr) ⟨h1, h2, h3, h4, h5, h6, h7, h8⟩
  refine ⟨by omega, fun i hi hs => ?_, fun i i0 hi _ => ?_, k_ft, fun i i0 hi hw => ?_, fun i i0 hi hw => ?_, hn, k_ft⟩
  · rw [relG_k (by decide) (by decide)]; exact h2 i (by omega) hs
  · rw [relG_av, relG_k (by decide) (by decide)]; exact h3 i i0 (by omega) (fun e => by omega)
  · rw [relG_k (by decide) (by decide)]; exact h5 i i0 (by omega) hw
  · rw [relG_k (by decide) (by decide), relG_k (by decide) (by decide), relG_k (by decide) (by decide)]; exact h6 i i0 (by omega) hw
/-- slot j takes c -/
theorem SI_take {s : kS} {T n j c : Nat} {W G : Nat → Nat → Nat} {fr : Bool} (hF : FI s T) (hP : Plan s T n W) (h : SI s T n W j fr G) (hc : LaOK s (W 0 j) (avS s W G j) c) : SI s T n W j false (gU (relG s W j G) 1 j c) := by
  have hn := rel_names h
  obtain ⟨h1, h2, h3, h4, h5, h6, h7, h8⟩ := h
  have ek : ∀ k i, k ≠ 1 → k ≠ 3 → k ≠ 5 → gU (relG s W j G) 1 j c k i = G k i := fun k i a1 a3 a5 => by rw [gU_k a1, relG_k a3 a5]
  have ei : ∀ i, i ≠ j → gU (relG s W j G) 1 j c 1 i = G 1 i := fun i hi => by rw [gU_i hi, relG_k (by decide) (by decide)]
  have ea : ∀ i, avS s W (gU (relG s W j G) 1 j c) i = avS s W G i := fun i => by unfold avS alS; rw [ek _ _ (by decide) (by decide) (by decide), ek _ _ (by decide) (by decide) (by decide)]
  refine ⟨h1, fun i hi hs => ?_, fun i i0 hi _ => ?_, k_ft, fun i i0 hi hw => ?_, fun i i0 hi hw => ?_, fun q hq => ?_, k_ft⟩
  · rw [ek _ _ (by decide) (by decide) (by decide)]; exact h2 i hi hs
  · rw [ea]
    by_cases e : i = j
    · rw [e, gU_s]; exact hc
    · rw [ei i e]; exact h3 i i0 hi (fun x => absurd x e)
  · rw [ek _ _ (by decide) (by decide) (by decide)]; exact h5 i i0 hi hw
  · have := (P_en hF hP (show i < n by
      unfold enS at hi; omega)).1
    rw [ek _ _ (by decide) (by decide) (by decide), ek _ _ (by decide) (by decide) (by decide), ei i (by omega)]; exact h6 i i0 hi hw
  · rw [gU_k (by decide), gU_k (by decide)]
    obtain ⟨n1, n2, n3, n4, n5⟩ := hn q hq
    refine ⟨n1, by omega, n3, fun k hk => ?_, n5⟩
    rw [gU_k (by decide)]
    exact n4 k hk
/-- the class's state at slot j -/
def RC (s : kS) (T n : Nat) (W : Nat → Nat → Nat) (j : Nat) (fr : Bool) (G : Nat → Nat → Nat) (σ : kS) : Prop :=
  (SC s σ ∧ σ.1 8 = nI n ∧ σ.2.1 18 0 = nI (W 0 0) ∧ Lay s W σ 1 n) ∧
  ((∀ i, 0 < i → i ≤ j → (i = j → fr = false) → σ.2.1 14 i = nI (G 1 i)) ∧ (fr = true → σ.2.1 14 j = -1) ∧ (fr = true → j = 0 ∨ σ.2.1 14 0 = 1) ∧ (fr = false → σ.2.1 14 0 = 1)) ∧
  (∀ i, i < j → gN s 2 (W 0 i) ≠ 2 → σ.2.1 15 i = nI (G 2 i)) ∧
  (∀ i, 0 < i → i ≤ j → (W 2 i + 1 = cnS s W (W 1 i) ∨ j < enS s W i) → σ.2.1 16 (W 1 i) = nI (dif (alS s G (W 1 i)) (G 0 i ||| G 1 i))) ∧
  NmC σ T (G 3) (G 4) ∧ (∀ h, h < 8 → σ.2.1 23 h = nmI (G 5 h))
/-- rows that the search's steps may change, and the length of the row -/
def FrC (σ σ' : kS) : Prop := (∀ k, k ≠ 3 → σ'.1 k = σ.1 k) ∧ (∀ k, k ≠ 14 → k ≠ 15 → k ≠ 16 → k ≠ 17 → k ≠ 21 → k ≠ 22 → k ≠ 23 → σ'.2.1 k = σ.2.1 k) ∧ σ'.2.2 = σ.2.2
theorem FrC_rfl (σ : kS) : FrC σ σ := ⟨fun _ _ => rfl, fun _ _ _ _ _ _ _ _ => rfl, rfl⟩
theorem FrC_tr {a b c : kS} (h : FrC a b) (g : FrC b c) : FrC a c := ⟨fun k x => (g.1 k x).trans (h.1 k x), fun k x1 x2 x3 x4 x5 x6 x7 => (g.2.1 k x1 x2 x3 x4 x5 x6 x7).trans (h.2.1 k x1 x2 x3 x4 x5 x6 x7), g.2.2.trans h.2.2⟩
theorem FrC_sA {σ : kS} {j : Nat} (hj : j = 14 ∨ j = 15 ∨ j = 16 ∨ j = 17 ∨ j = 21 ∨ j = 22 ∨ j = 23) (f : Nat → Int32) : FrC σ (k_sA σ j f) := ⟨fun _ _ => rfl, fun k x1 x2 x3 x4 x5 x6 x7 => k_sA2 (by omega), rfl⟩
theorem SC_fr {s σ σ' : kS} (h : SC s σ) (g : FrC σ σ') : SC s σ' := ⟨(g.1 2 (by decide)).trans h.1, fun k hk => (g.2.1 k (by omega) (by omega) (by omega) (by omega) (by omega) (by omega) (by omega)).trans (h.2 k hk)⟩
theorem RC_fr {s : kS} {n : Nat} {W : Nat → Nat → Nat} {σ σ' : kS} (h : SC s σ ∧ σ.1 8 = nI n ∧ σ.2.1 18 0 = nI (W 0 0) ∧ Lay s W σ 1 n) (g : FrC σ σ') : SC s σ' ∧ σ'.1 8 = nI n ∧ σ'.2.1 18 0 = nI (W 0 0) ∧ Lay s W σ' 1 n := by
  have e : ∀ k, k = 18 ∨ k = 19 ∨ k = 20 → σ'.2.1 k = σ.2.1 k := fun k hk => g.2.1 k (by omega) (by omega) (by omega) (by omega) (by omega) (by omega) (by omega)
  refine ⟨SC_fr h.1 g, (g.1 8 (by decide)).trans h.2.1, by rw [e 18 (by decide)]; exact h.2.2.1, fun i i1 i2 => ?_⟩
  rw [e 18 (by decide), e 19 (by decide), e 20 (by decide)]
  exact h.2.2.2 i i1 i2
