/-! one try: what it does to G -/
def gvG (G : Nat → Nat → Nat) (h m j : Nat) (R : Nat → Nat) : Nat → Nat → Nat := fun k i => if k = 3 ∧ i = h then m + 1 else if k = 5 ∧ i = h then j + 1 else if k = 4 ∧ 12 * h ≤ i ∧ i < 12 * h + m then R (i - 12 * h) else G k i
theorem gvG_k {G : Nat → Nat → Nat} {h m j k i : Nat} {R : Nat → Nat} (h3 : k ≠ 3) (h4 : k ≠ 4) (h5 : k ≠ 5) : gvG G h m j R k i = G k i := by
  unfold gvG
  rw [if_neg (fun x => h3 x.1), if_neg (fun x => h5 x.1), if_neg (fun x => h4 x.1)]
theorem gvG_3 {G : Nat → Nat → Nat} {h m j i : Nat} {R : Nat → Nat} : gvG G h m j R 3 i = if i = h then m + 1 else G 3 i := by
  unfold gvG
  by_cases e : i = h
  · rw [if_pos ⟨rfl, e⟩, if_pos e]
  · rw [if_neg (fun x => e x.2), if_neg e, if_neg (fun x => absurd x.1 (by decide)), if_neg (fun x => absurd x.1 (by decide))]
theorem gvG_5 {G : Nat → Nat → Nat} {h m j i : Nat} {R : Nat → Nat} : gvG G h m j R 5 i = if i = h then j + 1 else G 5 i := by
  unfold gvG
  by_cases e : i = h
  · rw [if_neg (fun x => absurd x.1 (by decide)), if_pos ⟨rfl, e⟩, if_pos e]
  · rw [if_neg (fun x => absurd x.1 (by decide)), if_neg (fun x => e x.2), if_neg e, if_neg (fun x => absurd x.1 (by decide))]
theorem gvG_4 {G : Nat → Nat → Nat} {h m j i : Nat} {R : Nat → Nat} : gvG G h m j R 4 i = if 12 * h ≤ i ∧ i < 12 * h + m then R (i - 12 * h) else G 4 i := by
  unfold gvG
  rw [if_neg (fun x => absurd x.1 (by decide)), if_neg (fun x => absurd x.1 (by decide))]
  by_cases e : 12 * h ≤ i ∧ i < 12 * h + m
  · rw [if_pos ⟨rfl, e⟩, if_pos e]
  · rw [if_neg (fun x => e x.2), if_neg e]
/-- does the row R of m trees fit slot j -/
def fitV (s : kS) (W G : Nat → Nat → Nat) (j : Nat) (R : Nat → Nat) (m : Nat) : Nat :=
  if gN s 2 (W 0 j) = 2 then holeV s (W 0 j) (G 3) (G 4) R m else if gN s 2 (W 0 j) = gN s 2 (R 0) ∧ gN s 3 (W 0 j) = gN s 3 (R 0) then 1 else 0
def fitG (s : kS) (W G : Nat → Nat → Nat) (j : Nat) (R : Nat → Nat) (m : Nat) : Nat → Nat → Nat :=
  if gN s 2 (W 0 j) = 2 then (if holeV s (W 0 j) (G 3) (G 4) R m = 2 then gvG G (gN s 3 (W 0 j)) m j R else G) else gU G 2 j (R 0)
theorem holeV_2 {s : kS} {t m : Nat} {N V R : Nat → Nat} (h : holeV s t N V R m = 2) : N (gN s 3 t) = 0 := by
  unfold holeV at h
  split at h
  · omega
  · split at h
    · omega
    · split at h
      · assumption
      · split at h
        · split at h <;> omega
        · omega
theorem SI_give {s : kS} {T n j m : Nat} {W G : Nat → Nat → Nat} {R : Nat → Nat} (hF : FI s T) (hP : Plan s T n W) (hI : SI s T n W j false G) (h2 : gN s 2 (W 0 j) = 2) (h0 : G 3 (gN s 3 (W 0 j)) = 0) (hm : m ≤ 12) (hR : ∀ k, k < m → R k < T) : SI s T n W j false (gvG G (gN s 3 (W 0 j)) m j R) := by
  have ea : ∀ i, avS s W (gvG G (gN s 3 (W 0 j)) m j R) i = avS s W G i := fun i => by unfold avS alS; rw [gvG_k (by decide) (by decide) (by decide), gvG_k (by decide) (by decide) (by decide)]
  have h8 := T_name8 hF (P_tr hP hI.1) h2
  obtain ⟨i1, i2, i3, i4, i5, i6, i7, i8⟩ := hI
  refine ⟨i1, fun i hi hs => ?_, fun i i0 hi hx => ?_, k_ft, fun i i0 hi hx => ?_, fun i i0 hi hx => ?_, fun h hh => ?_, k_ft⟩
  · rw [gvG_k (by decide) (by decide) (by decide)]; exact i2 i hi hs
  · rw [ea, gvG_k (by decide) (by decide) (by decide)]; exact i3 i i0 hi hx
  · rw [gvG_k (by decide) (by decide) (by decide)]; exact i5 i i0 hi hx
  · rw [gvG_k (by decide) (by decide) (by decide), gvG_k (by decide) (by decide) (by decide), gvG_k (by decide) (by decide) (by decide)]; exact i6 i i0 hi hx
  · obtain ⟨n1, n2, n3, n4, n5⟩ := i7 h hh
    rw [gvG_3, gvG_5]
    by_cases e : h = gN s 3 (W 0 j)
    · rw [if_pos e, if_pos e]
      refine ⟨⟨fun x => by omega, fun x => by omega⟩, Nat.le_refl _, fun _ => ?_, fun k hk => ?_, by omega⟩
      · rw [Nat.add_sub_cancel]; exact ⟨h2, e.symm⟩
      · rw [gvG_4, e, if_pos ⟨by omega, by omega⟩, Nat.add_sub_cancel_left]
        exact hR k (by omega)
    · rw [if_neg e, if_neg e]
      refine ⟨n1, n2, n3, fun k hk => ?_, n5⟩
      rw [gvG_4, if_neg (fun x => by omega)]
      exact n4 k hk
theorem SI_bes {s : kS} {T n j r : Nat} {W G : Nat → Nat → Nat} (hP : Plan s T n W) (hI : SI s T n W j false G) : SI s T n W j false (gU G 2 j r) := by
  obtain ⟨i1, i2, i3, i4, i5, i6, i7, i8⟩ := hI
  refine ⟨i1, fun i hi hs => ?_, fun i i0 hi hx => ?_, k_ft, fun i i0 hi hx => ?_, fun i i0 hi hx => ?_, fun h hh => ?_, k_ft⟩
  · rw [gU_i (by omega)]; exact i2 i hi hs
  · have := (hP.2.2.2.2 i i0 (by omega)).1.2.1
    have q1 : gU G 2 j r 2 (W 1 i) = G 2 (W 1 i) := gU_i (by omega)
    have q2 : gU G 2 j r 0 i = G 0 i := gU_k (by decide)
    have ea : avS s W (gU G 2 j r) i = avS s W G i := by unfold avS alS; rw [q1, q2]
    rw [ea, gU_k (by decide)]; exact i3 i i0 hi hx
  · rw [gU_k (by decide)]; exact i5 i i0 hi hx
  · rw [gU_k (by decide), gU_k (by decide), gU_k (by decide)]; exact i6 i i0 hi hx
  · rw [gU_k (by decide), gU_k (by decide)]
    obtain ⟨n1, n2, n3, n4, n5⟩ := i7 h hh
    exact ⟨n1, n2, n3, fun k hk => by rw [gU_k (by decide)]; exact n4 k hk, n5⟩
theorem SI_fit {s : kS} {T n j m : Nat} {W G : Nat → Nat → Nat} {R : Nat → Nat} (hF : FI s T) (hP : Plan s T n W) (hI : SI s T n W j false G) (hm : m ≤ 12) (hR : ∀ k, k < m → R k < T) : SI s T n W j false (fitG s W G j R m) := by
  unfold fitG
  by_cases c : gN s 2 (W 0 j) = 2
  · rw [if_pos c]
    by_cases d : holeV s (W 0 j) (G 3) (G 4) R m = 2
    · rw [if_pos d]; exact SI_give hF hP hI c (holeV_2 d) hm hR
    · rw [if_neg d]; exact hI
  · rw [if_neg c]; exact SI_bes hP hI
/-- what is left for the parent of a slot; 100 behind slot j: for slot j itself -/
def leftS (s : kS) (W G : Nat → Nat → Nat) (j a : Nat) : Nat := if a = j + 100 then alS s G j else dif (alS s G (W 1 a)) (G 0 a ||| G 1 a)
/-- the next slot, fresh -/
def psG (G : Nat → Nat → Nat) (j v : Nat) : Nat → Nat → Nat := gU (gU G 0 (j + 1) (if v = 2 then 0 else G 0 (v - 2) ||| G 1 (v - 2))) 1 (j + 1) 0
theorem climb_spec {s : kS} {T n j : Nat} {W : Nat → Nat → Nat} {L : Nat → Nat} (hP : Plan s T n W) (hj : j < n) : ∀ f a, a ≤ j → enS s W a = j + 1 →
    (climb s W L f a = 1 → j + 1 = n) ∧ ∀ v, climb s W L f a = v → v ≠ 0 → v ≠ 1 → ∃ a', v = a' + 2 ∧ 0 < a' ∧ a' ≤ j ∧ enS s W a' = j + 1 ∧ W 2 a' + 1 < cnS s W (W 1 a') ∧ j + 1 < n ∧ W 1 (j + 1) = W 1 a' ∧ W 2 (j + 1) = W 2 a' + 1 := by
  intro f
  induction f with
  | zero =>
    intro a ha he
    refine ⟨fun x => absurd (show 0 = 1 from x) (by omega), fun v hv h0 => absurd hv.symm (fun x => h0 (by rw [x]; rfl))⟩
  | succ f ih =>
    intro a ha he
    have e : climb s W L (f + 1) a = if a = 0 then 1 else if W 2 a + 1 = cnS s W (W 1 a) then (if L a = 0 then climb s W L f (W 1 a) else 0) else a + 2 := rfl
    rw [e]
    by_cases a0 : a = 0
    · rw [if_pos a0]
      refine ⟨fun _ => ?_, fun v hv h0 h1 => absurd hv.symm h1⟩
      rw [a0, hP.2.2.1] at he
      omega
    · rw [if_neg a0]
      obtain ⟨⟨b1, b2, b3, b4, b5⟩, ⟨g1, g2, g3⟩, nx, _⟩ := hP.2.2.2.2 a (by omega) (by omega)
      by_cases la : W 2 a + 1 = cnS s W (W 1 a)
      · rw [if_pos la]
        by_cases z : L a = 0
        · rw [if_pos z]
          exact ih (W 1 a) (by omega) (by have := g3 la; omega)
        · rw [if_neg z]
          exact ⟨fun x => by omega, fun v hv h0 => absurd hv.symm h0⟩
      · rw [if_neg la]
        refine ⟨fun x => by omega, fun v hv h0 h1 => ⟨a, hv.symm, by omega, ha, he, by omega, ?_⟩⟩
        rcases nx (by omega) with ⟨w1, w2, w3⟩ | ⟨w1, w2, w3⟩
        · rw [he] at w1 w2 w3
          exact ⟨w1, w2, w3⟩
        · rw [w2] at la; omega
theorem P_en1 {s : kS} {T n j : Nat} {W : Nat → Nat → Nat} (hF : FI s T) (hP : Plan s T n W) (hj : j < n) (h : cnS s W j = 0) : enS s W j = j + 1 := by
  have h1 := (hF.2.2.2 (W 0 j) (P_tr hP hj)).2.2.2.1
  have h2 : gN s 9 (W 0 j) = 0 := h
  rw [h2] at h1
  have h3 : gN s 8 (W 0 j) = 1 + 0 := h1
  unfold enS
  omega
/-- which slot comes next -/
theorem end_spec {s : kS} {T n j : Nat} {W : Nat → Nat → Nat} {L : Nat → Nat} (hF : FI s T) (hP : Plan s T n W) (hj : j < n) :
    (endV s W L j = 1 → j + 1 = n) ∧ (endV s W L j = 2 → j + 1 < n ∧ W 1 (j + 1) = j ∧ W 2 (j + 1) = 0 ∧ gN s 2 (W 0 j) = 1) ∧ (3 ≤ endV s W L j → ∃ a', endV s W L j = a' + 2 ∧ 0 < a' ∧ a' ≤ j ∧ enS s W a' = j + 1 ∧ W 2 a' + 1 < cnS s W (W 1 a') ∧ j + 1 < n ∧ W 1 (j + 1) = W 1 a' ∧ W 2 (j + 1) = W 2 a' + 1) := by
  have cs : cnS s W j = 0 → (climb s W L 21 j = 1 → j + 1 = n) ∧ (climb s W L 21 j = 2 → j + 1 < n ∧ W 1 (j + 1) = j ∧ W 2 (j + 1) = 0 ∧ gN s 2 (W 0 j) = 1) ∧ (3 ≤ climb s W L 21 j → ∃ a', climb s W L 21 j = a' + 2 ∧ 0 < a' ∧ a' ≤ j ∧ enS s W a' = j + 1 ∧ W 2 a' + 1 < cnS s W (W 1 a') ∧ j + 1 < n ∧ W 1 (j + 1) = W 1 a' ∧ W 2 (j + 1) = W 2 a' + 1) := by
    intro h
    obtain ⟨k1, k2⟩ := climb_spec (L := L) hP hj 21 j (Nat.le_refl j) (P_en1 hF hP hj h)
    refine ⟨k1, fun x => ?_, fun x => k2 _ rfl (by omega) (by omega)⟩
    obtain ⟨a', q1, q2, _⟩ := k2 _ rfl (by omega) (by omega)
    omega
  unfold endV
  by_cases c : gN s 2 (W 0 j) = 1
  · rw [if_pos c]
    by_cases d : cnS s W j = 0
    · rw [if_pos d]
      by_cases z : L (j + 100) = 0
      · rw [if_pos z]; exact cs d
      · rw [if_neg z]; exact ⟨fun x => by omega, fun x => by omega, fun x => by omega⟩
    · rw [if_neg d]
      refine ⟨fun x => by omega, fun _ => ?_, fun x => by omega⟩
      by_cases j0 : j = 0
      · rw [j0] at d ⊢
        obtain ⟨p1, p2, p3⟩ := hP.2.2.2.1 (by omega)
        rw [j0] at c
        exact ⟨p1, p2, p3, c⟩
      · obtain ⟨p1, p2, p3⟩ := (hP.2.2.2.2 j (by omega) hj).2.2.2.2 (by omega)
        exact ⟨p1, p2, p3, c⟩
  · rw [if_neg c]
    exact cs (T_node hF (P_tr hP hj) c)
theorem SI_push {s : kS} {T n j : Nat} {W G : Nat → Nat → Nat} {L : Nat → Nat} (hF : FI s T) (hP : Plan s T n W) (hI : SI s T n W j false G) (hb : gN s 2 (W 0 j) ≠ 2 → G 2 j < T) (hv : 2 ≤ endV s W L j) : SI s T n W (j + 1) true (psG G j (endV s W L j)) := by
  obtain ⟨i1, i2, i3, i4, i5, i6, i7, i8⟩ := hI
  obtain ⟨_, e2, e3⟩ := end_spec (L := L) hF hP i1
  have ek : ∀ k i, k ≠ 0 → k ≠ 1 → psG G j (endV s W L j) k i = G k i := fun k i x0 x1 => by unfold psG; rw [gU_k x1, gU_k x0]
  have ei : ∀ k i, i ≤ j → psG G j (endV s W L j) k i = G k i := fun k i x => by unfold psG; rw [gU_i (by omega), gU_i (by omega)]
  have e0 : psG G j (endV s W L j) 0 (j + 1) = if endV s W L j = 2 then 0 else G 0 (endV s W L j - 2) ||| G 1 (endV s W L j - 2) := by unfold psG; rw [gU_k (by decide), gU_s]
  have ea : ∀ i, i ≤ j → avS s W (psG G j (endV s W L j)) i = avS s W G i := fun i x => by unfold avS alS; rw [ek 2 _ (by decide) (by decide), ei 0 i x]
  have hjn : j + 1 < n := by
    rcases (show endV s W L j = 2 ∨ 3 ≤ endV s W L j by omega) with x | x
    · exact (e2 x).1
    · obtain ⟨a', _, _, _, _, _, q, _⟩ := e3 x
      exact q
  refine ⟨hjn, fun i hi hs => ?_, fun i i0 hi hx => ?_, fun _ => by unfold psG; rw [gU_s], fun i i0 hi hx => ?_, fun i i0 hi hx => ?_, fun h hh => ?_, fun _ h hh => ?_⟩
  · rw [ei 2 i (by omega)]
    by_cases e : i = j
    · rw [e]; rw [e] at hs; exact hb hs
    · exact i2 i (by omega) hs
  · have hij : i ≤ j := by
      rcases (show i ≤ j ∨ i = j + 1 by omega) with x | x
      · exact x
      · exact k_ft (hx x).symm
    rw [ea i hij, ei 1 i hij]
    exact i3 i i0 hij (fun _ => rfl)
  · by_cases e : i = j + 1
    · rw [e, e0]
      rw [e] at hx
      rcases (show endV s W L j = 2 ∨ 3 ≤ endV s W L j by omega) with x | x
      · rw [if_pos x]
      · obtain ⟨a', _, _, _, _, _, _, _, q⟩ := e3 x
        omega
    · rw [ei 0 i (by omega)]; exact i5 i i0 (by omega) hx
  · have hin : i < enS s W i := (P_en hF hP (show i < n by unfold enS at hi; omega)).1
    rw [ei 0 i (by omega), ei 1 i (by omega)]
    by_cases e : enS s W i = j + 1
    · rw [e, e0]
      obtain ⟨⟨b1, b2, b3, b4, b5⟩, ⟨g1, g2, g3⟩, nx, _⟩ := hP.2.2.2.2 i i0 (by omega)
      have hsib : W 1 (j + 1) = W 1 i := by
        rcases nx hx with ⟨w1, w2, w3⟩ | ⟨w1, w2, w3⟩
        · rw [e] at w2; exact w2
        · omega
      rcases (show endV s W L j = 2 ∨ 3 ≤ endV s W L j by omega) with x | x
      · have := (e2 x).2.1
        omega
      · obtain ⟨a', q1, q2, q3, q4, q5, q6, q7, q8⟩ := e3 x
        rw [if_neg (by omega), q1, Nat.add_sub_cancel]
        have : i = a' := by
          rcases (show i < a' ∨ i = a' ∨ a' < i by omega) with y | y | y
          · have := (P_sib hF hP i0 y (by omega) (by omega)).1
            omega
          · exact y
          · have := (P_sib hF hP q2 y (by omega) (by omega)).1
            omega
        rw [this]
    · rw [ei 0 _ (by omega)]
      exact i6 i i0 (by omega) hx
  · rw [ek 3 _ (by decide) (by decide), ek 5 _ (by decide) (by decide)]
    obtain ⟨n1, n2, n3, n4, n5⟩ := i7 h hh
    exact ⟨n1, by omega, n3, fun k hk => by rw [ek 4 _ (by decide) (by decide)]; exact n4 k hk, n5⟩
  · rw [ek 5 _ (by decide) (by decide)]
    have := (i7 h hh).2.1
    omega
