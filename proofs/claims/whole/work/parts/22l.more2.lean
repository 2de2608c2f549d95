theorem psum_shift {f g : Nat → Nat} {p : Nat} (h : ∀ k, p < k → g k = f (k - 1)) : ∀ m k, p < k → psum g k m = psum f (k - 1) m := by
  intro m
  induction m with
  | zero => intro k _; rfl
  | succ m ih =>
    intro k hk
    show g k + psum g (k + 1) m = f (k - 1) + psum f (k - 1 + 1) m
    rw [h k hk, ih (k + 1) (by omega), show k + 1 - 1 = k - 1 + 1 by omega]
theorem psum_ins {f g : Nat → Nat} {p U : Nat} (h0 : ∀ k, k < p → g k = f k) (h1 : g p = U) (h2 : ∀ k, p < k → g k = f (k - 1)) : ∀ m k, k ≤ p → p ≤ k + m → psum g k (m + 1) = psum f k m + U := by
  intro m
  induction m with
  | zero =>
    intro k hk hp
    have : k = p := by omega
    subst this
    show g k + 0 = 0 + U
    omega
  | succ m ih =>
    intro k hk hp
    show g k + psum g (k + 1) (m + 1) = f k + psum f (k + 1) m + U
    by_cases e : k = p
    · subst e
      rw [h1, psum_shift h2 (m + 1) (k + 1) (by omega)]
      show U + (f k + psum f (k + 1) m) = _
      omega
    · rw [h0 k (by omega), ih (k + 1) (by omega) (by omega)]
      omega
theorem psum_congr {f g : Nat → Nat} : ∀ m k, (∀ i, k ≤ i → i < k + m → g i = f i) → psum g k m = psum f k m := by
  intro m
  induction m with
  | zero => intro k _; rfl
  | succ m ih =>
    intro k h
    show g k + _ = f k + _
    rw [h k (by omega) (by omega), ih (k + 1) (fun i h1 h2 => h i (by omega) (by omega))]
theorem Inv_more {σ σ1 σ2 : kS} {T t u p : Nat} (f : Nat → Int64) (hF : FI σ T) (hE : FE σ) (hR : RI σ T) (hK : KI σ) (ht : t < T) (hu : u < T) (hut : u ≠ t) (hs : gN σ 2 t = 1) (h6 : gN σ 6 t = 0) (hd : gN σ 7 u < 20) (hsz : gN σ 8 t + gN σ 8 u ≤ 70) (hc : gN σ 9 t < 12) (hp : p ≤ gN σ 9 t)
    (q1 : σ1.1 = σ.1) (m1 : Moved σ σ1 5 6 7 8 9 10 t u (gN σ 9 t) p (mPl σ t u) (mDp σ t u) (gN σ 8 t + gN σ 8 u)) (q2 : σ2.1 = (k_sS (k_sL σ1 f) 10 0).1) (m2 : Moved (k_sS (k_sL σ1 f) 10 0) σ2 31 32 33 34 29 30 t u (gN σ 9 t) p (mPl σ t u) (mDp σ t u) (gN σ 8 t + gN σ 8 u)) : Inv σ2 := by
  obtain ⟨hT, e2, hz, htr⟩ := id hF
  obtain ⟨f1, f2, f3, f4, f5, f6, f7, f8, f9, f10, f11, f12, f13⟩ := hE
  obtain ⟨⟨a2, a3, a4, a5, a6, a7, a8, a9, a11⟩, ⟨b2, b3, b3a, b3b, b4, b5, b6, b7, b8, b8a, b9, b11, b9a⟩, hpt, hsum, hpln, htest⟩ := id (htr t ht)
  obtain ⟨n5, n6, n7, n8, n9, n10, nj⟩ := m1
  obtain ⟨r31, r32, r33, r34, r29, r30, rj⟩ := m2
  have k_e : ∀ j, (k_sS (k_sL σ1 f) 10 0).2.1 j = σ1.2.1 j := fun _ => rfl
  simp only [k_e] at r31 r32 r33 r34 r29 r30 rj
  have c5 : σ2.2.1 5 = upd (σ.2.1 5) t (nI (mPl σ t u)) := (rj 5 (by decide) (by decide) (by decide) (by decide) (by decide) (by decide) (by decide)).trans n5
  have c6 : σ2.2.1 6 = upd (σ.2.1 6) u (nI 1) := (rj 6 (by decide) (by decide) (by decide) (by decide) (by decide) (by decide) (by decide)).trans n6
  have c7 : σ2.2.1 7 = upd (σ.2.1 7) t (nI (mDp σ t u)) := (rj 7 (by decide) (by decide) (by decide) (by decide) (by decide) (by decide) (by decide)).trans n7
  have c8 : σ2.2.1 8 = upd (σ.2.1 8) t (nI (gN σ 8 t + gN σ 8 u)) := (rj 8 (by decide) (by decide) (by decide) (by decide) (by decide) (by decide) (by decide)).trans n8
  have c9 : σ2.2.1 9 = upd (σ.2.1 9) t (nI (gN σ 9 t + 1)) := (rj 9 (by decide) (by decide) (by decide) (by decide) (by decide) (by decide) (by decide)).trans n9
  have c10 : σ2.2.1 10 = ins (σ.2.1 10) (12 * t) (gN σ 9 t) p (nI u) := (rj 10 (by decide) (by decide) (by decide) (by decide) (by decide) (by decide) (by decide)).trans n10
  have cj : ∀ j, j < 54 → j ≠ 5 → j ≠ 6 → j ≠ 7 → j ≠ 8 → j ≠ 9 → j ≠ 10 → j ≠ 31 → j ≠ 32 → j ≠ 33 → j ≠ 34 → j ≠ 29 → j ≠ 30 → σ2.2.1 j = σ.2.1 j := fun j h h5 h6 h7 h8 h9 h10 g1 g2 g3 g4 g5 g6 => (rj j h g1 g2 g3 g4 g5 g6).trans (nj j h h5 h6 h7 h8 h9 h10)
  have nk : ∀ j, j < 54 → j ≠ 5 → j ≠ 6 → j ≠ 7 → j ≠ 8 → j ≠ 9 → j ≠ 10 → σ1.2.1 j = σ.2.1 j := nj
  have x2 := cj 2 (by decide) (by decide) (by decide) (by decide) (by decide) (by decide) (by decide) (by decide) (by decide) (by decide) (by decide) (by decide) (by decide)
  have x3 := cj 3 (by decide) (by decide) (by decide) (by decide) (by decide) (by decide) (by decide) (by decide) (by decide) (by decide) (by decide) (by decide) (by decide)
  have x4 := cj 4 (by decide) (by decide) (by decide) (by decide) (by decide) (by decide) (by decide) (by decide) (by decide) (by decide) (by decide) (by decide) (by decide)
  have x11 := cj 11 (by decide) (by decide) (by decide) (by decide) (by decide) (by decide) (by decide) (by decide) (by decide) (by decide) (by decide) (by decide) (by decide)
  have x12 := cj 12 (by decide) (by decide) (by decide) (by decide) (by decide) (by decide) (by decide) (by decide) (by decide) (by decide) (by decide) (by decide) (by decide)
  have z0 : σ2.2.1 0 = σ.2.1 0 := cj 0 (by decide) (by decide) (by decide) (by decide) (by decide) (by decide) (by decide) (by decide) (by decide) (by decide) (by decide) (by decide) (by decide)
  have sc : ∀ j, j ≠ 10 → σ2.1 j = σ.1 j := fun j hj => by rw [q2, k_sSn hj]; exact congrFun q1 j
  have pmax : mPl σ t u ≤ 1 := by
    unfold mPl
    split
    · omega
    · split
      · omega
      · omega
  have dmax : mDp σ t u ≤ 20 ∧ gN σ 7 t ≤ mDp σ t u ∧ gN σ 7 u < mDp σ t u := by
    unfold mDp
    by_cases c : gN σ 7 t < gN σ 7 u + 1
    · rw [if_pos c]; omega
    · rw [if_neg c]; omega
  have part_ne : ∀ v, v < T → ∀ k, k < gN σ 9 v → gN σ 10 (12 * v + k) ≠ t := fun v hv k hk e => by
    have := ((htr v hv).2.2.1 k hk).2.2.2
    rw [e, h6] at this
    omega
  refine ⟨T, ⟨hT, by rw [sc 2 (by decide)]; exact e2, fun v hv => ?_, fun v hv => ?_⟩, ?_, ?_, ?_⟩
  · obtain ⟨y4, y6, y7, y9, y11⟩ := hz v hv
    rw [x4, c6, c7, c9, x11, k_upd_n (by omega), k_upd_n (by omega), k_upd_n (by omega)]
    exact ⟨y4, y6, y7, y9, y11⟩
  · by_cases hvt : v = t
    · subst hvt
      have g2 : gN σ2 2 v = gN σ 2 v := by unfold gN; rw [x2]
      have g3 : gN σ2 3 v = gN σ 3 v := by unfold gN; rw [x3]
      have g4 : gN σ2 4 v = gN σ 4 v := by unfold gN; rw [x4]
      have g11 : gN σ2 11 v = gN σ 11 v := by unfold gN; rw [x11]
      have g5 : gN σ2 5 v = mPl σ v u := gN_of (by rw [c5, k_upd_s]) (by omega)
      have g6 : gN σ2 6 v = gN σ 6 v := by unfold gN; rw [c6, k_upd_n (Ne.symm hut)]
      have g7 : gN σ2 7 v = mDp σ v u := gN_of (by rw [c7, k_upd_s]) (by omega)
      have g8 : gN σ2 8 v = gN σ 8 v + gN σ 8 u := gN_of (by rw [c8, k_upd_s]) (by omega)
      have g9 : gN σ2 9 v = gN σ 9 v + 1 := gN_of (by rw [c9, k_upd_s]) (by omega)
      have at10 : ∀ k, k ≤ gN σ 9 v → σ2.2.1 10 (12 * v + k) = if k < p then σ.2.1 10 (12 * v + k) else if k = p then nI u else σ.2.1 10 (12 * v + (k - 1)) := fun k hk => by rw [c10]; exact ins_at hk
      have gt10 : ∀ k, k ≤ gN σ 9 v → gN σ2 10 (12 * v + k) = if k < p then gN σ 10 (12 * v + k) else if k = p then u else gN σ 10 (12 * v + (k - 1)) := fun k hk => by
        unfold gN
        rw [at10 k hk]
        by_cases d1 : k < p
        · rw [if_pos d1, if_pos d1]
        · rw [if_neg d1, if_neg d1]
          by_cases d2 : k = p
          · rw [if_pos d2, if_pos d2]; exact nI_clamp (by omega)
          · rw [if_neg d2, if_neg d2]
      have other : ∀ w, w ≠ v → gN σ2 5 w = gN σ 5 w ∧ gN σ2 7 w = gN σ 7 w ∧ gN σ2 8 w = gN σ 8 w := fun w hw => by
        unfold gN
        rw [c5, c7, c8, k_upd_n hw, k_upd_n hw, k_upd_n hw]
        exact ⟨rfl, rfl, rfl⟩
      have clo : ∀ w, gN σ 6 w = 1 → gN σ2 6 w = 1 := fun w hw => by
        by_cases e : w = u
        · exact gN_of (by rw [c6, e, k_upd_s]) (by omega)
        · unfold gN at hw ⊢
          rw [c6, k_upd_n e]; exact hw
      have clu : gN σ2 6 u = 1 := gN_of (by rw [c6, k_upd_s]) (by omega)
      -- every part
      have parts : ∀ k, k ≤ gN σ 9 v → (gN σ2 10 (12 * v + k) = u ∧ k = p) ∨ ∃ k', k' < gN σ 9 v ∧ gN σ2 10 (12 * v + k) = gN σ 10 (12 * v + k') ∧ σ2.2.1 10 (12 * v + k) = σ.2.1 10 (12 * v + k') := fun k hk => by
        by_cases d1 : k < p
        · exact Or.inr ⟨k, by omega, by rw [gt10 k hk, if_pos d1], by rw [at10 k hk, if_pos d1]⟩
        · by_cases d2 : k = p
          · exact Or.inl ⟨by rw [gt10 k hk, if_neg d1, if_pos d2], d2⟩
          · exact Or.inr ⟨k - 1, by omega, by rw [gt10 k hk, if_neg d1, if_neg d2], by rw [at10 k hk, if_neg d1, if_neg d2]⟩
      refine ⟨?_, ?_, ?_, ?_, ?_, ?_⟩
      · rw [g2, g3, g4, g5, g6, g7, g8, g9, g11, x2, x3, x4, x11, c5, c6, c7, c8, c9, k_upd_s, k_upd_s, k_upd_s, k_upd_s, k_upd_n (Ne.symm hut)]
        exact ⟨a2, a3, a4, rfl, a6, rfl, rfl, rfl, a11⟩
      · rw [g2, g3, g4, g5, g6, g7, g8, g9, g11]
        exact ⟨b2, b3, b3a, b3b, b4, pmax, b6, dmax.1, by omega, hsz, by omega, b11, fun h => absurd hs h⟩
      · intro k hk
        rw [g9] at hk
        rcases parts k (by omega) with ⟨ek, ekp⟩ | ⟨k', hk', ek, ev⟩
        · rw [ek, at10 k (by omega), if_neg (by omega), if_pos ekp, (other u hut).2.1, g7]
          exact ⟨rfl, hu, dmax.2.2, clu⟩
        · obtain ⟨w1, w2, w3, w4⟩ := hpt k' hk'
          rw [ek, ev, (other _ (part_ne v ht k' hk')).2.1, g7]
          exact ⟨w1, w2, by omega, clo _ w4⟩
      · rw [g8, g9, hsum, psum_0, psum_0]
        have := psum_ins (f := fun k => gN σ 8 (gN σ 10 (12 * v + k))) (g := fun k => if k < p then gN σ 8 (gN σ 10 (12 * v + k)) else if k = p then gN σ 8 u else gN σ 8 (gN σ 10 (12 * v + (k - 1)))) (p := p) (U := gN σ 8 u) (fun k hk => if_pos hk) (by simp) (fun k hk => by show (if _ then _ else _) = _; rw [if_neg (by omega), if_neg (by omega)]) (gN σ 9 v) 0 (by omega) (by omega)
        rw [psum_congr (f := fun k => if k < p then gN σ 8 (gN σ 10 (12 * v + k)) else if k = p then gN σ 8 u else gN σ 8 (gN σ 10 (12 * v + (k - 1)))) (gN σ 9 v + 1) 0 (fun k _ hk => ?_), this]
        · omega
        · show gN σ2 8 (gN σ2 10 (12 * v + k)) = if _ then _ else _
          rw [gt10 k (by omega)]
          by_cases d1 : k < p
          · rw [if_pos d1, if_pos d1, (other _ (part_ne v ht k (by omega))).2.2]
          · rw [if_neg d1, if_neg d1]
            by_cases d2 : k = p
            · rw [if_pos d2, if_pos d2, (other u hut).2.2]
            · rw [if_neg d2, if_neg d2, (other _ (part_ne v ht (k - 1) (by omega))).2.2]
      · intro hpl1
        rw [g5] at hpl1
        unfold mPl at hpl1
        by_cases d1 : gN σ 5 v = 0
        · rw [if_pos d1] at hpl1; omega
        · rw [if_neg d1] at hpl1
          by_cases d2 : gN σ 5 u = 0
          · rw [if_pos d2] at hpl1; omega
          · obtain ⟨w1, w2⟩ := hpln (by omega)
            refine ⟨by rw [g2]; exact w1, fun k hk => ?_⟩
            rw [g9] at hk
            rcases parts k (by omega) with ⟨ek, ekp⟩ | ⟨k', hk', ek, ev⟩
            · rw [ek, (other u hut).1]
              have := (htr u hu).2.1.2.2.2.2.2.1
              omega
            · rw [ek, (other _ (part_ne v ht k' hk')).1]
              exact w2 k' hk'
      · intro k hk
        rw [g11] at hk
        have : gN σ2 12 (3 * v + k) = gN σ 12 (3 * v + k) := by unfold gN; rw [x12]
        rw [this, x12]
        exact htest k hk
    · refine TreeOK_c3 (σ := σ) (Nat.le_refl T) (fun j hj => ?_) (fun w => ?_) (fun k hk j hj => ?_) (fun k hk => ?_) (fun k hk => by rw [x12]) (htr v hv)
      · rcases hj with rfl | rfl | rfl | rfl | rfl | rfl | rfl | rfl
        · rw [x2]
        · rw [x3]
        · rw [x4]
        · rw [c5, k_upd_n hvt]
        · rw [c7, k_upd_n hvt]
        · rw [c8, k_upd_n hvt]
        · rw [c9, k_upd_n hvt]
        · rw [x11]
      · rw [c6]
        by_cases e : w = u
        · rw [e, k_upd_s]; exact Or.inr rfl
        · rw [k_upd_n e]; exact Or.inl rfl
      · have hne := part_ne v hv k hk
        rcases hj with rfl | rfl | rfl
        · rw [c5, k_upd_n hne]
        · rw [c7, k_upd_n hne]
        · rw [c8, k_upd_n hne]
      · have := (htr v hv).2.1.2.2.2.2.2.2.2.2.2.2.1
        rw [c10, ins_out hp (by omega)]
  · refine ⟨by rw [sc 11 (by decide), sc 2 (by decide)]; exact f1, ?_, ?_, ?_, ?_, ?_, ?_, ?_, ?_, ?_, ?_, ?_, ?_⟩
    · rw [x2, cj 26 (by decide) (by decide) (by decide) (by decide) (by decide) (by decide) (by decide) (by decide) (by decide) (by decide) (by decide) (by decide) (by decide)]; exact f2
    · rw [x3, cj 27 (by decide) (by decide) (by decide) (by decide) (by decide) (by decide) (by decide) (by decide) (by decide) (by decide) (by decide) (by decide) (by decide)]; exact f3
    · rw [x4, cj 28 (by decide) (by decide) (by decide) (by decide) (by decide) (by decide) (by decide) (by decide) (by decide) (by decide) (by decide) (by decide) (by decide)]; exact f4
    · rw [c5, r31, nk 31 (by decide) (by decide) (by decide) (by decide) (by decide) (by decide) (by decide), f5]
    · rw [c6, r32, nk 32 (by decide) (by decide) (by decide) (by decide) (by decide) (by decide) (by decide), f6]
    · rw [c7, r33, nk 33 (by decide) (by decide) (by decide) (by decide) (by decide) (by decide) (by decide), f7]
    · rw [c8, r34, nk 34 (by decide) (by decide) (by decide) (by decide) (by decide) (by decide) (by decide), f8]
    · rw [c9, r29, nk 29 (by decide) (by decide) (by decide) (by decide) (by decide) (by decide) (by decide), f9]
    · rw [c10, r30, nk 30 (by decide) (by decide) (by decide) (by decide) (by decide) (by decide) (by decide), f10]
    · rw [x11, cj 35 (by decide) (by decide) (by decide) (by decide) (by decide) (by decide) (by decide) (by decide) (by decide) (by decide) (by decide) (by decide) (by decide)]; exact f11
    · rw [x12, cj 36 (by decide) (by decide) (by decide) (by decide) (by decide) (by decide) (by decide) (by decide) (by decide) (by decide) (by decide) (by decide) (by decide)]; exact f12
    · rw [cj 13 (by decide) (by decide) (by decide) (by decide) (by decide) (by decide) (by decide) (by decide) (by decide) (by decide) (by decide) (by decide) (by decide), cj 37 (by decide) (by decide) (by decide) (by decide) (by decide) (by decide) (by decide) (by decide) (by decide) (by decide) (by decide) (by decide) (by decide)]; exact f13
  · obtain ⟨r, n, hr, hn, q0, q1', hpr, q12, q13, q38, q39⟩ := hR
    have ge : ∀ k, gN σ2 0 k = gN σ 0 k := fun k => by unfold gN; rw [z0]
    refine ⟨r, n, hr, hn, by rw [sc 0 (by decide)]; exact q0, by rw [sc 1 (by decide)]; exact q1', fun k hk => by rw [ge, z0]; exact hpr k hk, by rw [sc 12 (by decide), sc 0 (by decide)]; exact q12, by rw [sc 13 (by decide), sc 1 (by decide)]; exact q13, ?_, ?_⟩
    · rw [z0, cj 38 (by decide) (by decide) (by decide) (by decide) (by decide) (by decide) (by decide) (by decide) (by decide) (by decide) (by decide) (by decide) (by decide)]; exact q38
    · rw [cj 39 (by decide) (by decide) (by decide) (by decide) (by decide) (by decide) (by decide) (by decide) (by decide) (by decide) (by decide) (by decide) (by decide), cj 1 (by decide) (by decide) (by decide) (by decide) (by decide) (by decide) (by decide) (by decide) (by decide) (by decide) (by decide) (by decide) (by decide)]; exact q39
  · obtain ⟨n, hn, k9, k14, k16, hk⟩ := hK
    refine ⟨n, hn, by rw [sc 9 (by decide)]; exact k9, by rw [sc 14 (by decide)]; exact k14, by rw [sc 16 (by decide), sc 5 (by decide)]; exact k16, ?_⟩
    rw [cj 24 (by decide) (by decide) (by decide) (by decide) (by decide) (by decide) (by decide) (by decide) (by decide) (by decide) (by decide) (by decide) (by decide), cj 25 (by decide) (by decide) (by decide) (by decide) (by decide) (by decide) (by decide) (by decide) (by decide) (by decide) (by decide) (by decide) (by decide), cj 40 (by decide) (by decide) (by decide) (by decide) (by decide) (by decide) (by decide) (by decide) (by decide) (by decide) (by decide) (by decide) (by decide), cj 41 (by decide) (by decide) (by decide) (by decide) (by decide) (by decide) (by decide) (by decide) (by decide) (by decide) (by decide) (by decide) (by decide)]
    exact hk
