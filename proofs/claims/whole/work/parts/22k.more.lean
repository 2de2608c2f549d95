/-! more: a part is put into a node's row -/
def shf (f : Nat → Int32) (b c q : Nat) : Nat → Int32 := fun j => if b + q < j ∧ j ≤ b + c then f (j - 1) else f j
theorem shf_c (f : Nat → Int32) (b c : Nat) : shf f b c c = f := by
  funext j
  exact if_neg (by omega)
theorem shf_low {f : Nat → Int32} {b c q j : Nat} (h : j ≤ b + q) : shf f b c q j = f j := if_neg (by omega)
theorem shf_out {f : Nat → Int32} {b c q j : Nat} (h : j < b ∨ b + c < j) : shf f b c q j = f j := if_neg (by omega)
theorem shf_step {f : Nat → Int32} {b c q : Nat} (h : q < c) : upd (shf f b c (q + 1)) (b + (q + 1)) (f (b + q)) = shf f b c q := by
  funext j
  by_cases e : j = b + (q + 1)
  · subst e
    rw [k_upd_s]
    exact (if_pos (by omega)).symm
  · rw [k_upd_n e]
    unfold shf
    by_cases c1 : b + (q + 1) < j ∧ j ≤ b + c
    · rw [if_pos c1, if_pos (by omega)]
    · rw [if_neg c1, if_neg (by omega)]
def ins (f : Nat → Int32) (b c p : Nat) (v : Int32) : Nat → Int32 := upd (shf f b c p) (b + p) v
theorem ins_at {f : Nat → Int32} {b c p k : Nat} {v : Int32} (hk : k ≤ c) : ins f b c p v (b + k) = if k < p then f (b + k) else if k = p then v else f (b + (k - 1)) := by
  unfold ins
  by_cases c1 : k < p
  · rw [if_pos c1, k_upd_n (by omega), shf_low (by omega)]
  · rw [if_neg c1]
    by_cases c2 : k = p
    · rw [if_pos c2, c2, k_upd_s]
    · rw [if_neg c2, k_upd_n (by omega)]
      unfold shf
      rw [if_pos (by omega), show b + k - 1 = b + (k - 1) by omega]
theorem ins_out {f : Nat → Int32} {b c p j : Nat} {v : Int32} (hp : p ≤ c) (h : j < b ∨ b + c < j) : ins f b c p v j = f j := by
  unfold ins
  rw [k_upd_n (by omega), shf_out h]
/-- the place of a new part -/
def plc (s : kS) (t u : Nat) : Nat → Nat
  | 0 => 0
  | q + 1 => if cmpN s 21 (gN s 10 (12 * t + q)) u ≤ 0 then q + 1 else plc s t u q
theorem plc_le (s : kS) (t u : Nat) : ∀ q, plc s t u q ≤ q := by
  intro q
  induction q with
  | zero => exact Nat.le_refl 0
  | succ q ih =>
    show (if _ then q + 1 else plc s t u q) ≤ q + 1
    split
    · exact Nat.le_refl _
    · exact Nat.le_succ_of_le ih
def plcOf (s : kS) (t u : Nat) : Nat := if gN s 3 t < 5 then gN s 9 t else if gN s 5 t = 0 then gN s 9 t else if gN s 5 u = 0 then gN s 9 t else plc s t u (gN s 9 t)
theorem plcOf_le (s : kS) (t u : Nat) : plcOf s t u ≤ gN s 9 t := by
  unfold plcOf
  split
  · omega
  · split
    · omega
    · split
      · omega
      · exact plc_le s t u _
theorem nI_z {n : Nat} (h : n < 2 ^ 31) : nI n = 0 ↔ n = 0 := by
  rw [show (0 : Int32) = nI 0 from rfl, nI_eq h (by omega)]
theorem F_placeFor {σ : kS} {T t u : Nat} (hF : FI σ T) (ht : t < T) (hu : u < T) (hs : gN σ 2 t = 1) : M_F_placeFor σ (nI t) (nI u) = some (nI (plcOf σ t u), σ) := by
  obtain ⟨hT, e2, hz, htr⟩ := id hF
  obtain ⟨⟨a2, a3, a4, a5, a6, a7, a8, a9, a11⟩, ⟨b2, b3, b3a, b3b, b4, b5, b6, b7, b8, b8a, b9, b11, b9a⟩, hp, -⟩ := htr t ht
  obtain ⟨⟨_, _, _, u5, _⟩, ⟨_, _, _, _, _, v5, _⟩, _⟩ := htr u hu
  have loop : ∀ q n, q ≤ gN σ 9 t → M_F_placeFor_35 (n + q + 1) σ (nI t) (nI u) (nI q) = some (nI (plc σ t u q), σ) := by
    intro q
    induction q with
    | zero =>
      intro n _
      show M_F_placeFor_35_b _ _ _ _ _ = _
      unfold M_F_placeFor_35_b
      rw [if_pos (show nI 0 ≤ 0 by decide)]
      rfl
    | succ q ih =>
      intro n hq
      obtain ⟨p1, p2, -, -⟩ := hp q (by omega)
      show M_F_placeFor_35_b (M_F_placeFor_35 (n + q + 1)) _ _ _ _ = _
      unfold M_F_placeFor_35_b M_F_partAt
      rw [if_neg (show ¬ nI (q + 1) ≤ 0 from nI_ge (a := 0) (b := q + 1) (by omega) (by omega)), nI_pred, k_i12, k_ld_n (by omega) (by omega), k_call_s rfl, p1, k_call_s (F_compare hF p2 hu)]
      show _ = some (nI (if _ then q + 1 else plc σ t u q), σ)
      by_cases c : cmpN σ 21 (gN σ 10 (12 * t + q)) u ≤ 0
      · rw [if_pos c, if_pos c]
      · rw [if_neg c, if_neg c, k_let_r, k_m1]
        exact ih n (by omega)
  unfold M_F_placeFor M_F_isAnyOrder
  rw [k_ld_n (by omega) (by omega), k_ld_n (by omega) (by omega), a2, hs, if_pos (show nI 1 = 1 from rfl), k_ld_n (by omega) (by omega), a3, a9]
  unfold plcOf
  by_cases c3 : gN σ 3 t < 5
  · rw [if_pos (show nI (gN σ 3 t) < 5 from nI_lt (b := 5) c3 (by omega)), if_pos c3, k_call_s rfl, if_pos rfl]
  · rw [if_neg (show ¬ nI (gN σ 3 t) < 5 from nI_nlt (b := 5) (by omega) (by omega)), if_neg c3, k_call_s rfl, if_neg (by decide), k_ld_n (by omega) (by omega), a5]
    by_cases c5 : gN σ 5 t = 0
    · rw [if_pos c5, if_pos ((nI_z (by omega)).mpr c5)]
    · rw [if_neg c5, if_neg (fun h => c5 ((nI_z (by omega)).mp h)), k_ld_n (by omega) (by omega), u5]
      by_cases d5 : gN σ 5 u = 0
      · rw [if_pos d5, if_pos ((nI_z (by omega)).mpr d5)]
      · rw [if_neg d5, if_neg (fun h => d5 ((nI_z (by omega)).mp h))]
        have := loop (gN σ 9 t) (k_fu - gN σ 9 t - 1) (Nat.le_refl _)
        rw [show k_fu - gN σ 9 t - 1 + gN σ 9 t + 1 = k_fu by unfold k_fu; omega] at this
        exact this
/-- what a call of more changes, in the rows of either side -/
def Moved (σ σ' : kS) (i5 i6 i7 i8 i9 i10 t u c p : Nat) (pl d sz : Nat) : Prop :=
  σ'.2.1 i5 = upd (σ.2.1 i5) t (nI pl) ∧ σ'.2.1 i6 = upd (σ.2.1 i6) u (nI 1) ∧ σ'.2.1 i7 = upd (σ.2.1 i7) t (nI d) ∧ σ'.2.1 i8 = upd (σ.2.1 i8) t (nI sz) ∧ σ'.2.1 i9 = upd (σ.2.1 i9) t (nI (c + 1)) ∧ σ'.2.1 i10 = ins (σ.2.1 i10) (12 * t) c p (nI u) ∧ (∀ j, j < 54 → j ≠ i5 → j ≠ i6 → j ≠ i7 → j ≠ i8 → j ≠ i9 → j ≠ i10 → σ'.2.1 j = σ.2.1 j)
def mPl (σ : kS) (t u : Nat) : Nat := if gN σ 5 t = 0 then 0 else if gN σ 5 u = 0 then 0 else 1
def mDp (σ : kS) (t u : Nat) : Nat := if gN σ 7 t < gN σ 7 u + 1 then gN σ 7 u + 1 else gN σ 7 t
theorem F_addPart {σ : kS} {T t u : Nat} (hF : FI σ T) (ht : t < T) (hu : u < T) (hut : u ≠ t) (hs : gN σ 2 t = 1) (hc : gN σ 9 t < 12) : ∃ σ', M_F_addPart σ (nI t) (nI u) = some (1, σ') ∧ σ'.1 = σ.1 ∧ σ'.2.2 = σ.2.2 ∧ Moved σ σ' 5 6 7 8 9 10 t u (gN σ 9 t) (plcOf σ t u) (mPl σ t u) (mDp σ t u) (gN σ 8 t + gN σ 8 u) := by
  obtain ⟨hT, e2, hz, htr⟩ := id hF
  obtain ⟨⟨a2, a3, a4, a5, a6, a7, a8, a9, a11⟩, ⟨b2, b3, b3a, b3b, b4, b5, b6, b7, b8, b8a, b9, b11, b9a⟩, hp, -⟩ := htr t ht
  obtain ⟨⟨_, _, _, u5, _, u7, u8, _⟩, ⟨_, _, _, _, _, v5, _, v7, _⟩, _⟩ := htr u hu
  have hpl := plcOf_le σ t u
  generalize hpe : plcOf σ t u = p at *
  have fin : ∀ (pl : Nat) (y : Int32) (s : kS) (x3 x4 x5 x6 : Int32), vp_nar .boolean y = nI pl → s.2.1 7 = σ.2.1 7 → s.2.1 8 = σ.2.1 8 → M_F_addPart_115 s (nI t) (nI u) x3 x4 x5 x6 y (nI t) = some (1, k_sA (k_sA (k_sA (k_sA s 5 (upd (s.2.1 5) t (nI pl))) 7 (upd (s.2.1 7) t (nI (mDp σ t u)))) 8 (upd (s.2.1 8) t (nI (gN σ 8 t + gN σ 8 u)))) 6 (upd (s.2.1 6) u (nI 1))) := by
    intro pl y s x3 x4 x5 x6 hy s7 s8
    unfold M_F_addPart_115
    rw [hy, k_st_x rfl (by omega) (by omega), k_ld_n (by omega) (by omega), k_ld_n (by omega) (by omega), k_st_x rfl (by omega) (by omega), k_ld_n (by omega) (by omega), k_ld_n (by omega) (by omega), k_st_x rfl (by omega) (by omega), k_st_x rfl (by omega) (by omega)]
    have q7 : (k_sA s 5 (upd (s.2.1 5) t (nI pl))).2.1 7 = σ.2.1 7 := s7
    have q8 : ∀ g, (k_sA (k_sA s 5 (upd (s.2.1 5) t (nI pl))) 7 g).2.1 8 = σ.2.1 8 := fun g => s8
    have hd : (if (σ.2.1 7 t) < (σ.2.1 7 u + 1) then (σ.2.1 7 u + 1) else σ.2.1 7 t) = nI (mDp σ t u) := by
      rw [a7, u7, nI_1]
      unfold mDp
      by_cases c : gN σ 7 t < gN σ 7 u + 1
      · rw [if_pos c, if_pos (nI_lt c (by omega))]
      · rw [if_neg c, if_neg (nI_nlt (by omega) (by omega))]
    rw [q7, q8, hd, a8, u8, nI_add]
    rw [s7, s8]
    rfl
  have loop : ∀ m q n s, q = p + m → q ≤ gN σ 9 t → s.1 = σ.1 → s.2.2 = σ.2.2 → s.2.1 10 = shf (σ.2.1 10) (12 * t) (gN σ 9 t) q → (∀ j, j ≠ 10 → s.2.1 j = σ.2.1 j) → ∃ σ', M_F_addPart_32 (n + m + 1) s (nI t) (nI u) (nI (gN σ 9 t)) (nI (12 * t)) (nI p) (nI q) = some (1, σ') ∧ σ'.1 = σ.1 ∧ σ'.2.2 = σ.2.2 ∧ Moved σ σ' 5 6 7 8 9 10 t u (gN σ 9 t) p (mPl σ t u) (mDp σ t u) (gN σ 8 t + gN σ 8 u) := by
    intro m
    induction m with
    | zero =>
      intro q n s hq hqc s1 s2 s10 sj
      have hq' : p = q := hq.symm
      subst hq'
      let s3 := k_sA (k_sA s 10 (upd (s.2.1 10) (12 * t + p) (nI u))) 9 (upd (s.2.1 9) t (nI (gN σ 9 t + 1)))
      have s37 : s3.2.1 7 = σ.2.1 7 := sj 7 (by decide)
      have s38 : s3.2.1 8 = σ.2.1 8 := sj 8 (by decide)
      have s35 : s3.2.1 5 = σ.2.1 5 := sj 5 (by decide)
      refine ⟨k_sA (k_sA (k_sA (k_sA s3 5 (upd (s3.2.1 5) t (nI (mPl σ t u)))) 7 (upd (s3.2.1 7) t (nI (mDp σ t u)))) 8 (upd (s3.2.1 8) t (nI (gN σ 8 t + gN σ 8 u)))) 6 (upd (s3.2.1 6) u (nI 1)), ?_, s1, s2, ?_⟩
      · show M_F_addPart_32_b (M_F_addPart_32 n) _ _ _ _ _ _ _ = some (1, k_sA (k_sA (k_sA (k_sA s3 5 (upd (s3.2.1 5) t (nI (mPl σ t u)))) 7 (upd (s3.2.1 7) t (nI (mDp σ t u)))) 8 (upd (s3.2.1 8) t (nI (gN σ 8 t + gN σ 8 u)))) 6 (upd (s3.2.1 6) u (nI 1)))
        unfold M_F_addPart_32_b
        rw [if_pos (nI_le (by omega) (by omega)), nI_add, k_st_x rfl (by omega) (by omega), k_st_x rfl (by omega) (by omega), nI_1]
        show (k_ld (s3.2.1 5) 240 (nI t) fun v4 => if v4 = 0 then (M_F_addPart_114 s3 (nI t) (nI u) _ _ _ _ _) else (k_ld (s3.2.1 5) 240 (nI u) fun v6 => if v6 = 0 then (M_F_addPart_114 s3 (nI t) (nI u) _ _ _ _ _) else (M_F_addPart_115 s3 (nI t) (nI u) _ _ _ _ 1 (nI t)))) = _
        rw [k_ld_n (by omega) (by omega), k_ld_n (by omega) (by omega), s35, a5, u5]
        unfold M_F_addPart_114
        have e0 := fin 0 0 s3 (nI (gN σ 9 t)) (nI (12 * t)) (nI p) (nI p) rfl s37 s38
        have e1 := fin 1 1 s3 (nI (gN σ 9 t)) (nI (12 * t)) (nI p) (nI p) rfl s37 s38
        unfold mPl
        rw [s35] at e0 e1
        by_cases c5 : gN σ 5 t = 0
        · rw [if_pos c5, if_pos ((nI_z (by omega)).mpr c5)]
          exact e0
        · rw [if_neg c5, if_neg (fun h => c5 ((nI_z (by omega)).mp h))]
          by_cases d5 : gN σ 5 u = 0
          · rw [if_pos d5, if_pos ((nI_z (by omega)).mpr d5)]
            exact e0
          · rw [if_neg d5, if_neg (fun h => d5 ((nI_z (by omega)).mp h))]
            exact e1
      · refine ⟨?_, ?_, ?_, ?_, ?_, ?_, fun j _ h5 h6 h7 h8 h9 h10 => ?_⟩
        · show upd (s.2.1 5) _ _ = _
          rw [sj 5 (by decide)]
        · show upd (s.2.1 6) _ _ = _
          rw [sj 6 (by decide)]
        · show upd (s.2.1 7) _ _ = _
          rw [sj 7 (by decide)]
        · show upd (s.2.1 8) _ _ = _
          rw [sj 8 (by decide)]
        · show upd (s.2.1 9) _ _ = _
          rw [sj 9 (by decide)]
        · show upd (s.2.1 10) _ _ = _
          rw [s10]
          rfl
        · rw [k_sA2 h6, k_sA2 h8, k_sA2 h7, k_sA2 h5, k_sA2 h9, k_sA2 h10, sj j h10]
    | succ m ih =>
      intro q n s hq hqc s1 s2 s10 sj
      have hq2 : q = p + m + 1 := hq
      subst hq2
      obtain ⟨σ', r, rest⟩ := ih (p + m) n (k_sA s 10 (shf (σ.2.1 10) (12 * t) (gN σ 9 t) (p + m))) rfl (by omega) s1 s2 rfl (fun j hj => (k_sA2 hj).trans (sj j hj))
      refine ⟨σ', ?_, rest⟩
      rw [← r]
      show M_F_addPart_32_b (M_F_addPart_32 (n + m + 1)) _ _ _ _ _ _ _ = _
      unfold M_F_addPart_32_b
      rw [if_neg (nI_ge (by omega) (by omega)), nI_add, show nI (12 * t + (p + m + 1)) - 1 = nI (12 * t + (p + m)) from nI_pred (12 * t + (p + m)), k_ld_n (by omega) (by omega), k_st_x rfl (by omega) (by omega), k_let_r, k_m1, s10, shf_low (by omega), shf_step (by omega)]
  obtain ⟨σ', r, rest⟩ := loop (gN σ 9 t - p) (gN σ 9 t) (k_fu - (gN σ 9 t - p) - 1) σ (by omega) (Nat.le_refl _) rfl rfl (shf_c _ _ _).symm (fun _ _ => rfl)
  refine ⟨σ', ?_, rest⟩
  rw [show k_fu - (gN σ 9 t - p) - 1 + (gN σ 9 t - p) + 1 = k_fu by unfold k_fu; omega] at r
  unfold M_F_addPart
  rw [k_ld_n (by omega) (by omega), a9, if_pos (show nI (gN σ 9 t) < 12 from nI_lt (b := 12) hc (by omega)), k_let_r, k_call_s (F_placeFor hF ht hu hs), hpe, show nI t * 12 = nI (12 * t) by rw [show (12 : Int32) = nI 12 from rfl, pk_mul, Nat.mul_comm]]
  exact r
