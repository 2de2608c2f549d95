/-! calls that only read, and the making of trees -/
theorem Inv_10 {σ : kS} (h : Inv σ) (x : Int32) : Inv (k_sS σ 10 x) := h
theorem k_thr0 {α : Type} {σ : kS} {A B : kS → Option α} : (k_set σ 10 0 fun σ1 => if σ1.1 10 = 0 then A σ1 else B σ1) = A (k_sS σ 10 0) := by
  show (if (k_sS σ 10 0).1 10 = 0 then A (k_sS σ 10 0) else B (k_sS σ 10 0)) = _
  rw [if_pos k_sSs]
theorem k_thr1 {α : Type} {σ : kS} {y : Int32} {A B : kS → Option α} (hy : y ≠ 0) : (k_set σ 10 y fun σ1 => if σ1.1 10 = 0 then A σ1 else B σ1) = B (k_sS σ 10 y) := by
  show (if (k_sS σ 10 y).1 10 = 0 then A (k_sS σ 10 y) else B (k_sS σ 10 y)) = _
  rw [if_neg (by rw [k_sSs]; exact hy)]
theorem A_tried {σ : kS} (h : Inv σ) : ∃ r σ1 σ2, M_SM_tried σ = some (r, σ1) ∧ M_Md_tried σ1 = some (r, σ2) ∧ Inv σ2 := by
  obtain ⟨T, hF, hE, hR, n, hn, h9, h14, h16, hk⟩ := id h
  refine ⟨σ.1 5, σ, k_sS σ 10 0, rfl, ?_, Inv_10 h 0⟩
  show some ((k_sS σ 10 0).1 16, k_sS σ 10 0) = _
  rw [k_sSn (by decide), h16]
theorem A_rules {σ : kS} (h : Inv σ) (x : Int32) : ∃ r σ1 σ2, M_SM_rules σ x = some (r, σ1) ∧ M_Md_rules σ1 x = some (r, σ2) ∧ Inv σ2 := by
  obtain ⟨T, hF, hE, ⟨r, n, hr, hn, e0, e1, hp, e12, e13, e38, e39⟩, hK⟩ := id h
  have hmd : M_Md_rules σ x = if x < 0 then some ((-1), k_sS σ 10 0) else if x < σ.1 13 then k_ld (σ.2.1 39) 30 x (fun v4 => some (v4, k_sS σ 10 0)) else some ((-1), k_sS σ 10 0) := rfl
  unfold M_SM_rules
  rcases k_ix x with hx | ⟨m, hm, rfl⟩
  · rw [if_pos hx]
    exact ⟨_, _, _, rfl, by rw [hmd, if_pos hx], Inv_10 h 0⟩
  · rw [if_neg (nI_lt0 hm)]
    rw [if_neg (nI_lt0 hm)] at hmd
    by_cases hc : m < n
    · have h1 : nI m < σ.1 1 := by rw [e1]; exact nI_lt hc (by omega)
      have h2 : ¬ σ.1 1 ≤ nI m := by rw [e1]; exact nI_ge hc (by omega)
      rw [e13, if_pos h1, k_ld_n (by omega) (by omega), e39] at hmd
      first
        | rw [if_pos h1, k_ld_n (by omega) (by omega)]
        | rw [if_neg h2, k_ld_n (by omega) (by omega)]
      exact ⟨_, _, _, rfl, hmd, Inv_10 h 0⟩
    · have h1 : ¬ nI m < σ.1 1 := by rw [e1]; exact nI_nlt (by omega) (by omega)
      have h2 : σ.1 1 ≤ nI m := by rw [e1]; exact nI_le (by omega) (by omega)
      rw [e13, if_neg h1] at hmd
      first
        | rw [if_neg h1]
        | rw [if_pos h2]
      exact ⟨_, _, _, rfl, hmd, Inv_10 h 0⟩
theorem A_count {σ : kS} (h : Inv σ) (x : Int32) : ∃ r σ1 σ2, M_SM_count σ x = some (r, σ1) ∧ M_Md_count σ1 x = some (r, σ2) ∧ Inv σ2 := by
  obtain ⟨T, hF, hE, ⟨r, n, hr, hn, e0, e1, hp, e12, e13, e38, e39⟩, m, hm, h9, h14, h16, hk⟩ := id h
  have hmd : M_Md_count σ x = if x = 0 then some (σ.1 11, k_sS σ 10 0) else if x = 1 then some (σ.1 12, k_sS σ 10 0) else if x = 2 then some (σ.1 14, k_sS σ 10 0) else some ((-1), k_sS σ 10 0) := rfl
  unfold M_SM_count
  by_cases c0 : x = 0
  · rw [if_pos c0] at hmd ⊢
    exact ⟨_, _, _, rfl, by rw [hmd, hE.1], Inv_10 h 0⟩
  · rw [if_neg c0] at hmd ⊢
    by_cases c1 : x = 1
    · rw [if_pos c1] at hmd ⊢
      exact ⟨_, _, _, rfl, by rw [hmd, e12], Inv_10 h 0⟩
    · rw [if_neg c1] at hmd ⊢
      by_cases c2 : x = 2
      · rw [if_pos c2] at hmd ⊢
        exact ⟨_, _, _, rfl, by rw [hmd, h14, ← h9], Inv_10 h 0⟩
      · rw [if_neg c2] at hmd ⊢
        exact ⟨_, _, _, rfl, hmd, Inv_10 h 0⟩
/-- a number that names a tree, or doesn't -/
theorem k_tree (x : Int32) {T : Nat} (hT : T ≤ 240) : (x < 0 ∨ nI T ≤ x) ∨ ∃ t, t < T ∧ x = nI t := by
  rcases pk_ix x (n := T) (by omega) with h | h | h
  · exact Or.inl (Or.inl h)
  · exact Or.inl (Or.inr h)
  · exact Or.inr h
theorem k_hasTree {σ : kS} {T : Nat} (e : σ.1 2 = nI T) (x : Int32) : (x < 0 ∨ nI T ≤ x) → M_F_hasTree σ x = some (0, σ) := by
  intro h
  unfold M_F_hasTree
  by_cases c : x < 0
  · rw [if_pos c]
  · rw [if_neg c, e, if_pos (h.resolve_left c)]
theorem k_hasTree1 {σ : kS} {T t : Nat} (e : σ.1 2 = nI T) (hT : T ≤ 240) (ht : t < T) : M_F_hasTree σ (nI t) = some (1, σ) := by
  unfold M_F_hasTree
  rw [if_neg (nI_lt0 (by omega)), e, if_neg (nI_ge ht (by omega))]
theorem k_reqTree0 {σ : kS} {T : Nat} (e : σ.1 2 = nI T) {x : Int32} (h : x < 0 ∨ nI T ≤ x) : M_SM_requireTree σ x = some ((3, 0), σ) := by
  unfold M_SM_requireTree
  rw [k_call_s (k_hasTree e x h), if_pos rfl]
theorem k_reqTree1 {σ : kS} {T t : Nat} (e : σ.1 2 = nI T) (hT : T ≤ 240) (ht : t < T) : M_SM_requireTree σ (nI t) = some ((0, 0), σ) := by
  unfold M_SM_requireTree
  rw [k_call_s (k_hasTree1 e hT ht), if_neg (by decide)]
theorem k_noTree1 {σ : kS} {T : Nat} (e : σ.1 11 = nI T) (hT : T ≤ 240) {x : Int32} (h : x < 0 ∨ nI T ≤ x) : M_Md_noTree σ x = some (1, σ) := by
  unfold M_Md_noTree
  by_cases c : x < 0
  · rw [if_pos c]
  · rw [if_neg c, e, if_neg]
    have h2 := h.resolve_left c
    intro h3
    have a1 := Int32.le_iff_toInt_le.mp h2
    have a2 := Int32.lt_iff_toInt_lt.mp h3
    omega
theorem k_noTree0 {σ : kS} {T t : Nat} (e : σ.1 11 = nI T) (hT : T ≤ 240) (ht : t < T) : M_Md_noTree σ (nI t) = some (0, σ) := by
  unfold M_Md_noTree
  rw [if_neg (nI_lt0 (by omega)), e, if_pos (nI_lt ht (by omega))]
theorem A_parts {σ : kS} (h : Inv σ) (x : Int32) : Agree 3 0 (M_SM_parts σ x) (fun s => M_Md_parts s x) := by
  obtain ⟨T, ⟨hT, e2, hz, ht⟩, hE, hR, hK⟩ := id h
  have e11 : σ.1 11 = nI T := hE.1.trans e2
  rcases k_tree x hT with hx | ⟨t, htT, rfl⟩
  · refine ⟨3, 0, σ, ?_, Or.inr (Or.inl rfl), fun f => ⟨0, k_sS (k_sL σ f) 10 1, ?_, Inv_10 (Inv_L h f) 1, rfl, rfl, fun e => by cases e⟩⟩
    · unfold M_SM_parts
      rw [k_callx_n (n := 2) (k_reqTree0 e2 hx)]
    · show M_Md_parts (k_sL σ f) x = _
      unfold M_Md_parts
      rw [k_call_s (k_noTree1 (σ := k_sL σ f) e11 hT hx), if_neg (by decide)]
      rfl
  · have hct : σ.2.1 9 t = nI (gN σ 9 t) := (ht t htT).1.2.2.2.2.2.2.2.1
    refine ⟨0, σ.2.1 9 t, σ, ?_, Or.inl rfl, fun f => ⟨σ.2.1 9 t, k_sS (k_sL σ f) 10 0, ?_, Inv_10 (Inv_L h f) 0, rfl, rfl, fun _ => rfl⟩⟩
    · unfold M_SM_parts M_F_partCount
      rw [k_callx_0 (k_reqTree1 e2 hT htT), k_ld_n (by omega) (by omega)]
      rfl
    · show M_Md_parts (k_sL σ f) (nI t) = _
      unfold M_Md_parts
      rw [k_call_s (k_noTree0 (σ := k_sL σ f) e11 hT htT), if_pos rfl]
      unfold M_Md_parts_14
      rw [k_thr0]
      show k_ld (σ.2.1 29) 240 (nI t) (fun v3 => some (v3, k_sS (k_sL σ f) 10 0)) = _
      rw [k_ld_n (by omega) (by omega), hE.2.2.2.2.2.2.2.2.1]
theorem A_part {σ : kS} (h : Inv σ) (x y : Int32) : Agree 3 0 (M_SM_part σ x y) (fun s => M_Md_part s x y) := by
  obtain ⟨T, ⟨hT, e2, hz, ht⟩, hE, hR, hK⟩ := id h
  have e11 : σ.1 11 = nI T := hE.1.trans e2
  rcases k_tree x hT with hx | ⟨t, htT, rfl⟩
  · refine ⟨3, 0, σ, ?_, Or.inr (Or.inl rfl), fun f => ⟨0, k_sS (k_sL σ f) 10 1, ?_, Inv_10 (Inv_L h f) 1, rfl, rfl, fun e => by cases e⟩⟩
    · unfold M_SM_part
      rw [k_callx_n (n := 2) (k_reqTree0 e2 hx)]
    · show M_Md_part (k_sL σ f) x y = _
      unfold M_Md_part
      rw [k_call_s (k_noTree1 (σ := k_sL σ f) e11 hT hx), if_neg (by decide)]
      rfl
  · have hct : σ.2.1 9 t = nI (gN σ 9 t) := (ht t htT).1.2.2.2.2.2.2.2.1
    have hc12 : gN σ 9 t ≤ 12 := (ht t htT).2.1.2.2.2.2.2.2.2.2.2.2.1
    have hcl : M_SM_part σ (nI t) y = if y < 0 then some ((0, (-1)), σ) else if nI (gN σ 9 t) ≤ y then some ((0, (-1)), σ) else k_call (M_F_partAt σ (nI t) y) fun v10 σ11 => some ((0, v10), σ11) := by
      unfold M_SM_part M_F_partCount
      rw [k_callx_0 (k_reqTree1 e2 hT htT), k_ld_n (by omega) (by omega)]
      rw [k_call_s rfl, hct]
    have hmd : ∀ f, M_Md_part (k_sL σ f) (nI t) y = if y < 0 then some ((-1), k_sS (k_sL σ f) 10 0) else if y < nI (gN σ 9 t) then k_ld (σ.2.1 10) 2880 (((12 * nI t) + y)) (fun v6 => some (v6, k_sS (k_sL σ f) 10 0)) else some ((-1), k_sS (k_sL σ f) 10 0) := by
      intro f
      unfold M_Md_part
      rw [k_call_s (k_noTree0 (σ := k_sL σ f) e11 hT htT), if_pos rfl]
      show (if y < 0 then some ((-1), k_sS (k_sL σ f) 10 0) else k_ld (σ.2.1 29) 240 (nI t) (fun v4 => if y < v4 then k_ld (σ.2.1 30) 2880 (((12 * nI t) + y)) (fun v6 => some (v6, k_sS (k_sL σ f) 10 0)) else some ((-1), k_sS (k_sL σ f) 10 0))) = _
      rw [k_ld_n (by omega) (by omega), hE.2.2.2.2.2.2.2.2.1, hE.2.2.2.2.2.2.2.2.2.1, hct]
    have bad : ∀ {r : Int32}, M_SM_part σ (nI t) y = some ((0, r), σ) → (∀ f, M_Md_part (k_sL σ f) (nI t) y = some (r, k_sS (k_sL σ f) 10 0)) → Agree 3 0 (M_SM_part σ (nI t) y) (fun s => M_Md_part s (nI t) y) :=
      fun {r} a b => ⟨0, r, σ, a, Or.inl rfl, fun f => ⟨r, k_sS (k_sL σ f) 10 0, b f, Inv_10 (Inv_L h f) 0, rfl, rfl, fun _ => rfl⟩⟩
    rcases k_ix y with hy | ⟨k, hk, rfl⟩
    · exact bad (r := -1) (by rw [hcl, if_pos hy]) (fun f => by rw [hmd f, if_pos hy])
    · by_cases hc : k < gN σ 9 t
      · have ei : 12 * nI t + nI k = nI (12 * t + k) := by rw [show (12 : Int32) = nI 12 from rfl, pk_mul, nI_add]
        have ej : nI t * 12 + nI k = nI (12 * t + k) := by rw [show (12 : Int32) = nI 12 from rfl, pk_mul, nI_add, Nat.mul_comm]
        refine bad (r := σ.2.1 10 (12 * t + k)) ?_ (fun f => ?_)
        · rw [hcl, if_neg (nI_lt0 hk), if_neg (nI_ge hc (by omega))]
          unfold M_F_partAt
          rw [k_ld_x ej (by omega) (by omega)]
          rfl
        · rw [hmd f, if_neg (nI_lt0 hk), if_pos (nI_lt hc (by omega)), k_ld_x ei (by omega) (by omega)]
      · exact bad (r := -1) (by rw [hcl, if_neg (nI_lt0 hk), if_pos (nI_le (by omega) hk)]) (fun f => by rw [hmd f, if_neg (nI_lt0 hk), if_neg (nI_nlt (by omega) hk)])
