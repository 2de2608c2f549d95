/-! order -/
theorem k_isPlain {σ : kS} {T t : Nat} (hF : FI σ T) (ht : t < T) : M_F_isPlain σ (nI t) = some (σ.2.1 5 t, σ) := by
  obtain ⟨hT, e2, hz, htr⟩ := hF
  have a5 := (htr t ht).1.2.2.2.1
  have b5 := (htr t ht).2.1.2.2.2.2.2.1
  unfold M_F_isPlain
  rw [k_ld_n (by omega) (by omega), a5]
  rcases (show gN σ 5 t = 0 ∨ gN σ 5 t = 1 by omega) with h | h
  · rw [h]; rfl
  · rw [h]; rfl
theorem k_reqPlain {σ : kS} {T t : Nat} (hF : FI σ T) (ht : t < T) : M_SM_requirePlain σ (nI t) = if σ.2.1 5 t = 0 then some ((1, 0), σ) else some ((0, 0), σ) := by
  unfold M_SM_requirePlain
  rw [k_callx_0 (k_reqTree1 hF.2.1 hF.1 ht), k_call_s (k_isPlain hF ht)]
theorem FE_L {σ : kS} (h : FE σ) (f : Nat → Int64) : FE (k_sS (k_sL σ f) 10 0) := h
theorem FI_L {σ : kS} {T : Nat} (h : FI σ T) (f : Nat → Int64) : FI (k_sS (k_sL σ f) 10 0) T := h
theorem cmpN_congr {s σ : kS} (h2 : σ.2.1 2 = s.2.1 2) (h3 : σ.2.1 3 = s.2.1 3) (h9 : σ.2.1 9 = s.2.1 9) (h10 : σ.2.1 10 = s.2.1 10) : ∀ d, cmpN σ d = cmpN s d := by
  have hp : ∀ f a b m k, cmpP σ f a b k m = cmpP s f a b k m := by
    intro f a b m
    induction m with
    | zero => intro k; rfl
    | succ m ih =>
      intro k
      have e : ∀ i, gN σ 10 i = gN s 10 i := fun i => by unfold gN; rw [h10]
      show (if f (gN σ 10 _) (gN σ 10 _) = 0 then cmpP σ f a b (k + 1) m else f (gN σ 10 _) (gN σ 10 _)) = _
      rw [e, e, ih]
      rfl
  intro d
  induction d with
  | zero => rfl
  | succ d ih =>
    funext a b
    have e9 : gN σ 9 a = gN s 9 a := by unfold gN; rw [h9]
    show (if σ.2.1 2 a = σ.2.1 2 b then (if σ.2.1 3 a = σ.2.1 3 b then (if σ.2.1 9 a = σ.2.1 9 b then cmpP σ (cmpN σ d) a b 0 (gN σ 9 a) else (if σ.2.1 9 b ≤ σ.2.1 9 a then 1 else -1)) else (if σ.2.1 3 b ≤ σ.2.1 3 a then 1 else -1)) else (if σ.2.1 2 b ≤ σ.2.1 2 a then 1 else -1)) = _
    rw [h2, h3, h9, ih, hp, e9]
    rfl
theorem A_order {σ : kS} (h : Inv σ) (x y : Int32) : Agree 3 1 (M_SM_order σ x y) (fun s => M_Md_order s x y) := by
  obtain ⟨T, hF, hE, hR, hK⟩ := id h
  obtain ⟨hT, e2, hz, htr⟩ := id hF
  have e11 : σ.1 11 = nI T := hE.1.trans e2
  have m17 : ∀ f x y, M_Md_order_17 (k_sL σ f) x y = some (0, k_sS (k_sL σ f) 10 1) := fun f x y => by
    unfold M_Md_order_17 M_Md_order_44
    rw [k_thr1 (by decide)]
  have m39 : ∀ f x y, M_Md_order_39 (k_sL σ f) x y = some (0, k_sS (k_sL σ f) 10 2) := fun f x y => by
    unfold M_Md_order_39 M_Md_order_44
    rw [k_thr1 (by decide)]
  have b3 : ∀ {x y}, M_SM_order σ x y = some ((3, 0), σ) → (∀ f, M_Md_order (k_sL σ f) x y = some (0, k_sS (k_sL σ f) 10 1)) → Agree 3 1 (M_SM_order σ x y) (fun s => M_Md_order s x y) := fun a b =>
    ⟨3, 0, σ, a, Or.inr (Or.inl rfl), fun f => ⟨0, k_sS (k_sL σ f) 10 1, b f, Inv_10 (Inv_L h f) 1, rfl, rfl, fun e => by cases e⟩⟩
  have b1 : ∀ {x y}, M_SM_order σ x y = some ((1, 0), σ) → (∀ f, M_Md_order (k_sL σ f) x y = some (0, k_sS (k_sL σ f) 10 2)) → Agree 3 1 (M_SM_order σ x y) (fun s => M_Md_order s x y) := fun a b =>
    ⟨1, 0, σ, a, Or.inr (Or.inr ⟨by decide, rfl⟩), fun f => ⟨0, k_sS (k_sL σ f) 10 2, b f, Inv_10 (Inv_L h f) 2, rfl, rfl, fun e => by cases e⟩⟩
  rcases k_tree x hT with hx | ⟨a, ha, rfl⟩
  · refine b3 ?_ (fun f => ?_)
    · unfold M_SM_order
      rw [k_callx_n (n := 2) (k_reqTree0 e2 hx)]
    · unfold M_Md_order
      rw [k_call_s (k_noTree1 (σ := k_sL σ f) e11 hT hx), if_neg (by decide), m17 f]
  · rcases k_tree y hT with hy | ⟨b, hb, rfl⟩
    · refine b3 ?_ (fun f => ?_)
      · unfold M_SM_order
        rw [k_callx_0 (k_reqTree1 e2 hT ha), k_callx_n (n := 2) (k_reqTree0 e2 hy)]
      · unfold M_Md_order
        rw [k_call_s (k_noTree0 (σ := k_sL σ f) e11 hT ha), if_pos rfl, k_call_s (k_noTree1 (σ := k_sL σ f) e11 hT hy), if_neg (by decide), m17 f]
    · have hcl : M_SM_order σ (nI a) (nI b) = k_callx (M_SM_requirePlain σ (nI a)) fun _ σ10 => k_callx (M_SM_requirePlain σ10 (nI b)) fun _ σ14 => k_call (M_F_compare σ14 (nI a) (nI b)) fun v17 σ18 => some ((0, v17), σ18) := by
        unfold M_SM_order
        rw [k_callx_0 (k_reqTree1 e2 hT ha), k_callx_0 (k_reqTree1 e2 hT hb)]
      have hmd : ∀ f, M_Md_order (k_sL σ f) (nI a) (nI b) = if σ.2.1 5 a = 0 then M_Md_order_39 (k_sL σ f) (nI a) (nI b) else if σ.2.1 5 b = 0 then M_Md_order_39 (k_sL σ f) (nI a) (nI b) else M_Md_order_44 (k_sL σ f) (nI a) (nI b) 0 := fun f => by
        unfold M_Md_order
        rw [k_call_s (k_noTree0 (σ := k_sL σ f) e11 hT ha), if_pos rfl, k_call_s (k_noTree0 (σ := k_sL σ f) e11 hT hb), if_pos rfl, k_ld_n (by omega) (by omega), k_ld_n (by omega) (by omega), k_sL_2, hE.2.2.2.2.1]
      by_cases c5 : σ.2.1 5 a = 0
      · exact b1 (by rw [hcl, k_callx_n (n := 0) ((k_reqPlain hF ha).trans (if_pos c5))]) (fun f => by rw [hmd f, if_pos c5, m39 f])
      · by_cases d5 : σ.2.1 5 b = 0
        · exact b1 (by rw [hcl, k_callx_0 ((k_reqPlain hF ha).trans (if_neg c5)), k_callx_n (n := 0) ((k_reqPlain hF hb).trans (if_pos d5))]) (fun f => by rw [hmd f, if_neg c5, if_pos d5, m39 f])
        · refine ⟨0, cmpN σ 21 a b, σ, ?_, Or.inl rfl, fun f => ?_⟩
          · rw [hcl, k_callx_0 ((k_reqPlain hF ha).trans (if_neg c5)), k_callx_0 ((k_reqPlain hF hb).trans (if_neg d5)), k_call_s (F_compare hF ha hb)]
          · obtain ⟨σ', hs, hr⟩ := Md_compare (FI_L hF f) (FE_L hE f) ha hb
            refine ⟨cmpN σ 21 a b, σ', ?_, Inv_scr hs (Inv_10 (Inv_L h f) 0), hs.2.1, by rw [hs.1]; rfl, fun _ => rfl⟩
            show M_Md_order (k_sL σ f) (nI a) (nI b) = _
            rw [hmd f, if_neg c5, if_neg d5]
            unfold M_Md_order_44
            rw [k_thr0, k_call_s hr, cmpN_congr (σ := k_sS (k_sL σ f) 10 0) (s := σ) rfl rfl rfl rfl 21]
