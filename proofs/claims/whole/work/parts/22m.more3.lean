/-! the model's more -/
theorem MdH_new {s b b' : kS} {T z : Nat} (H : MdH s b T z) (h26 : b'.2.1 26 = b.2.1 26) (h27 : b'.2.1 27 = b.2.1 27) (h29 : b'.2.1 29 = b.2.1 29) (h30 : ∀ v, v ≠ z → ∀ k, k < 12 → b'.2.1 30 (12 * v + k) = b.2.1 30 (12 * v + k)) : MdH s b' T z :=
  ⟨H.1, H.2.1, h26.trans H.2.2.1, h27.trans H.2.2.2.1, h29.trans H.2.2.2.2.1, fun v hv hvz k hk => (h30 v hvz k hk).trans (H.2.2.2.2.2 v hv hvz k hk)⟩
theorem plc_s {s : kS} {t u q : Nat} : plc s t u (q + 1) = if cmpN s 21 (gN s 10 (12 * t + q)) u ≤ 0 then q + 1 else plc s t u q := rfl
theorem Md_moreLoop {s : kS} {T t u : Nat} (x3 : Int32) (ht : t < T) (hT : T ≤ 240) (hu : u < T) (hut : u ≠ t) (hc : gN s 9 t < 12) (hpt : ∀ k, k < gN s 9 t → s.2.1 10 (12 * t + k) = nI (gN s 10 (12 * t + k)) ∧ gN s 10 (12 * t + k) < T ∧ gN s 10 (12 * t + k) ≠ t) : ∀ q n (b : kS), q ≤ gN s 9 t → MdH s b T t → b.2.1 30 = shf (s.2.1 10) (12 * t) (gN s 9 t) q →
    ∃ σ', σ'.1 = b.1 ∧ σ'.2.2 = b.2.2 ∧ (∀ j, j < 54 → j ≠ 30 → σ'.2.1 j = b.2.1 j) ∧ σ'.2.1 30 = shf (s.2.1 10) (12 * t) (gN s 9 t) (plc s t u q) ∧ M_Md_more_161 (n + q + 1) b (nI t) (nI u) x3 (nI q) = M_Md_more_220 σ' (nI t) (nI u) x3 (nI (plc s t u q)) := by
  intro q
  induction q with
  | zero =>
    intro n b _ _ h30
    refine ⟨b, rfl, rfl, fun _ _ _ => rfl, h30, ?_⟩
    show M_Md_more_161_b _ _ _ _ _ _ = _
    unfold M_Md_more_161_b
    rw [if_pos (show nI 0 ≤ 0 by decide)]
    rfl
  | succ q ih =>
    intro n b hq H h30
    obtain ⟨p1, p2, p3⟩ := hpt q (by omega)
    obtain ⟨σ', hs, hr⟩ := Md_compare_g H p2 p3 hu hut
    have e30 : σ'.2.1 30 = shf (s.2.1 10) (12 * t) (gN s 9 t) (q + 1) := (hs.2.2 30 (by decide) (by decide) (by decide)).trans h30
    have gj : ∀ j, j < 54 → σ'.2.1 j = b.2.1 j := fun j hj => hs.2.2 j (by omega) (by omega) (by omega)
    have start : M_Md_more_161 (n + (q + 1) + 1) b (nI t) (nI u) x3 (nI (q + 1)) = if cmpN s 21 (gN s 10 (12 * t + q)) u ≤ 0 then M_Md_more_220 σ' (nI t) (nI u) x3 (nI (q + 1)) else M_Md_more_161 (n + q + 1) (k_sA σ' 30 (shf (s.2.1 10) (12 * t) (gN s 9 t) q)) (nI t) (nI u) x3 (nI q) := by
      show M_Md_more_161_b (M_Md_more_161 (n + q + 1)) _ _ _ _ _ = _
      unfold M_Md_more_161_b
      rw [if_neg (show ¬ nI (q + 1) ≤ 0 from nI_ge (a := 0) (b := q + 1) (by omega) (by omega)), k_12i, show nI (12 * t + (q + 1)) - 1 = nI (12 * t + q) from nI_pred (12 * t + q), k_ld_n (by omega) (by omega), h30, shf_low (by omega), p1, k_call_s hr, k_ld_n (by omega) (by omega), k_st_x rfl (by omega) (by omega), k_let_r, k_m1, e30, shf_low (by omega), shf_step (by omega)]
    by_cases c : cmpN s 21 (gN s 10 (12 * t + q)) u ≤ 0
    · refine ⟨σ', hs.1, hs.2.1, fun j hj _ => gj j hj, ?_, ?_⟩
      · rw [e30, plc_s, if_pos c]
      · rw [start, if_pos c, plc_s, if_pos c]
    · have H2 : MdH s (k_sA σ' 30 (shf (s.2.1 10) (12 * t) (gN s 9 t) q)) T t := MdH_new H (gj 26 (by decide)) (gj 27 (by decide)) (gj 29 (by decide)) (fun v hv k hk => by
        show shf _ _ _ _ _ = _
        rw [h30, shf_out (by omega), shf_out (by omega)])
      obtain ⟨σ3, y1, y2, yj, y30, yr⟩ := ih n (k_sA σ' 30 (shf (s.2.1 10) (12 * t) (gN s 9 t) q)) (by omega) H2 rfl
      refine ⟨σ3, y1.trans hs.1, y2.trans hs.2.1, fun j hj h30 => (yj j hj h30).trans ((k_sA2 h30).trans (gj j hj)), ?_, ?_⟩
      · rw [y30, plc_s, if_neg c]
      · rw [start, if_neg c, yr, plc_s, if_neg c]
theorem Md_more220 {s b b0 : kS} {T t u p : Nat} (x3 : Int32) (hF : FI s T) (ht : t < T) (hu : u < T) (hut : u ≠ t) (hc : gN s 9 t < 12) (hp : p ≤ gN s 9 t) (h1 : b.1 = b0.1) (h2 : b.2.2 = b0.2.2) (hj : ∀ j, j < 54 → j ≠ 30 → b.2.1 j = b0.2.1 j) (h30 : b.2.1 30 = shf (b0.2.1 30) (12 * t) (gN s 9 t) p)
    (e31 : b0.2.1 31 = s.2.1 5) (e32 : b0.2.1 32 = s.2.1 6) (e33 : b0.2.1 33 = s.2.1 7) (e34 : b0.2.1 34 = s.2.1 8) (e29 : b0.2.1 29 = s.2.1 9) :
    ∃ σ', M_Md_more_220 b (nI t) (nI u) x3 (nI p) = some (1, σ') ∧ σ'.1 = b0.1 ∧ σ'.2.2 = b0.2.2 ∧ Moved b0 σ' 31 32 33 34 29 30 t u (gN s 9 t) p (mPl s t u) (mDp s t u) (gN s 8 t + gN s 8 u) := by
  obtain ⟨hT, e2, hz, htr⟩ := id hF
  obtain ⟨⟨a2, a3, a4, a5, a6, a7, a8, a9, a11⟩, ⟨b2, b3, b3a, b3b, b4, b5, b6, b7, b8, b8a, b9, b11, b9a⟩, hpt, -⟩ := htr t ht
  obtain ⟨⟨_, _, _, u5, _, u7, u8, _⟩, ⟨_, _, _, _, _, v5, _, v7, _⟩, _⟩ := htr u hu
  obtain ⟨s3, hs3⟩ : ∃ s3 : kS, s3 = k_sA (k_sA b 30 (upd (b.2.1 30) (12 * t + p) (nI u))) 29 (upd (b.2.1 29) t (nI (gN s 9 t + 1))) := ⟨_, rfl⟩
  have s3o : ∀ j, j ≠ 29 → j ≠ 30 → s3.2.1 j = b.2.1 j := fun j h h' => by rw [hs3, k_sA2 h, k_sA2 h']
  have s31 : s3.2.1 31 = s.2.1 5 := (s3o 31 (by decide) (by decide)).trans ((hj 31 (by decide) (by decide)).trans e31)
  have s33 : s3.2.1 33 = s.2.1 7 := (s3o 33 (by decide) (by decide)).trans ((hj 33 (by decide) (by decide)).trans e33)
  have s34 : s3.2.1 34 = s.2.1 8 := (s3o 34 (by decide) (by decide)).trans ((hj 34 (by decide) (by decide)).trans e34)
  have s32 : s3.2.1 32 = s.2.1 6 := (s3o 32 (by decide) (by decide)).trans ((hj 32 (by decide) (by decide)).trans e32)
  have fin : ∀ (pl : Nat) (y x4 : Int32), vp_nar .boolean y = nI pl → M_Md_more_275 s3 (nI t) (nI u) x3 x4 y (nI t) = some (1, k_sA (k_sA (k_sA (k_sA s3 31 (upd (s3.2.1 31) t (nI pl))) 34 (upd (s3.2.1 34) t (nI (gN s 8 t + gN s 8 u)))) 33 (upd (s3.2.1 33) t (nI (mDp s t u)))) 32 (upd (s3.2.1 32) u (nI 1))) := by
    intro pl y x4 hy
    unfold M_Md_more_275 M_Md_more_326
    have q34 : (k_sA s3 31 (upd (s3.2.1 31) t (nI pl))).2.1 34 = s.2.1 8 := s34
    have q33 : ∀ g, (k_sA (k_sA s3 31 (upd (s3.2.1 31) t (nI pl))) 34 g).2.1 33 = s.2.1 7 := fun g => s33
    rw [hy, k_st_x rfl (by omega) (by omega), k_ld_n (by omega) (by omega), k_ld_n (by omega) (by omega), k_st_x rfl (by omega) (by omega), k_ld_n (by omega) (by omega), k_ld_n (by omega) (by omega), q34, q33, a8, u8, a7, u7, nI_add, nI_1]
    by_cases c : gN s 7 u + 1 ≤ gN s 7 t
    · rw [if_pos (nI_le c (by omega)), k_st_x rfl (by omega) (by omega)]
      have e : mDp s t u = gN s 7 t := if_neg (by omega)
      rw [e, s33, s34, k_upd_id (f := s.2.1 7) a7]
      have idk : ∀ σ : kS, ∀ j g, σ.2.1 j = g → k_sA σ j g = σ := fun σ j g h => by
        unfold k_sA
        have : va_up σ.2.1 j g = σ.2.1 := by
          funext i
          by_cases e : i = j
          · rw [e, ← h]; exact if_pos rfl
          · exact if_neg e
        rw [this]
      rw [idk (k_sA (k_sA s3 31 (upd (s3.2.1 31) t (nI pl))) 34 (upd (s.2.1 8) t (nI (gN s 8 t + gN s 8 u)))) 33 (s.2.1 7) (q33 _)]
      rfl
    · rw [if_neg (nI_ge (by omega) (by omega)), k_ld_n (by omega) (by omega), u7, k_st_x rfl (by omega) (by omega), k_st_x rfl (by omega) (by omega), nI_1]
      have e : mDp s t u = gN s 7 u + 1 := if_pos (by omega)
      rw [e, s33, s34, q33]
      rfl
  refine ⟨k_sA (k_sA (k_sA (k_sA s3 31 (upd (s3.2.1 31) t (nI (mPl s t u)))) 34 (upd (s3.2.1 34) t (nI (gN s 8 t + gN s 8 u)))) 33 (upd (s3.2.1 33) t (nI (mDp s t u)))) 32 (upd (s3.2.1 32) u (nI 1)), ?_, by rw [hs3]; exact h1, by rw [hs3]; exact h2, ?_⟩
  · unfold M_Md_more_220
    rw [k_12i, k_st_x rfl (by omega) (by omega), k_ld_n (by omega) (by omega), k_st_x rfl (by omega) (by omega)]
    rw [show (k_sA b 30 (upd (b.2.1 30) (12 * t + p) (nI u))).2.1 29 t = nI (gN s 9 t) from (congrFun ((hj 29 (by decide) (by decide)).trans e29) t).trans a9, nI_1]
    rw [show (k_sA b 30 (upd (b.2.1 30) (12 * t + p) (nI u))).2.1 29 = b.2.1 29 from rfl, ← hs3]
    show (k_ld (s3.2.1 31) 240 (nI t) fun v4 => if v4 = 0 then (M_Md_more_274 s3 (nI t) (nI u) x3 (nI p) (nI t)) else (k_ld (s3.2.1 31) 240 (nI u) fun v6 => if v6 = 0 then (M_Md_more_274 s3 (nI t) (nI u) x3 (nI p) (nI t)) else (M_Md_more_275 s3 (nI t) (nI u) x3 (nI p) 1 (nI t)))) = _
    rw [k_ld_n (by omega) (by omega), k_ld_n (by omega) (by omega), s31, a5, u5]
    unfold M_Md_more_274
    have e0 := fin 0 0 (nI p) rfl
    have e1 := fin 1 1 (nI p) rfl
    rw [s31] at e0 e1
    unfold mPl
    by_cases c5 : gN s 5 t = 0
    · rw [if_pos c5, if_pos ((nI_z (by omega)).mpr c5)]
      exact e0
    · rw [if_neg c5, if_neg (fun h => c5 ((nI_z (by omega)).mp h))]
      by_cases d5 : gN s 5 u = 0
      · rw [if_pos d5, if_pos ((nI_z (by omega)).mpr d5)]
        exact e0
      · rw [if_neg d5, if_neg (fun h => d5 ((nI_z (by omega)).mp h))]
        exact e1
  · refine ⟨?_, ?_, ?_, ?_, ?_, ?_, fun j hj54 h5 h6 h7 h8 h9 h10 => ?_⟩
    · show upd (s3.2.1 31) _ _ = _
      rw [s3o 31 (by decide) (by decide), hj 31 (by decide) (by decide)]
    · show upd (s3.2.1 32) _ _ = _
      rw [s3o 32 (by decide) (by decide), hj 32 (by decide) (by decide)]
    · show upd (s3.2.1 33) _ _ = _
      rw [s3o 33 (by decide) (by decide), hj 33 (by decide) (by decide)]
    · show upd (s3.2.1 34) _ _ = _
      rw [s3o 34 (by decide) (by decide), hj 34 (by decide) (by decide)]
    · show s3.2.1 29 = _
      rw [hs3, k_sAs, hj 29 (by decide) (by decide)]
    · show s3.2.1 30 = _
      rw [hs3, k_sA2 (by decide), k_sAs, h30]
      rfl
    · rw [k_sA2 h6, k_sA2 h7, k_sA2 h8, k_sA2 h5, s3o j h9 h10, hj j hj54 h10]
theorem A_more {σ : kS} (h : Inv σ) (x y : Int32) : Agree 3 1 (M_SM_more σ x y) (fun s => M_Md_more s x y) := by
  obtain ⟨T, hF, hE, hR, hK⟩ := id h
  obtain ⟨hT, e2, hz, htr⟩ := id hF
  obtain ⟨f1, f2, f3, f4, f5, f6, f7, f8, f9, f10, f11, f12, f13⟩ := id hE
  have e11 : σ.1 11 = nI T := f1.trans e2
  have b3 : ∀ {x y}, M_SM_more σ x y = some ((3, 0), σ) → (∀ f, M_Md_more (k_sL σ f) x y = some (0, k_sS (k_sL σ f) 10 1)) → Agree 3 1 (M_SM_more σ x y) (fun s => M_Md_more s x y) := fun a b =>
    ⟨3, 0, σ, a, Or.inr (Or.inl rfl), fun f => ⟨0, k_sS (k_sL σ f) 10 1, b f, Inv_10 (Inv_L h f) 1, rfl, rfl, fun e => by cases e⟩⟩
  have m17 : ∀ f x y, M_Md_more_17 (k_sL σ f) x y = some (0, k_sS (k_sL σ f) 10 1) := fun f x y => by
    unfold M_Md_more_17 M_Md_more_22
    rw [k_thr1 (by decide)]
  rcases k_tree x hT with hx | ⟨t, ht, rfl⟩
  · refine b3 ?_ (fun f => ?_)
    · unfold M_SM_more
      rw [k_callx_n (n := 2) (k_reqTree0 e2 hx)]
    · unfold M_Md_more
      rw [k_call_s (k_noTree1 (σ := k_sL σ f) e11 hT hx), if_neg (by decide), m17 f]
  · rcases k_tree y hT with hy | ⟨u, hu, rfl⟩
    · refine b3 ?_ (fun f => ?_)
      · unfold M_SM_more
        rw [k_callx_0 (k_reqTree1 e2 hT ht), k_callx_n (n := 2) (k_reqTree0 e2 hy)]
      · unfold M_Md_more
        rw [k_call_s (k_noTree0 (σ := k_sL σ f) e11 hT ht), if_pos rfl, k_call_s (k_noTree1 (σ := k_sL σ f) e11 hT hy), if_neg (by decide), m17 f]
    · obtain ⟨⟨a2, a3, a4, a5, a6, a7, a8, a9, a11⟩, ⟨b2, b3', b3a, b3b, b4, b5, b6, b7, b8, b8a, b9, b11, b9a⟩, hpt, hsum, hpln, htest⟩ := id (htr t ht)
      obtain ⟨⟨u2, u3, u4, u5, u6, u7, u8, u9, u11⟩, ⟨v2, v3, v3a, v3b, v4, v5, v6, v7, v8, v8a, v9, v11, v9a⟩, hut, _⟩ := id (htr u hu)
      have hcl : M_SM_more σ (nI t) (nI u) = k_call (M_F_mayTake σ (nI t) (nI u)) fun v9 σ10 => if v9 = 0 then (some ((1, 0), σ10)) else (k_call (M_F_addPart σ10 (nI t) (nI u)) fun v13 σ14 => k_z (v13) (some ((0, v13), σ14))) := by
        unfold M_SM_more
        rw [k_callx_0 (k_reqTree1 e2 hT ht), k_callx_0 (k_reqTree1 e2 hT hu)]
      have hmd : ∀ s : kS, s.1 11 = nI T → M_Md_more s (nI t) (nI u) = M_Md_more_22 s (nI t) (nI u) 0 := fun s e => by
        unfold M_Md_more
        rw [k_call_s (k_noTree0 (σ := s) e hT ht), if_pos rfl, k_call_s (k_noTree0 (σ := s) e hT hu), if_pos rfl]
      let bad : Prop := gN σ 2 t ≠ 1 ∨ gN σ 6 t ≠ 0 ∨ u = t ∨ 20 ≤ gN σ 7 u ∨ 70 < gN σ 8 t + gN σ 8 u
      have i26 : ∀ s : kS, s.2.1 26 = σ.2.1 26 → s.2.1 26 t = nI (gN σ 2 t) := fun s e => by rw [e, f2]; exact a2
      have n1 : nI (gN σ 2 t) = 1 ↔ gN σ 2 t = 1 := by rw [show (1 : Int32) = nI 1 from rfl]; exact nI_eq (by omega) (by omega)
      have n6 : nI (gN σ 6 t) = 0 ↔ gN σ 6 t = 0 := nI_z (by omega)
      have nut : nI u = nI t ↔ u = t := nI_eq (by omega) (by omega)
      have n20 : 20 ≤ nI (gN σ 7 u) ↔ 20 ≤ gN σ 7 u := ⟨fun q => by
        refine Nat.le_of_not_lt (fun c => ?_)
        exact nI_ge (b := 20) c (by omega) q, fun q => nI_le (a := 20) q (by omega)⟩
      have n70 : nI (gN σ 8 t) + nI (gN σ 8 u) ≤ 70 ↔ gN σ 8 t + gN σ 8 u ≤ 70 := by
        rw [nI_add]
        exact ⟨fun q => Nat.le_of_not_lt (fun c => nI_ge (a := 70) c (by omega) q), fun q => nI_le (b := 70) q (by omega)⟩
      have n70' : 70 < nI (gN σ 8 t) + nI (gN σ 8 u) ↔ 70 < gN σ 8 t + gN σ 8 u := by
        rw [nI_add]
        exact ⟨fun q => Nat.lt_of_not_le (fun c => nI_nlt (a := 70) c (by omega) q), fun q => nI_lt (a := 70) q (by omega)⟩
      have hmay : M_F_mayTake σ (nI t) (nI u) = if gN σ 2 t = 1 then (if gN σ 6 t = 0 then (if u = t then some (0, σ) else (if 20 ≤ gN σ 7 u then some (0, σ) else (if 70 < gN σ 8 t + gN σ 8 u then some (0, σ) else some (1, σ)))) else some (0, σ)) else some (0, σ) := by
        unfold M_F_mayTake
        simp only [k_ld_n (show t < 240 by omega) (show 240 < 2 ^ 31 by omega), k_ld_n (show u < 240 by omega) (show 240 < 2 ^ 31 by omega)]
        rw [a2, a6, u7, a8, u8]
        simp only [n1, n6, nut, n20, n70']
      have m87 : ∀ s : kS, M_Md_more_87 (k_sS s 10 0) (nI t) (nI u) = some (0, k_sS s 10 2) := fun s => by
        unfold M_Md_more_87 M_Md_more_92
        rw [if_neg (by decide)]
        unfold M_Md_more_103
        rw [k_set_r, if_neg (by decide)]
        congr 2
        unfold k_sS
        congr 1
        funext i
        show upd (upd s.1 10 0) 10 2 i = upd s.1 10 2 i
        by_cases e : i = 10
        · rw [e, k_upd_s, k_upd_s]
        · rw [k_upd_n e, k_upd_n e, k_upd_n e]
      have hm22 : ∀ s : kS, s.2.1 26 = σ.2.1 26 → s.2.1 32 = σ.2.1 32 → s.2.1 33 = σ.2.1 33 → s.2.1 34 = σ.2.1 34 → M_Md_more_22 s (nI t) (nI u) 0 = if gN σ 2 t = 1 then (if gN σ 6 t = 0 then (if u = t then some (0, k_sS s 10 2) else (if 20 ≤ gN σ 7 u then some (0, k_sS s 10 2) else (if gN σ 8 t + gN σ 8 u ≤ 70 then M_Md_more_92 (k_sS s 10 0) (nI t) (nI u) 0 else some (0, k_sS s 10 2)))) else some (0, k_sS s 10 2)) else some (0, k_sS s 10 2) := fun s g1 g2 g3 g4 => by
        unfold M_Md_more_22
        rw [k_thr0]
        simp only [k_ld_n (show t < 240 by omega) (show 240 < 2 ^ 31 by omega), k_ld_n (show u < 240 by omega) (show 240 < 2 ^ 31 by omega), m87]
        rw [show (k_sS s 10 0).2.1 26 = _ from g1, show (k_sS s 10 0).2.1 32 = _ from g2, show (k_sS s 10 0).2.1 33 = _ from g3, show (k_sS s 10 0).2.1 34 = _ from g4, f2, f6, f7, f8, a2, a6, u7, a8, u8]
        simp only [n1, n6, nut, n20, n70]
      have b1 : M_F_mayTake σ (nI t) (nI u) = some (0, σ) → (∀ f, M_Md_more_22 (k_sL σ f) (nI t) (nI u) 0 = some (0, k_sS (k_sL σ f) 10 2)) → Agree 3 1 (M_SM_more σ (nI t) (nI u)) (fun s => M_Md_more s (nI t) (nI u)) := fun a b =>
        ⟨1, 0, σ, by rw [hcl, k_call_s a, if_pos rfl], Or.inr (Or.inr ⟨by decide, rfl⟩), fun f => ⟨0, k_sS (k_sL σ f) 10 2, (hmd (k_sL σ f) e11).trans (b f), Inv_10 (Inv_L h f) 2, rfl, rfl, fun e => by cases e⟩⟩
      by_cases c2 : gN σ 2 t = 1
      · by_cases c6 : gN σ 6 t = 0
        · by_cases cu : u = t
          · exact b1 (by rw [hmay, if_pos c2, if_pos c6, if_pos cu]) (fun f => by rw [hm22 (k_sL σ f) rfl rfl rfl rfl, if_pos c2, if_pos c6, if_pos cu])
          · by_cases c7 : 20 ≤ gN σ 7 u
            · exact b1 (by rw [hmay, if_pos c2, if_pos c6, if_neg cu, if_pos c7]) (fun f => by rw [hm22 (k_sL σ f) rfl rfl rfl rfl, if_pos c2, if_pos c6, if_neg cu, if_pos c7])
            · by_cases c8 : gN σ 8 t + gN σ 8 u ≤ 70
              · have may1 : M_F_mayTake σ (nI t) (nI u) = some (1, σ) := by rw [hmay, if_pos c2, if_pos c6, if_neg cu, if_neg c7, if_neg (by omega)]
                have h92 : ∀ s : kS, M_Md_more_92 (k_sS s 10 0) (nI t) (nI u) 0 = M_Md_more_103 (k_sS s 10 0) (nI t) (nI u) 0 0 := fun s => by
                  unfold M_Md_more_92
                  rw [if_pos rfl]
                have set0 : ∀ s : kS, k_sS (k_sS s 10 0) 10 0 = k_sS s 10 0 := fun s => by
                  unfold k_sS
                  congr 1
                  funext i
                  show upd (upd s.1 10 0) 10 0 i = upd s.1 10 0 i
                  by_cases e : i = 10
                  · rw [e, k_upd_s, k_upd_s]
                  · rw [k_upd_n e]
                by_cases c9 : gN σ 9 t = 12
                · refine ⟨0, 0, σ, ?_, Or.inl rfl, fun f => ⟨0, k_sS (k_sL σ f) 10 0, ?_, Inv_10 (Inv_L h f) 0, rfl, rfl, fun _ => rfl⟩⟩
                  · rw [hcl, k_call_s may1, if_neg (by decide)]
                    unfold M_F_addPart
                    rw [k_ld_n (by omega) (by omega), a9, c9, if_neg (by decide)]
                    rfl
                  · show M_Md_more (k_sL σ f) (nI t) (nI u) = _
                    rw [hmd (k_sL σ f) e11, hm22 (k_sL σ f) rfl rfl rfl rfl, if_pos c2, if_pos c6, if_neg cu, if_neg c7, if_pos c8, h92]
                    unfold M_Md_more_103
                    rw [k_set_r, set0, if_pos rfl, k_ld_n (by omega) (by omega), show (k_sS (k_sL σ f) 10 0).2.1 29 = σ.2.1 9 from f9, a9, c9, if_pos (show nI 12 = 12 from rfl)]
                · have hc : gN σ 9 t < 12 := by omega
                  obtain ⟨σ1, r1, q1, q2, m1⟩ := F_addPart hF ht hu cu c2 hc
                  have nj := m1.2.2.2.2.2.2
                  have hpl := plcOf_le σ t u
                  refine ⟨0, 1, σ1, ?_, Or.inl rfl, fun f => ?_⟩
                  · rw [hcl, k_call_s may1, if_neg (by decide), k_call_s r1]
                    rfl
                  · have g : ∀ j, j < 54 → j ≠ 5 → j ≠ 6 → j ≠ 7 → j ≠ 8 → j ≠ 9 → j ≠ 10 → (k_sS (k_sL σ1 f) 10 0).2.1 j = σ.2.1 j := nj
                    have g27 := (g 27 (by decide) (by decide) (by decide) (by decide) (by decide) (by decide) (by decide)).trans f3
                    have g26 := (g 26 (by decide) (by decide) (by decide) (by decide) (by decide) (by decide) (by decide)).trans f2
                    have g29 := (g 29 (by decide) (by decide) (by decide) (by decide) (by decide) (by decide) (by decide)).trans f9
                    have g30 := (g 30 (by decide) (by decide) (by decide) (by decide) (by decide) (by decide) (by decide)).trans f10
                    have g31 := (g 31 (by decide) (by decide) (by decide) (by decide) (by decide) (by decide) (by decide)).trans f5
                    have g32 := (g 32 (by decide) (by decide) (by decide) (by decide) (by decide) (by decide) (by decide)).trans f6
                    have g33 := (g 33 (by decide) (by decide) (by decide) (by decide) (by decide) (by decide) (by decide)).trans f7
                    have g34 := (g 34 (by decide) (by decide) (by decide) (by decide) (by decide) (by decide) (by decide)).trans f8
                    have part_ne : ∀ v, v < T → ∀ k, k < gN σ 9 v → gN σ 10 (12 * v + k) ≠ t := fun v hv k hk e => by
                      have := ((htr v hv).2.2.1 k hk).2.2.2
                      rw [e, c6] at this
                      omega
                    have H : MdH σ (k_sS (k_sL σ1 f) 10 0) T t := ⟨hT, fun v hv _ => ⟨htr v hv, part_ne v hv⟩, g26, g27, g29, fun v _ _ k _ => by rw [g30]⟩
                    obtain ⟨σ3, y1, y2, yj, y30, yr⟩ := Md_moreLoop 0 ht hT hu cu hc (fun k hk => ⟨(hpt k hk).1, (hpt k hk).2.1, part_ne t ht k hk⟩) (gN σ 9 t) (k_fu - gN σ 9 t - 1) _ (Nat.le_refl _) H (by rw [g30, shf_c])
                    rw [show k_fu - gN σ 9 t - 1 + gN σ 9 t + 1 = k_fu by unfold k_fu; omega] at yr
                    have run : ∃ b, b.1 = (k_sS (k_sL σ1 f) 10 0).1 ∧ b.2.2 = (k_sS (k_sL σ1 f) 10 0).2.2 ∧ (∀ j, j < 54 → j ≠ 30 → b.2.1 j = (k_sS (k_sL σ1 f) 10 0).2.1 j) ∧ b.2.1 30 = shf ((k_sS (k_sL σ1 f) 10 0).2.1 30) (12 * t) (gN σ 9 t) (plcOf σ t u) ∧ M_Md_more (k_sL σ1 f) (nI t) (nI u) = M_Md_more_220 b (nI t) (nI u) 0 (nI (plcOf σ t u)) := by
                      have pre : M_Md_more (k_sL σ1 f) (nI t) (nI u) = if gN σ 3 t < 5 then M_Md_more_220 (k_sS (k_sL σ1 f) 10 0) (nI t) (nI u) 0 (nI (gN σ 9 t)) else if gN σ 5 t = 0 then M_Md_more_220 (k_sS (k_sL σ1 f) 10 0) (nI t) (nI u) 0 (nI (gN σ 9 t)) else if gN σ 5 u = 0 then M_Md_more_220 (k_sS (k_sL σ1 f) 10 0) (nI t) (nI u) 0 (nI (gN σ 9 t)) else M_Md_more_161 k_fu (k_sS (k_sL σ1 f) 10 0) (nI t) (nI u) 0 (nI (gN σ 9 t)) := by
                        rw [hmd (k_sL σ1 f) (by show σ1.1 11 = _; rw [q1]; exact e11), hm22 (k_sL σ1 f) (nj 26 (by decide) (by decide) (by decide) (by decide) (by decide) (by decide) (by decide)) (nj 32 (by decide) (by decide) (by decide) (by decide) (by decide) (by decide) (by decide)) (nj 33 (by decide) (by decide) (by decide) (by decide) (by decide) (by decide) (by decide)) (nj 34 (by decide) (by decide) (by decide) (by decide) (by decide) (by decide) (by decide)), if_pos c2, if_pos c6, if_neg cu, if_neg c7, if_pos c8, h92]
                        unfold M_Md_more_103 M_Md_anyOrder
                        rw [k_set_r, set0, if_pos rfl]
                        simp only [k_ld_n (show t < 240 by omega) (show 240 < 2 ^ 31 by omega), k_ld_n (show u < 240 by omega) (show 240 < 2 ^ 31 by omega)]
                        rw [g29, g27, a9, a3, if_neg (show ¬ nI (gN σ 9 t) = 12 from fun e => c9 ((nI_eq (b := 12) (by omega) (by omega)).mp e))]
                        by_cases d3 : gN σ 3 t < 5
                        · rw [if_pos (show nI (gN σ 3 t) ≤ 4 from nI_le (b := 4) (by omega) (by omega)), k_call_s rfl, if_pos rfl, if_pos d3]
                        · rw [if_neg (show ¬ nI (gN σ 3 t) ≤ 4 from nI_ge (a := 4) (by omega) (by omega)), k_call_s rfl, if_neg (by decide), if_neg d3, g31, a5, u5]
                          simp only [show nI (gN σ 5 t) = 0 ↔ gN σ 5 t = 0 from nI_z (by omega), show nI (gN σ 5 u) = 0 ↔ gN σ 5 u = 0 from nI_z (by omega)]
                      rw [pre]
                      unfold plcOf
                      by_cases d3 : gN σ 3 t < 5
                      · rw [if_pos d3, if_pos d3]
                        exact ⟨_, rfl, rfl, fun _ _ _ => rfl, (shf_c _ _ _).symm, rfl⟩
                      · rw [if_neg d3, if_neg d3]
                        by_cases d5 : gN σ 5 t = 0
                        · rw [if_pos d5, if_pos d5]
                          exact ⟨_, rfl, rfl, fun _ _ _ => rfl, (shf_c _ _ _).symm, rfl⟩
                        · rw [if_neg d5, if_neg d5]
                          by_cases d6 : gN σ 5 u = 0
                          · rw [if_pos d6, if_pos d6]
                            exact ⟨_, rfl, rfl, fun _ _ _ => rfl, (shf_c _ _ _).symm, rfl⟩
                          · rw [if_neg d6, if_neg d6]
                            exact ⟨σ3, y1, y2, yj, by rw [g30]; exact y30, yr⟩
                    obtain ⟨b, w1, w2, wj, w30, wr⟩ := run
                    obtain ⟨σ2, r2, z1, z2, m2⟩ := Md_more220 (b0 := k_sS (k_sL σ1 f) 10 0) 0 hF ht hu cu hc hpl w1 w2 wj w30 g31 g32 g33 g34 g29
                    refine ⟨1, σ2, wr.trans r2, Inv_more f hF hE hR hK ht hu cu c2 c6 (by omega) c8 hc hpl q1 m1 z1 m2, z2, by rw [z1]; rfl, fun _ => rfl⟩
              · exact b1 (by rw [hmay, if_pos c2, if_pos c6, if_neg cu, if_neg c7, if_pos (by omega)]) (fun f => by rw [hm22 (k_sL σ f) rfl rfl rfl rfl, if_pos c2, if_pos c6, if_neg cu, if_neg c7, if_neg c8])
        · exact b1 (by rw [hmay, if_pos c2, if_neg c6]) (fun f => by rw [hm22 (k_sL σ f) rfl rfl rfl rfl, if_pos c2, if_neg c6])
      · exact b1 (by rw [hmay, if_neg c2]) (fun f => by rw [hm22 (k_sL σ f) rfl rfl rfl rfl, if_neg c2])
