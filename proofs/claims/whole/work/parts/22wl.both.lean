theorem M_none {σ : kS} {b : Nat} (h : σ.1 21 = nI 0) (y1 y2 y3 : Int32) : (k_call (M_Md_otherwise σ) fun v σ' => M_Md_search_96 (b + 1) σ' y1 y2 y3 v) = some (0, σ) := by
  have : M_Md_otherwise σ = some (-3, σ) := by
    show M_Md_otherwise_0_b (M_Md_otherwise_0 99999) σ = _
    unfold M_Md_otherwise_0_b
    rw [h, if_pos (show nI 0 ≤ 0 by decide)]
  rw [k_call_s this]
  exact Md_s3 b σ y1 y2 y3
/-- both searches, from equal trees, answer alike -/
theorem search_both {s σc σm : kS} {T p w max : Nat} (hF : FI s T) (hS : SC s σc) (hM : SMd s σm) (hp : p < T) (hw : w < T) (hmax : max ≤ 400) :
    ∃ σc' σm', M_Se_run σc (nI p) (nI w) (nI max) = some (0, σc') ∧ M_Md_search σm (nI p) (nI w) (nI max) = some (0, σm') ∧ Fin2 max σc σm σc' σm' := by
  obtain ⟨W, n, σ7, hP, hn0, w0, hC, fC, c4, c5, c6, c7, c9, crun⟩ := C_begin (max := max) hF hS hp hw
  obtain ⟨σ2, mrun, fM, m16, m17, m18, m19, m14, m20, hR⟩ := M_begin (T := T) (W := W) (max := max) hM (nI p) (nI w)
  have hI : SI s T n W 0 false g00 := SI_0 false hn0
  have hT := hF.1
  have h70 := hP.1
  have KR0 : KR σ7 σ2 := ⟨0, by omega, c9, m14, fun m hm => by omega⟩
  have S0 : Sc max 0 σ7 σ2 := ⟨Nat.zero_le _, c5, m16, m17, by rw [m18, c6], c7, m19, KR0⟩
  have step : M_Md_search_43 (k_fu - 9 + 1) σ2 (nI p) (nI w) (nI max) (nI 8) = k_call (M_Md_tries σ2) fun v2 σ3 => if v2 = 0 then some (0, σ3) else k_st σ3 57 12 0 (nI w) fun σ6 => k_call (M_Md_puts σ6 (nI p) 1 (-1)) fun v7 σ8 => if v7 = -2 then some (0, σ8) else M_Md_search_96 k_fu σ8 (nI p) (nI w) (nI max) v7 := by
    show M_Md_search_43_b (M_Md_search_43 (k_fu - 9)) σ2 _ _ _ _ = _
    unfold M_Md_search_43_b
    rw [if_pos (show (8 : Int32) ≤ nI 8 by decide)]
  rw [crun, mrun, step]
  by_cases hz : max = 0
  · refine ⟨k_sS σ7 7 1, k_sS σ2 19 1, ?_, ?_, ⟨?_, ?_, ?_, Or.inr k_sSs, ⟨0, Nat.zero_le _, ?_⟩, ?_⟩, FcA_tr fC (FcA_sS (by decide) _), FmA_tr fM (FmA_sS (by decide) _)⟩
    · rw [hz, if_neg (show ¬ nI 0 < nI 0 by decide)]
    · rw [k_call_s (Md_tries0 m16 m17 hz.symm), if_pos rfl]
    · rw [k_sSn (by decide), k_sSn (by decide), m16, c5]
    · rw [k_sSn (by decide), k_sSn (by decide), m18, c6]
    · rw [k_sSs, k_sSs]
    · rw [k_sSn (by decide)]; exact c5
    · exact KR_cong KR0 (k_sSn (by decide)) rfl rfl (k_sSn (by decide)) rfl rfl
  · have ht : 0 < max := by omega
    have Am : 2 * (max - (0 + 1)) + 0 + 2 ≤ 800 := by omega
    rw [if_pos (nI_lt ht (by omega))]
    -- the class's try
    have hg : M_Se_gatherRow (k_sS σ7 5 (σ7.1 5 + 1)) (nI 0) = some (0, gRow (k_sS σ7 5 (σ7.1 5 + 1)) (upd (σ7.2.1 17) 0 (nI w)) 1) := by
      unfold M_Se_gatherRow
      rw [if_pos (show nI 0 = 0 from rfl), k_st_x (x := 0) (i := 0) rfl (by omega) (by omega), k_set_r, k_sSn (by decide), c4]
      rfl
    obtain ⟨I2, σ9, f9, t0, t1, t2⟩ := C_try (R := fun _ => w) (m := 1) hF hP hI hC (by omega) (fun _ => rfl) (fun k hk => ⟨by rw [show k = 0 by omega, k_upd_s], hw⟩) hg
    rw [c5, nI_1] at f9
    -- the model's try
    obtain ⟨σ6, hσ6⟩ : ∃ σ6, σ6 = k_sA (k_sS σ2 16 (nI (0 + 1))) 57 (upd (σ2.2.1 57) 0 (nI w)) := ⟨_, rfl⟩
    have R6 : RM s T W 0 false g00 g00 σ6 := RM_cong (by rw [hσ6, k_sA1, k_sSn (by decide)]) (by rw [hσ6, k_sA1, k_sSn (by decide)]) (fun k hk _ _ => by rw [hσ6, k_sA2 (by omega)]; rfl) (fun x => by omega) hR
    have ga : gaS s W g00 0 = 0 := by
      unfold gaS g00
      rw [if_neg (fun x => absurd x.2 (by decide))]
    obtain ⟨σ8, u1, u2, u3, u4, u5⟩ := M_puts (R := fun _ => w) (m := 1) (q := 0) hF hP hI R6 ga (by omega) (fun _ => rfl) (fun k hk => ⟨by rw [hσ6, k_sAs, show k = 0 by omega, k_upd_s], hw⟩) (by rw [hσ6, k_sA1, k_sSn (by decide)]; exact m20) (by omega) (fun x => by omega) (-1)
    rw [w0] at u1
    have S9 : Sc max (0 + 1) σ9 σ8 := Sc_fr (Sc_try S0 ht) f9 (FrM_tr (by rw [hσ6]; exact FrM_sA (by decide) _) u2)
    have FC9 : FcA σc σ9 := FcA_tr (FcA_tr fC (FcA_sS (by decide) _)) (FcA_fr f9)
    have FM9 : FmA σm σ8 := by
      refine FmA_tr (FmA_tr fM ?_) (FmA_fr u2)
      rw [hσ6]; exact FmA_tr (FmA_sS (by decide) _) (FmA_sA (by decide) _)
    rw [k_call_s (Md_tries1 m16 m17 ht hmax), if_neg (by decide), k_st_x (x := 0) (i := 0) rfl (by omega) (by omega), k_sS2, ← hσ6, k_call_s (show M_Md_puts σ6 (nI p) 1 (-1) = _ from u1)]
    have cend : ∀ σ : kS, RC s T n W 0 false (tryG s W g00 0 (fun _ => w) 1) σ → ∃ σ', FrC σ σ' ∧ M_Se_run_34 (k_fu - 1) σ (nI p) (nI w) (nI max) (nI 0) (nI 1) = some (0, σ') := fun σ h => C_end hF hP I2 h (nI p) (nI w) (nI max) (k_fu - 3) 1 (by omega)
    have h21 : ∀ σ : kS, RM s T W 0 false (tryG s W g00 0 (fun _ => w) 1) g00 σ → σ.1 21 = nI 0 := fun σ h => h.1.2
    by_cases hv0 : fitV s W g00 0 (fun _ => w) 1 = 0
    · have ev : tryV s W g00 0 (fun _ => w) 1 = 0 := by unfold tryV; rw [if_pos hv0]
      obtain ⟨x1, x2⟩ := t0 ev
      obtain ⟨σ', e1, e2⟩ := cend σ9 x2
      refine ⟨σ', σ8, ?_, ?_, Fin2_tr (FcA_tr FC9 (FcA_fr e1)) FM9 (Sc_fin (Sc_fr S9 e1 (FrM_rfl _)))⟩
      · rw [k_call_s x1]; exact e2
      · rw [if_pos hv0, if_pos rfl]
    · obtain ⟨z1, z2⟩ := u5 hv0
      have eg : tryG s W g00 0 (fun _ => w) 1 = fitG s W g00 0 (fun _ => w) 1 := by unfold tryG; rw [if_neg hv0]
      have ev : tryV s W g00 0 (fun _ => w) 1 = endV s W (leftS s W (tryG s W g00 0 (fun _ => w) 1) 0) 0 := by unfold tryV; rw [if_neg hv0, eg]
      obtain ⟨b1, hb1, A0, A1, A2⟩ := M_after (q := 0) hF hP I2 u3 (fun x => by
        rw [eg]
        unfold fitG
        rw [if_neg x, gU_s]
        exact hw) (by rw [if_pos rfl]) z1 rfl (fun x => by omega) (fun x => by rw [eg]; exact z2 x) (nI p) (nI w) (nI max) (k_fu - 23) _ ev
      rw [show k_fu - 23 + 23 = k_fu by unfold k_fu; omega, show nvI g00 0 = -1 from rfl, w0] at A0 A1 A2
      have hb2 : 24000 + 61 ≤ b1 := by unfold k_fu at hb1; omega
      obtain ⟨b3, hb3⟩ : ∃ q, b1 = q + 1 := ⟨b1 - 1, by omega⟩
      have nv2 : ¬ (if gN s 2 p = 1 then nI 0 else (-1 : Int32)) = -2 := by
        by_cases y : gN s 2 p = 1
        · rw [if_pos y]; decide
        · rw [if_neg y]; decide
      rw [if_neg hv0, if_neg nv2]
      rcases ar_3 (tryV s W g00 0 (fun _ => w) 1) with v | v | v
      · obtain ⟨x1, x2⟩ := t0 v
        obtain ⟨σ', e1, e2⟩ := cend σ9 x2
        refine ⟨σ', σ8, ?_, ?_, Fin2_tr (FcA_tr FC9 (FcA_fr e1)) FM9 (Sc_fin (Sc_fr S9 e1 (FrM_rfl _)))⟩
        · rw [k_call_s x1]; exact e2
        · rw [A0 v, hb3]; exact M_none (h21 σ8 u3) (nI p) (nI w) (nI max)
      · obtain ⟨x1, x2, x3⟩ := t1 v
        obtain ⟨σa, σb, k1, k2, k3, k4, k5, k6, k7⟩ := both_found x2 u3 S9 (nI p) (nI w) (nI max) b1
        obtain ⟨σ', e1, e2⟩ := cend σa k3
        refine ⟨σ', σb, ?_, ?_, Fin2_tr (FcA_tr FC9 (FcA_tr k6 (FcA_fr e1))) (FmA_tr FM9 k7) (Sc_fin (Sc_fr k5 e1 (FrM_rfl _)))⟩
        · rw [x1, k_call_s k1]; exact e2
        · rw [A1 v, k2, hb3]; exact M_none (h21 σb k4) (nI p) (nI w) (nI max)
      · obtain ⟨x1, x2, x3⟩ := t2 v
        obtain ⟨σb, Q', k1, k2, k3⟩ := A2 v
        obtain ⟨σc', σm', e1, e2, e3⟩ := sim hF hP hmax (nI p) (nI w) (nI p) (nI w) (nI max) 800 0 true _ Q' (0 + 1) σ9 σb (k_fu - 1) 1 k_fu b1 x2 x3 k3 (Sc_fr S9 (FrC_rfl _) k1) Am (by omega) (by unfold k_fu; omega) (by unfold k_fu; omega) (by omega)
        refine ⟨σc', σm', ?_, ?_, Fin2_tr FC9 (FmA_tr FM9 (FmA_fr k1)) e3⟩
        · rw [k_call_s x1]; exact e1
        · rw [k2]; exact e2
