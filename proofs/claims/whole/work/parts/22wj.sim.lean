/-! the two searches, side by side -/
def FcA (σ σ' : kS) : Prop := (∀ k, k < 3 ∨ 9 < k → σ'.1 k = σ.1 k) ∧ (∀ k, k < 14 ∨ 25 < k → σ'.2.1 k = σ.2.1 k) ∧ σ'.2.2 = σ.2.2
def FmA (σ σ' : kS) : Prop := (∀ k, k < 14 ∨ 21 < k → σ'.1 k = σ.1 k) ∧ (∀ k, k < 40 ∨ 57 < k → σ'.2.1 k = σ.2.1 k) ∧ σ'.2.2 = σ.2.2
theorem FcA_rfl (σ : kS) : FcA σ σ := ⟨fun _ _ => rfl, fun _ _ => rfl, rfl⟩
theorem FmA_rfl (σ : kS) : FmA σ σ := ⟨fun _ _ => rfl, fun _ _ => rfl, rfl⟩
theorem FcA_tr {a b c : kS} (h : FcA a b) (g : FcA b c) : FcA a c := ⟨fun k x => (g.1 k x).trans (h.1 k x), fun k x => (g.2.1 k x).trans (h.2.1 k x), g.2.2.trans h.2.2⟩
theorem FmA_tr {a b c : kS} (h : FmA a b) (g : FmA b c) : FmA a c := ⟨fun k x => (g.1 k x).trans (h.1 k x), fun k x => (g.2.1 k x).trans (h.2.1 k x), g.2.2.trans h.2.2⟩
theorem FcA_fr {a b : kS} (h : FrC a b) : FcA a b := ⟨fun k x => h.1 k (by omega), fun k x => h.2.1 k (by omega) (by omega) (by omega) (by omega) (by omega) (by omega) (by omega), h.2.2⟩
theorem FmA_fr {a b : kS} (h : FrM a b) : FmA a b := ⟨fun k x => h.1 k (by omega) (by omega) (by omega), fun k x => h.2.1 k (by omega), h.2.2⟩
theorem FcA_sS {σ : kS} {k : Nat} (hk : 3 ≤ k ∧ k ≤ 9) (x : Int32) : FcA σ (k_sS σ k x) := ⟨fun q y => k_sSn (by omega), fun _ _ => rfl, rfl⟩
theorem FmA_sS {σ : kS} {k : Nat} (hk : 14 ≤ k ∧ k ≤ 21) (x : Int32) : FmA σ (k_sS σ k x) := ⟨fun q y => k_sSn (by omega), fun _ _ => rfl, rfl⟩
theorem FmA_sA {σ : kS} {k : Nat} (hk : 40 ≤ k ∧ k ≤ 57) (f : Nat → Int32) : FmA σ (k_sA σ k f) := ⟨fun _ _ => rfl, fun q y => k_sA2 (by omega), rfl⟩
theorem KR_cong {a b a' b' : kS} (h : KR a b) (e9 : a'.1 9 = a.1 9) (e24 : a'.2.1 24 = a.2.1 24) (e25 : a'.2.1 25 = a.2.1 25) (e14 : b'.1 14 = b.1 14) (e40 : b'.2.1 40 = b.2.1 40) (e41 : b'.2.1 41 = b.2.1 41) : KR a' b' := by
  unfold KR
  rw [e9, e24, e25, e14, e40, e41]
  exact h
/-- t tries of max are made, and both have found and kept the same -/
def Sc (max t : Nat) (σc σm : kS) : Prop := t ≤ max ∧ σc.1 5 = nI t ∧ σm.1 16 = nI t ∧ σm.1 17 = nI max ∧ σm.1 18 = σc.1 6 ∧ σc.1 7 = 0 ∧ σm.1 19 = 0 ∧ KR σc σm
theorem Sc_fr {max t : Nat} {a b a' b' : kS} (h : Sc max t a b) (f : FrC a a') (g : FrM b b') : Sc max t a' b' := by
  obtain ⟨h1, h2, h3, h4, h5, h6, h7, h8⟩ := h
  refine ⟨h1, ?_, ?_, ?_, ?_, ?_, ?_, KR_cong h8 (f.1 9 (by decide)) (f.2.1 24 (by decide) (by decide) (by decide) (by decide) (by decide) (by decide) (by decide)) (f.2.1 25 (by decide) (by decide) (by decide) (by decide) (by decide) (by decide) (by decide)) (g.1 14 (by decide) (by decide) (by decide)) (g.2.1 40 (by decide)) (g.2.1 41 (by decide))⟩
  · rw [f.1 5 (by decide)]; exact h2
  · rw [g.1 16 (by decide) (by decide) (by decide)]; exact h3
  · rw [g.1 17 (by decide) (by decide) (by decide)]; exact h4
  · rw [g.1 18 (by decide) (by decide) (by decide), f.1 6 (by decide)]; exact h5
  · rw [f.1 7 (by decide)]; exact h6
  · rw [g.1 19 (by decide) (by decide) (by decide)]; exact h7
theorem Sc_try {max t : Nat} {a b : kS} (h : Sc max t a b) (ht : t < max) : Sc max (t + 1) (k_sS a 5 (nI (t + 1))) (k_sS b 16 (nI (t + 1))) := by
  obtain ⟨h1, h2, h3, h4, h5, h6, h7, h8⟩ := h
  exact ⟨ht, k_sSs, k_sSs, by rw [k_sSn (by decide)]; exact h4, by rw [k_sSn (by decide), k_sSn (by decide)]; exact h5, by rw [k_sSn (by decide)]; exact h6, by rw [k_sSn (by decide)]; exact h7, KR_cong h8 (k_sSn (by decide)) rfl rfl (k_sSn (by decide)) rfl rfl⟩
def Fin2 (max : Nat) (a b a' b' : kS) : Prop := (b'.1 16 = a'.1 5 ∧ b'.1 18 = a'.1 6 ∧ b'.1 19 = a'.1 7 ∧ (a'.1 7 = 0 ∨ a'.1 7 = 1) ∧ (∃ t, t ≤ max ∧ a'.1 5 = nI t) ∧ KR a' b') ∧ FcA a a' ∧ FmA b b'
theorem Fin2_tr {max : Nat} {a b a1 b1 a' b' : kS} (f : FcA a a1) (g : FmA b b1) (h : Fin2 max a1 b1 a' b') : Fin2 max a b a' b' := ⟨h.1, FcA_tr f h.2.1, FmA_tr g h.2.2⟩
theorem Sc_fin {max t : Nat} {a b : kS} (h : Sc max t a b) : Fin2 max a b a b := by
  obtain ⟨h1, h2, h3, h4, h5, h6, h7, h8⟩ := h
  exact ⟨⟨by rw [h3, h2], h5, by rw [h7, h6], Or.inl h6, ⟨t, h1, h2⟩, h8⟩, FcA_rfl a, FmA_rfl b⟩
/-- the class at its first slot, for the second time: the end -/
theorem C_end {s σ : kS} {T n : Nat} {W G : Nat → Nat → Nat} (hF : FI s T) (hP : Plan s T n W) (hI : SI s T n W 0 false G) (hC : RC s T n W 0 false G σ) (x1 x2 x3 : Int32) (f x5 : Nat) (hx : x5 < 802) : ∃ σ', FrC σ σ' ∧ M_Se_run_34 (f + 2) σ x1 x2 x3 (nI 0) (nI x5) = some (0, σ') := by
  obtain ⟨σ2, r, r1, r2, r3, r4⟩ := C_rel36 (G := G) hF hC.1.1 (show 0 < 70 by omega) (P_tr hP hI.1) hC.1.2.2.1 (fun h hh => (hC.2.2.2.2.1 h hh).1) (fun h hh => ⟨hC.2.2.2.2.2 h hh, by have := (hI.2.2.2.2.2.2.1 h hh).2.1; omega⟩)
  have f2 : FrC σ σ2 := ⟨fun k _ => by rw [r1], fun k _ _ _ _ x21 _ x23 => r3 k x21 x23, r2⟩
  have h14 : σ2.2.1 14 0 = 1 := by rw [r3 14 (by decide) (by decide)]; exact hC.2.1.2.2.2 rfl
  refine ⟨k_sA σ2 14 (upd (σ2.2.1 14) 0 (-1)), FrC_tr f2 (FrC_sA (by decide) _), ?_⟩
  show M_Se_run_34_b (M_Se_run_34 (f + 1)) σ x1 x2 x3 _ _ = _
  unfold M_Se_run_34_b
  have er : M_Se_release σ (nI 0) = some (0, σ2) := by
    unfold M_Se_release
    rw [if_pos (show nI 0 ≤ 0 by decide)]
    exact r
  have ec : M_Se_choose σ2 (nI 0) = some (0, k_sA σ2 14 (upd (σ2.2.1 14) 0 (-1))) := by
    unfold M_Se_choose
    rw [if_pos (show nI 0 = 0 from rfl), k_ld_x (x := 0) (i := 0) rfl (by omega) (by omega), h14, if_neg (by decide)]
    unfold M_Se_choose_19
    rw [if_pos rfl, k_st_x (x := 0) (i := 0) rfl (by omega) (by omega), k_z0]
  rw [if_neg (show ¬ (802 : Int32) ≤ nI x5 from nI_ge (b := 802) (by omega) (by omega)), if_neg (show ¬ nI 0 < 0 by decide), k_call_s er, k_call_s ec, if_pos rfl, k_let_r, k_let_r]
  show M_Se_run_34_b (M_Se_run_34 f) _ x1 x2 x3 _ _ = _
  unfold M_Se_run_34_b
  rw [if_pos (c := nI 0 + -1 < 0) (by decide), ite_self]
theorem fitG_01 {s : kS} {W G : Nat → Nat → Nat} {j m k i : Nat} {R : Nat → Nat} (hk : k < 2) : fitG s W G j R m k i = G k i := by
  unfold fitG
  split
  · split
    · rw [gvG_k (by omega) (by omega) (by omega)]
    · rfl
  · rw [gU_k (by omega)]
theorem fitG_2 {s : kS} {W G : Nat → Nat → Nat} {j m i : Nat} {R : Nat → Nat} (hi : i ≠ j) : fitG s W G j R m 2 i = G 2 i := by
  unfold fitG
  split
  · split
    · rw [gvG_k (by omega) (by omega) (by omega)]
    · rfl
  · rw [gU_i hi]
theorem Md_tries1 {σ : kS} {t max : Nat} (h16 : σ.1 16 = nI t) (h17 : σ.1 17 = nI max) (ht : t < max) (hm : max ≤ 400) : M_Md_tries σ = some (1, k_sS σ 16 (nI (t + 1))) := by
  unfold M_Md_tries
  rw [h16, h17, if_neg (fun e => by have := (nI_eq (by omega) (by omega)).mp e; omega), k_set_r, nI_1]
theorem Md_tries0 {σ : kS} {t max : Nat} (h16 : σ.1 16 = nI t) (h17 : σ.1 17 = nI max) (ht : t = max) : M_Md_tries σ = some (0, k_sS σ 19 1) := by
  unfold M_Md_tries
  rw [h16, h17, ht, if_pos rfl, k_set_r]
theorem Md_s3 (b : Nat) (σ : kS) (x1 x2 x3 : Int32) : M_Md_search_96 (b + 1) σ x1 x2 x3 (-3) = some (0, σ) := by
  show M_Md_search_96_b (M_Md_search_96 b) σ x1 x2 x3 _ = _
  unfold M_Md_search_96_b
  rw [if_pos rfl]
/-- what both do after a match is found at slot j -/
theorem both_found {s σc σm : kS} {T n j max t : Nat} {W G Q : Nat → Nat → Nat} (hC : RC s T n W j false G σc) (hM : RM s T W j false G Q σm) (hS : Sc max t σc σm) (x1 x2 x3 : Int32) (b1 : Nat) :
    ∃ σc' σm', M_Mt_keep (k_sS σc 6 (σc.1 6 + 1)) = some (0, σc') ∧ M_Md_search_96 (b1 + 1) σm x1 x2 x3 (-1) = (k_call (M_Md_otherwise σm') fun v σ' => M_Md_search_96 b1 σ' x1 x2 x3 v) ∧ RC s T n W j false G σc' ∧ RM s T W j false G Q σm' ∧ Sc max t σc' σm' ∧ FcA σc σc' ∧ FmA σm σm' := by
  obtain ⟨h1, h2, h3, h4, h5, h6, h7, h8⟩ := hS
  obtain ⟨σc', σm', k1, k2, k3, ⟨k4, k5, k6⟩, k7, k8, k9, k10⟩ := keep_both (KR_cong (a' := k_sS σc 6 (σc.1 6 + 1)) h8 (k_sSn (by decide)) rfl rfl rfl rfl rfl) (show NmC (k_sS σc 6 (σc.1 6 + 1)) T (G 3) (G 4) from hC.2.2.2.2.1) hM.2.2.2.2.2.2.2
  refine ⟨σc', σm', k1, ?_, ?_, ?_, ⟨h1, ?_, ?_, ?_, ?_, ?_, ?_, k3⟩, ⟨fun k hk => ?_, fun k hk => ?_, k6⟩, ⟨fun k hk => k7 k (by omega) (by omega), fun k hk => k9 k (by omega) (by omega), k10⟩⟩
  · show M_Md_search_96_b (M_Md_search_96 b1) σm x1 x2 x3 _ = _
    unfold M_Md_search_96_b
    rw [if_neg (by decide), if_pos rfl, k_call_s k2]
  · exact RC_cong (by rw [k4 2 (by decide), k_sSn (by decide)]) (by rw [k4 8 (by decide), k_sSn (by decide)]) (fun k hk _ => by rw [k5 k (by omega) (by omega)]; rfl) hC
  · exact RM_cong (k7 21 (by decide) (by decide)) (k7 15 (by decide) (by decide)) (fun k hk h40 _ => k9 k (by omega) (by omega)) (fun _ k q1 q2 i _ => by rw [k9 k (by omega) (by omega)]) hM
  · rw [k4 5 (by decide), k_sSn (by decide)]; exact h2
  · rw [k7 16 (by decide) (by decide)]; exact h3
  · rw [k7 17 (by decide) (by decide)]; exact h4
  · rw [k8, k4 6 (by decide), k_sSs, h5]
  · rw [k4 7 (by decide), k_sSn (by decide)]; exact h6
  · rw [k7 19 (by decide) (by decide)]; exact h7
  · rw [k4 k (by omega), k_sSn (by omega)]
  · rw [k5 k (by omega) (by omega)]; rfl
theorem ar_a {max t j M : Nat} (h : 2 * (max - t) + j + 2 ≤ M + 1) (ht : t < max) : 2 * (max - (t + 1)) + j + 2 ≤ M := by omega
theorem ar_b {max t j M : Nat} (h : 2 * (max - t) + j + 2 ≤ M + 1) (ht : t < max) : 2 * (max - (t + 1)) + (j + 1) + 2 ≤ M := by omega
theorem ar_f {x M : Nat} (h : x + (M + 1) ≤ 801) : M + 2 ≤ k_fu := by unfold k_fu; omega
theorem ar_g {M b2 b1 : Nat} (h : 30 * (M + 1) + 60 ≤ b2 + 23) (h1 : b2 ≤ b1) : 30 * M + 60 ≤ b1 := by omega
theorem ar_3 (v : Nat) : v = 0 ∨ v = 1 ∨ 2 ≤ v := by omega
theorem sim {s : kS} {T n max : Nat} {W : Nat → Nat → Nat} (hF : FI s T) (hP : Plan s T n W) (hmax : max ≤ 400) (x1 x2 y1 y2 y3 : Int32) :
    ∀ M j fr G Q t (σc σm : kS) fc x5 a b, SI s T n W (j + 1) fr G → RC s T n W (j + 1) fr G σc → RM s T W (j + 1) fr G Q σm → Sc max t σc σm → 2 * (max - t) + j + 2 ≤ M → x5 + M ≤ 801 → M + 3 ≤ fc → M + 2 ≤ a → 30 * M + 60 ≤ b →
    ∃ σc' σm', M_Se_run_34 fc σc x1 x2 (nI max) (nI (j + 1)) (nI x5) = some (0, σc') ∧ (k_call (M_Md_otherwise_0 a σm) fun v σ => M_Md_search_96 b σ y1 y2 y3 v) = some (0, σm') ∧ Fin2 max σc σm σc' σm' := by
  have hn := hP.1
  intro M
  induction M with
  | zero => intro j fr G Q t σc σm fc x5 a b hI hC hM hS h1; omega
  | succ M ih =>
    intro j fr G Q t σc σm fc x5 a b hI hC hM hS h1 h2 h3 h4 h5
    have hj := hI.1
    have Ac : x5 + 1 + M ≤ 801 := by omega
    have Ah : 30 * M + 60 ≤ b := by omega
    have Ab : ∃ q, b = q + 23 := ⟨b - 23, by omega⟩
    obtain ⟨fc', rfl⟩ : ∃ q, fc = q + 1 := ⟨fc - 1, by omega⟩
    obtain ⟨a', rfl⟩ : ∃ q, a = q + 1 := ⟨a - 1, by omega⟩
    have Ad : M + 3 ≤ fc' := by omega
    have Ae : M + 2 ≤ a' := by omega
    have Af := ar_f h2
    have Aa := ar_a h1
    have Abb := ar_b h1
    have Aj : 0 < j + 1 := by omega
    have Aj2 : ¬ j + 1 = 0 := by omega
    have Aj70 : j + 1 < 70 := by omega
    have Aj5 : j < 500 := by omega
    obtain ⟨σ4, σ7, c1, c2, c3⟩ := C_choose hF hP hI hC
    obtain ⟨σ6, m1, m2, m3, m4, m5⟩ := M_choose hF hP hI hM (M_Md_otherwise_0 a')
    have S7 := Sc_fr hS c2 m1
    have hrun : ∀ v σ, M_Se_choose σ4 (nI (j + 1)) = some (v, σ) → M_Se_run_34 (fc' + 1) σc x1 x2 (nI max) (nI (j + 1)) (nI x5) = if v = 0 then M_Se_run_34 fc' σ x1 x2 (nI max) (nI j) (nI (x5 + 1)) else if σ.1 5 < nI max then k_call (M_Se_makeTry σ (nI (j + 1))) (fun v11 σ12 => M_Se_run_34 fc' σ12 x1 x2 (nI max) v11 (nI (x5 + 1))) else some (0, k_sS σ 7 1) := by
      intro v σ hch
      show M_Se_run_34_b (M_Se_run_34 fc') σc x1 x2 _ _ _ = _
      unfold M_Se_run_34_b
      rw [if_neg (show ¬ (802 : Int32) ≤ nI x5 from nI_ge (b := 802) (by omega) (by omega)), if_neg (nI_lt0 (by omega)), k_call_s c1, k_call_s hch, k_m1, nI_1]
      rfl
    have mrun : M_Md_otherwise_0 (a' + 1) σm = M_Md_otherwise_0_b (M_Md_otherwise_0 a') σm := rfl
    rw [mrun, m3]
    cases ho : nextC s (W 0 (W 1 (j + 1))) (W 0 (j + 1)) (avS s W G (j + 1)) fr (G 1 (j + 1)) with
    | none =>
      rw [ho] at c3
      obtain ⟨d1, d2⟩ := c3
      rw [hrun 0 σ7 d1, if_pos rfl]
      have fM : FrM σm (k_sS σ6 21 (nI j)) := FrM_tr m1 (FrM_sS (by decide) _)
      have SI' := SI_pop hI
      cases j with
      | zero =>
        obtain ⟨fc2, rfl⟩ : ∃ q, fc' = q + 2 := ⟨fc' - 2, by omega⟩
        obtain ⟨σ', e1, e2⟩ := C_end hF hP SI' d2 x1 x2 (nI max) fc2 (x5 + 1) (by omega)
        refine ⟨σ', k_sS σ6 21 (nI 0), e2, ?_, Fin2_tr (FcA_fr (FrC_tr c2 e1)) (FmA_fr fM) (Sc_fin (Sc_fr hS (FrC_tr c2 e1) fM))⟩
        obtain ⟨a2, rfl⟩ : ∃ q, a' = q + 1 := ⟨a' - 1, by omega⟩
        obtain ⟨b2, rfl⟩ : ∃ q, b = q + 1 := ⟨b - 1, by omega⟩
        have : M_Md_otherwise_0 (a2 + 1) (k_sS σ6 21 (nI 0)) = some (-3, k_sS σ6 21 (nI 0)) := by
          show M_Md_otherwise_0_b (M_Md_otherwise_0 a2) _ = _
          unfold M_Md_otherwise_0_b
          rw [k_sSs, if_pos (show nI 0 ≤ 0 by decide)]
        show k_call (M_Md_otherwise_0 (a2 + 1) (k_sS σ6 21 (nI 0))) _ = _
        rw [k_call_s this]
        exact Md_s3 b2 _ y1 y2 y3
      | succ j =>
        obtain ⟨σc', σm', e1, e2, e3⟩ := ih j false _ Q t σ7 (k_sS σ6 21 (nI (j + 1))) fc' (x5 + 1) a' b SI' d2 (m4 (by omega)) (Sc_fr hS c2 fM) (by omega) (by omega) (by omega) (by omega) (by omega)
        exact ⟨σc', σm', e1, e2, Fin2_tr (FcA_fr c2) (FmA_fr fM) e3⟩
    | some c =>
      rw [ho] at c3
      obtain ⟨d1, d2, d3⟩ := c3
      obtain ⟨S1, S2, S3, S4, S5, S6, S7', S8⟩ := S7
      rw [hrun 1 σ7 d1, if_neg (by decide), S2]
      by_cases ht : t = max
      · rw [if_neg (nI_nlt (by omega) (by omega))]
        refine ⟨k_sS σ7 7 1, k_sS σ6 19 1, rfl, ?_, ⟨?_, ?_, ?_, ?_, ⟨t, by omega, ?_⟩, ?_⟩, FcA_tr (FcA_fr c2) (FcA_sS (by decide) _), FmA_tr (FmA_fr m1) (FmA_sS (by decide) _)⟩
        · obtain ⟨b2, rfl⟩ : ∃ q, b = q + 1 := ⟨b - 1, by omega⟩
          show k_call (k_call (M_Md_tries σ6) _) _ = _
          rw [k_call_s (Md_tries0 S3 S4 ht), if_pos rfl, k_call_j]
          exact Md_s3 b2 _ y1 y2 y3
        · rw [k_sSn (by decide), k_sSn (by decide), S3, S2]
        · rw [k_sSn (by decide), k_sSn (by decide)]; exact S5
        · rw [k_sSs, k_sSs]
        · exact Or.inr k_sSs
        · rw [k_sSn (by decide)]; exact S2
        · exact KR_cong S8 (k_sSn (by decide)) rfl rfl (k_sSn (by decide)) rfl rfl
      · have ht' : t < max := by omega
        rw [if_pos (nI_lt ht' (by omega))]
        -- the try
        obtain ⟨G1, hG1⟩ : ∃ G1, G1 = gU (relG s W (j + 1) G) 1 (j + 1) c := ⟨_, rfl⟩
        have I1 : SI s T n W (j + 1) false G1 := by rw [hG1]; exact SI_take hF hP hI d2
        have g1c : G1 1 (j + 1) = c := by rw [hG1, gU_s]
        rw [← hG1] at d3
        obtain ⟨R, hRd⟩ : ∃ R, R = rowF s (G1 2 (W 1 (j + 1))) (G1 1 (j + 1)) 12 := ⟨_, rfl⟩
        obtain ⟨m, hmd⟩ : ∃ m, m = pop 12 (G1 1 (j + 1)) := ⟨_, rfl⟩
        obtain ⟨⟨⟨p1, p2, p3, p4, p5⟩, _⟩⟩ : _ ∧ True := ⟨hP.2.2.2.2 (j + 1) Aj hj, trivial⟩
        obtain ⟨v1, v2, v3⟩ := SI_av hF hP I1 Aj (Nat.le_refl _)
        have hla := I1.2.2.1 (j + 1) Aj (Nat.le_refl _) (fun _ => rfl)
        obtain ⟨hm12, hm1⟩ := LaOK_m hla
        have hcb : ∀ k, k < 12 → G1 1 (j + 1) / 2 ^ k % 2 = 1 → k < gN s 9 (G1 2 (W 1 (j + 1))) := fun k hk hb => bit_cb hla.2.1 (u := G1 0 (j + 1)) rfl hk hb
        have hRT : ∀ k, k < m → R k < T := fun k hk => by rw [hRd]; rw [hmd] at hk; exact rowF_lt hF v1 hcb 12 (Nat.le_refl _) k hk
        have C5 : RC s T n W (j + 1) false G1 (k_sS σ7 5 (σ7.1 5 + 1)) := RC_cong (k_sSn (by decide)) (k_sSn (by decide)) (fun _ _ _ => rfl) d3
        obtain ⟨g, q1, q2⟩ := Se_gather hF C5.1.1 Aj70 (Nat.lt_trans p2 Aj70) Aj v1 (C5.1.2.2.2 (j + 1) Aj hj).2.1 (C5.2.2.1 (W 1 (j + 1)) p2 (by rw [W_node hF hP Aj hj]; decide)) (C5.2.1.1 (j + 1) Aj (Nat.le_refl _) (fun _ => rfl)) hla.1 hcb
        rw [← hmd] at q1 q2 hm12 hm1
        rw [← hRd] at q2
        obtain ⟨I2, σ9, f9, t0, t1, t2⟩ := C_try (R := R) (m := m) hF hP I1 d3 hm12 hm1 (fun k hk => ⟨q2 k hk, hRT k hk⟩) q1
        rw [S2, nI_1] at f9
        -- the model's try
        have ga1 : gaS s W G1 (j + 1) = 0 := by rw [hG1, gaS_take, gaS_rel0]
        have M5 := m5 c (nI (t + 1))
        rw [← hG1] at M5
        obtain ⟨σ18, h18⟩ : ∃ σ18, σ18 = k_sA (k_sS σ6 16 (nI (t + 1))) 51 (upd (σ6.2.1 51) j (nI (mv 12 c))) := ⟨_, rfl⟩
        rw [← h18] at M5
        have h20 : σ18.1 20 = nI (Q 0 (j + 1)) := by rw [h18, k_sA1, k_sSn (by decide)]; exact m2
        obtain ⟨σ19, f19, u1, u2, u3⟩ := M_try (R := R) (m := m) hF hP I1 M5 ga1 h20 (M_Md_otherwise_0 a') hRd hmd
        rw [g1c] at u1
        have S9 : Sc max (t + 1) σ9 σ19 := Sc_fr (Sc_try ⟨S1, S2, S3, S4, S5, S6, S7', S8⟩ ht') f9 (FrM_tr (by rw [h18]; exact FrM_sA (by decide) _) f19)
        have FC9 : FcA σc σ9 := FcA_tr (FcA_tr (FcA_fr c2) (FcA_sS (by decide) _)) (FcA_fr f9)
        have FM9 : FmA σm σ19 := by
          refine FmA_tr (FmA_tr (FmA_fr m1) ?_) (FmA_fr f19)
          rw [h18]; exact FmA_tr (FmA_sS (by decide) _) (FmA_sA (by decide) _)
        have mo : ∀ K : Int32 → kS → Option (Int32 × kS), k_call (k_call (M_Md_tries σ6) fun v14 σ15 => if v14 = 0 then some (-3, σ15) else k_st σ15 51 500 (nI j) (nI (mv 12 c)) fun σ18 => M_Md_otherwise_89 (M_Md_otherwise_0 a') k_fu σ18 (nI j) (nI (Q 1 (j + 1))) (nI (mv 12 c)) 0 0) K = k_call (if fitV s W G1 (j + 1) R m = 0 then M_Md_otherwise_0 a' σ19 else some (if gN s 2 (W 0 (j + 1)) = 1 then nI (Q 0 (j + 1) + 1) else nI (Q 0 (j + 1)), σ19)) K := by
          intro K
          rw [k_call_s (Md_tries1 S3 S4 ht' hmax), if_neg (by decide), k_st_x rfl Aj5 (by decide), k_sS2, ← h18, u1]
        show ∃ σc' σm', _ ∧ k_call (k_call (M_Md_tries σ6) _) _ = _ ∧ _
        rw [mo]
        by_cases hv0 : fitV s W G1 (j + 1) R m = 0
        · have ev : tryV s W G1 (j + 1) R m = 0 := by unfold tryV; rw [if_pos hv0]
          obtain ⟨w1, w2⟩ := t0 ev
          obtain ⟨σc', σm', e1, e2, e3⟩ := ih j false _ Q (t + 1) σ9 σ19 fc' (x5 + 1) a' b I2 w2 u2 S9 (Aa ht') Ac Ad Ae Ah
          refine ⟨σc', σm', ?_, ?_, Fin2_tr FC9 FM9 e3⟩
          · rw [k_call_s w1]; exact e1
          · rw [if_pos hv0]; exact e2
        · obtain ⟨z1, z2, z3⟩ := u3 hv0
          have eg : tryG s W G1 (j + 1) R m = fitG s W G1 (j + 1) R m := by unfold tryG; rw [if_neg hv0]
          have ev : tryV s W G1 (j + 1) R m = endV s W (leftS s W (tryG s W G1 (j + 1) R m) (j + 1)) (j + 1) := by unfold tryV; rw [if_neg hv0, eg]
          obtain ⟨b2, rfl⟩ := Ab
          obtain ⟨b1, hb1, A0, A1, A2⟩ := M_after (q := Q 0 (j + 1) + 1) hF hP I2 u2 (fun x => by
            rw [eg]
            unfold fitG
            rw [if_neg x, gU_s]
            exact hRT 0 (by rw [hm1 (fun y => x y.1)]; decide)) (by rw [if_neg Aj2]) z1 rfl (fun _ => by
            rw [eg, fitG_2 (Nat.ne_of_lt p2), fitG_01 (by decide), fitG_01 (by decide)]; exact z3) (fun x => by
            rw [eg, show nvI Q (j + 1) = nI (Q 0 (j + 1)) from if_neg Aj2]; exact z2 x) y1 y2 y3 b2 _ ev
          rw [show nvI Q (j + 1) = nI (Q 0 (j + 1)) from if_neg Aj2] at A0 A1 A2
          rw [if_neg hv0, k_call_j]
          rcases ar_3 (tryV s W G1 (j + 1) R m) with v | v | v
          · obtain ⟨w1, w2⟩ := t0 v
            obtain ⟨σc', σm', e1, e2, e3⟩ := ih j false _ Q (t + 1) σ9 σ19 fc' (x5 + 1) k_fu b1 I2 w2 u2 S9 (Aa ht') Ac Ad Af (ar_g h5 hb1)
            refine ⟨σc', σm', ?_, ?_, Fin2_tr FC9 FM9 e3⟩
            · rw [k_call_s w1]; exact e1
            · rw [A0 v]; exact e2
          · obtain ⟨w1, w2, w3⟩ := t1 v
            obtain ⟨σa, σb, k1, k2, k3, k4, k5, k6, k7⟩ := both_found w2 u2 S9 y1 y2 y3 b1
            obtain ⟨σc', σm', e1, e2, e3⟩ := ih j false _ Q (t + 1) σa σb fc' (x5 + 1) k_fu b1 I2 k3 k4 k5 (Aa ht') Ac Ad Af (ar_g h5 hb1)
            refine ⟨σc', σm', ?_, ?_, Fin2_tr (FcA_tr FC9 k6) (FmA_tr FM9 k7) e3⟩
            · rw [w1, k_call_s k1]; exact e1
            · rw [A1 v, k2]; exact e2
          · obtain ⟨w1, w2, w3⟩ := t2 v
            obtain ⟨σb, Q', k1, k2, k3⟩ := A2 v
            obtain ⟨σc', σm', e1, e2, e3⟩ := ih (j + 1) true _ Q' (t + 1) σ9 σb fc' (x5 + 1) k_fu b1 w2 w3 k3 (Sc_fr S9 (FrC_rfl _) k1) (Abb ht') Ac Ad Af (ar_g h5 hb1)
            refine ⟨σc', σm', ?_, ?_, Fin2_tr FC9 (FmA_tr FM9 (FmA_fr k1)) e3⟩
            · rw [k_call_s w1]; exact e1
            · rw [k2]; exact e2
