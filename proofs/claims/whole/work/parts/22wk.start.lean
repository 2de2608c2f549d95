/-! both searches from their start -/
theorem Ar_fill28 (x : Int32) : ∀ m i f (σ : kS), i + m = 8 → ∃ F, M_Ar_fill_28_5 (f + m + 1) σ x (nI i) 8 = some (0, k_sA σ 21 F) ∧ (∀ k, i ≤ k → k < 8 → F k = x) ∧ ∀ k, k < i → F k = σ.2.1 21 k := by
  intro m
  induction m with
  | zero =>
    intro i f σ hi
    refine ⟨σ.2.1 21, ?_, fun k _ _ => by omega, fun _ _ => rfl⟩
    show M_Ar_fill_28_5_b (M_Ar_fill_28_5 (f + 0)) σ x _ 8 = _
    unfold M_Ar_fill_28_5_b
    rw [if_pos (show (8 : Int32) ≤ nI i from nI_le (a := 8) (by omega) (by omega)), sA_id]
  | succ m ih =>
    intro i f σ hi
    obtain ⟨F, r1, r2, r3⟩ := ih (i + 1) f (k_sA σ 21 (upd (σ.2.1 21) i x)) (by omega)
    refine ⟨F, ?_, fun k k1 k2 => ?_, fun k hk => ?_⟩
    · show M_Ar_fill_28_5_b (M_Ar_fill_28_5 (f + (m + 1))) σ x _ 8 = _
      unfold M_Ar_fill_28_5_b
      rw [if_neg (show ¬ (8 : Int32) ≤ nI i from nI_ge (b := 8) (by omega) (by omega)), k_st_x rfl (by omega) (by omega), k_let_r, nI_1]
      rw [sA_sA] at r1
      exact r1
    · by_cases e : k = i
      · rw [r3 k (by omega), k_sAs, e, k_upd_s]
      · exact r2 k (by omega) k2
    · rw [r3 k (by omega), k_sAs, k_upd_n (by omega)]
theorem Ar_fill30 (x : Int32) : ∀ m i f (σ : kS), i + m = 8 → ∃ F, M_Ar_fill_30_5 (f + m + 1) σ x (nI i) 8 = some (0, k_sA σ 23 F) ∧ (∀ k, i ≤ k → k < 8 → F k = x) ∧ ∀ k, k < i → F k = σ.2.1 23 k := by
  intro m
  induction m with
  | zero =>
    intro i f σ hi
    refine ⟨σ.2.1 23, ?_, fun k _ _ => by omega, fun _ _ => rfl⟩
    show M_Ar_fill_30_5_b (M_Ar_fill_30_5 (f + 0)) σ x _ 8 = _
    unfold M_Ar_fill_30_5_b
    rw [if_pos (show (8 : Int32) ≤ nI i from nI_le (a := 8) (by omega) (by omega)), sA_id]
  | succ m ih =>
    intro i f σ hi
    obtain ⟨F, r1, r2, r3⟩ := ih (i + 1) f (k_sA σ 23 (upd (σ.2.1 23) i x)) (by omega)
    refine ⟨F, ?_, fun k k1 k2 => ?_, fun k hk => ?_⟩
    · show M_Ar_fill_30_5_b (M_Ar_fill_30_5 (f + (m + 1))) σ x _ 8 = _
      unfold M_Ar_fill_30_5_b
      rw [if_neg (show ¬ (8 : Int32) ≤ nI i from nI_ge (b := 8) (by omega) (by omega)), k_st_x rfl (by omega) (by omega), k_let_r, nI_1]
      rw [sA_sA] at r1
      exact r1
    · by_cases e : k = i
      · rw [r3 k (by omega), k_sAs, e, k_upd_s]
      · exact r2 k (by omega) k2
    · rw [r3 k (by omega), k_sAs, k_upd_n (by omega)]
theorem Se_clear (σ : kS) : ∃ σ', M_Se_clear σ = some (0, σ') ∧ (∀ k, k ≠ 5 → k ≠ 6 → k ≠ 7 → k ≠ 9 → σ'.1 k = σ.1 k) ∧ σ'.1 5 = 0 ∧ σ'.1 6 = 0 ∧ σ'.1 7 = 0 ∧ σ'.1 9 = 0 ∧ (∀ k, k ≠ 21 → k ≠ 23 → σ'.2.1 k = σ.2.1 k) ∧ (∀ h, h < 8 → σ'.2.1 21 h = -1 ∧ σ'.2.1 23 h = -1) ∧ σ'.2.2 = σ.2.2 := by
  obtain ⟨F, r1, r2, _⟩ := Ar_fill28 (-1) 8 0 (k_fu - 9) (k_sS σ 9 0) (by omega)
  rw [show k_fu - 9 + 8 + 1 = k_fu by unfold k_fu; omega] at r1
  obtain ⟨H, q1, q2, _⟩ := Ar_fill30 (-1) 8 0 (k_fu - 9) (k_sA (k_sS σ 9 0) 21 F) (by omega)
  rw [show k_fu - 9 + 8 + 1 = k_fu by unfold k_fu; omega] at q1
  refine ⟨k_sS (k_sS (k_sS (k_sA (k_sA (k_sS σ 9 0) 21 F) 23 H) 5 0) 6 0) 7 0, ?_, fun k x5 x6 x7 x9 => ?_, rfl, rfl, rfl, rfl, fun k x21 x23 => ?_, fun h hh => ?_, rfl⟩
  · unfold M_Se_clear M_Mt_clear M_Nm_clear M_Ar_fill_28 M_Ar_fill_30
    have r1' : M_Ar_fill_28_5 k_fu (k_sS σ 9 0) (-1) 0 8 = some (0, k_sA (k_sS σ 9 0) 21 F) := r1
    have q1' : M_Ar_fill_30_5 k_fu (k_sA (k_sS σ 9 0) 21 F) (-1) 0 8 = some (0, k_sA (k_sA (k_sS σ 9 0) 21 F) 23 H) := q1
    rw [k_set_r, k_call_j, k_call_s r1', k_call_s q1', k_call_j, k_set_r, k_set_r, k_set_r]
  · rw [k_sSn x7, k_sSn x6, k_sSn x5, k_sA1, k_sA1, k_sSn x9]
  · rw [k_sS2, k_sS2, k_sS2, k_sA2 x23, k_sA2 x21]; rfl
  · rw [k_sS2, k_sS2, k_sS2, k_sAs, k_sA2 (by decide), k_sAs]
    exact ⟨r2 h (by omega) hh, q2 h (by omega) hh⟩
theorem Md_fill43 (x1 x2 x3 : Int32) : ∀ m i f (σ : kS), i + m = 8 → ∃ F, M_Md_search_43 (f + m + 1) σ x1 x2 x3 (nI i) = M_Md_search_43 (f + 1) (k_sA σ 42 F) x1 x2 x3 (nI 8) ∧ (∀ k, i ≤ k → k < 8 → F k = -1) ∧ ∀ k, k < i → F k = σ.2.1 42 k := by
  intro m
  induction m with
  | zero =>
    intro i f σ hi
    refine ⟨σ.2.1 42, ?_, fun k _ _ => by omega, fun _ _ => rfl⟩
    rw [show i = 8 by omega, sA_id]
  | succ m ih =>
    intro i f σ hi
    obtain ⟨F, r1, r2, r3⟩ := ih (i + 1) f (k_sA σ 42 (upd (σ.2.1 42) i (-1))) (by omega)
    refine ⟨F, ?_, fun k k1 k2 => ?_, fun k hk => ?_⟩
    · rw [sA_sA] at r1
      rw [← r1]
      show M_Md_search_43_b (M_Md_search_43 (f + (m + 1))) σ x1 x2 x3 _ = _
      unfold M_Md_search_43_b
      rw [if_neg (show ¬ (8 : Int32) ≤ nI i from nI_ge (b := 8) (by omega) (by omega)), k_st_x rfl (by omega) (by omega), k_let_r, nI_1]
      rfl
    · by_cases e : k = i
      · rw [r3 k (by omega), k_sAs, e, k_upd_s]
      · exact r2 k (by omega) k2
    · rw [r3 k (by omega), k_sAs, k_upd_n (by omega)]
def g00 : Nat → Nat → Nat := fun _ _ => 0
theorem SI_0 {s : kS} {T n : Nat} {W : Nat → Nat → Nat} (fr : Bool) (hn : 0 < n) : SI s T n W 0 fr g00 :=
  ⟨hn, fun i hi => by omega, fun i i0 hi => by omega, fun _ => rfl, fun _ _ _ _ => rfl, fun _ _ _ _ => (show (0 : Nat) = 0 ||| 0 by decide), fun h _ => ⟨⟨fun _ => rfl, fun _ => rfl⟩, Nat.zero_le _, fun x => absurd rfl x, fun k hk => absurd hk (Nat.not_lt_zero _), Nat.zero_le _⟩, fun _ h _ e => absurd (show (0 : Nat) = 1 from e) (by decide)⟩
/-- the model's search begins -/
theorem M_begin {s σ : kS} {T max : Nat} {W : Nat → Nat → Nat} (hM : SMd s σ) (x1 x2 : Int32) :
    ∃ σ2, M_Md_search σ x1 x2 (nI max) = M_Md_search_43 (k_fu - 9 + 1) σ2 x1 x2 (nI max) (nI 8) ∧ FmA σ σ2 ∧ σ2.1 16 = nI 0 ∧ σ2.1 17 = nI max ∧ σ2.1 18 = 0 ∧ σ2.1 19 = 0 ∧ σ2.1 14 = nI 0 ∧ σ2.1 20 = nI 0 ∧ RM s T W 0 false g00 g00 σ2 := by
  obtain ⟨σ1, hσ1⟩ : ∃ σ1, σ1 = k_sS (k_sS (k_sS (k_sS (k_sS (k_sS (k_sS (k_sS σ 17 (nI max)) 16 0) 18 0) 14 0) 19 0) 15 0) 20 0) 21 0 := ⟨_, rfl⟩
  obtain ⟨F, r1, r2, _⟩ := Md_fill43 x1 x2 (nI max) 8 0 (k_fu - 9) σ1 (by omega)
  rw [show k_fu - 9 + 8 + 1 = k_fu by unfold k_fu; omega] at r1
  have f1 : FmA σ σ1 := by
    rw [hσ1]
    exact FmA_tr (FmA_tr (FmA_tr (FmA_tr (FmA_tr (FmA_tr (FmA_tr (FmA_sS (by decide) _) (FmA_sS (by decide) _)) (FmA_sS (by decide) _)) (FmA_sS (by decide) _)) (FmA_sS (by decide) _)) (FmA_sS (by decide) _)) (FmA_sS (by decide) _)) (FmA_sS (by decide) _)
  have f2 : FmA σ (k_sA σ1 42 F) := FmA_tr f1 (FmA_sA (by decide) _)
  have ga : gaS s W g00 0 = 0 := by
    unfold gaS g00
    rw [if_neg (fun x => absurd x.2 (by decide))]
  refine ⟨k_sA σ1 42 F, ?_, f2, ?_, ?_, ?_, ?_, ?_, ?_, ⟨SMd_cong hM (fun k hk => f2.2.1 k (by omega)), ?_⟩, fun i i0 hi => by omega, fun i i0 hi => by omega, fun i i0 hi => by omega, fun i i0 hi => by omega, ?_, ?_, fun h hh => ⟨?_, Nat.zero_le _, fun k hk => absurd hk (Nat.not_lt_zero _)⟩⟩
  · rw [← r1, hσ1]
    rfl
  · rw [hσ1]; rfl
  · rw [hσ1]; rfl
  · rw [hσ1]; rfl
  · rw [hσ1]; rfl
  · rw [hσ1]; rfl
  · rw [hσ1]; rfl
  · rw [hσ1]; rfl
  · rw [ga, hσ1]; rfl
  · rw [ga]; rfl
  · rw [k_sAs]; exact r2 h (by omega) hh
/-- the class's search begins: its first slot takes the whole tree -/
theorem C_begin {s σ : kS} {T p w max : Nat} (hF : FI s T) (hS : SC s σ) (hp : p < T) (hw : w < T) :
    ∃ W n σ7, Plan s T n W ∧ 0 < n ∧ W 0 0 = p ∧ RC s T n W 0 false g00 σ7 ∧ FcA σ σ7 ∧ σ7.1 4 = nI w ∧ σ7.1 5 = nI 0 ∧ σ7.1 6 = 0 ∧ σ7.1 7 = 0 ∧ σ7.1 9 = nI 0 ∧
    M_Se_run σ (nI p) (nI w) (nI max) = if nI 0 < nI max then k_call (M_Se_makeTry σ7 (nI 0)) (fun v11 σ12 => M_Se_run_34 (k_fu - 1) σ12 (nI p) (nI w) (nI max) v11 (nI 1)) else some (0, k_sS σ7 7 1) := by
  obtain ⟨σ2, r, a0, a5, a6, a7, a9, ak, an, aL⟩ := Se_clear σ
  have hS2 : SC s σ2 := ⟨(a0 2 (by decide) (by decide) (by decide) (by decide)).trans hS.1, fun k hk => (ak k (by omega) (by omega)).trans (hS.2 k hk)⟩
  obtain ⟨W, σ5, n, l1, l2, l3, l4, l5, l6, hP⟩ := Pl_lay hF hS2 hp
  have hn0 : 0 < n := by
    have h1 := hP.2.2.1
    have h2 := T_size hF hP.2.1
    unfold enS at h1
    omega
  obtain ⟨σ8, hσ8⟩ : ∃ σ8, σ8 = k_sA (k_sS σ5 4 (nI w)) 14 (upd (σ5.2.1 14) 0 (-1)) := ⟨_, rfl⟩
  have e8 : ∀ k, k ≠ 14 → σ8.2.1 k = σ5.2.1 k := fun k hk => by rw [hσ8, k_sA2 hk]; rfl
  have s8 : ∀ k, k ≠ 4 → σ8.1 k = σ5.1 k := fun k hk => by rw [hσ8, k_sA1, k_sSn hk]
  have hS8 : SC s σ8 := by
    have := SC_chg hS2 l2
    exact ⟨(s8 2 (by decide)).trans this.1, fun k hk => (e8 k (by omega)).trans (this.2 k hk)⟩
  have n21 : ∀ h, h < 8 → σ8.2.1 21 h = nmI (g00 3 h) := fun h hh => by rw [e8 21 (by decide), l2.2.1 21 (by decide) (by decide) (by decide)]; exact (an h hh).1
  have n23 : ∀ h, h < 8 → σ8.2.1 23 h = nmI (g00 5 h) ∧ g00 5 h < 2 ^ 31 := fun h hh => ⟨by rw [e8 23 (by decide), l2.2.1 23 (by decide) (by decide) (by decide)]; exact (an h hh).2, by show 0 < 2 ^ 31; decide⟩
  have h180 : σ8.2.1 18 0 = nI (W 0 0) := by rw [e8 18 (by decide), l4, l5]
  obtain ⟨σ4, q, q1, q2, q3, q4⟩ := C_rel36 (W := W) (G := g00) hF hS8 (show 0 < 70 by omega) hP.2.1 h180 n21 n23
  have rg : relG s W 0 g00 = g00 := by
    unfold relG
    rw [if_neg (fun x => absurd (show (0 : Nat) = 0 + 1 from x.2) (by decide))]
  rw [rg] at q4
  obtain ⟨σ7, hσ7⟩ : ∃ σ7, σ7 = k_sA σ4 14 (upd (σ4.2.1 14) 0 1) := ⟨_, rfl⟩
  have e7 : ∀ k, k ≠ 14 → k ≠ 21 → k ≠ 23 → σ7.2.1 k = σ5.2.1 k := fun k h14 h21 h23 => by rw [hσ7, k_sA2 h14, q3 k h21 h23, e8 k h14]
  have s7 : ∀ k, k ≠ 4 → σ7.1 k = σ5.1 k := fun k hk => by rw [hσ7, k_sA1, q1, s8 k hk]
  have s72 : ∀ k, k ≠ 4 → k ≠ 8 → σ7.1 k = σ2.1 k := fun k h4 h8 => (s7 k h4).trans (l2.1 k h8)
  refine ⟨W, n, σ7, hP, hn0, l5, ⟨⟨?_, ?_, ?_, fun i i1 i2 => ?_⟩, ⟨fun i i0 hi => by omega, k_ft, k_ft, fun _ => ?_⟩, fun i hi => by omega, fun i i0 hi => by omega, fun h hh => ⟨?_, Nat.zero_le _, fun k hk => absurd hk (Nat.not_lt_zero _)⟩, fun h hh => ?_⟩, ⟨fun k hk => ?_, fun k hk => ?_, ?_⟩, ?_, ?_, ?_, ?_, ?_, ?_⟩
  · have := SC_chg hS2 l2
    exact ⟨(s7 2 (by decide)).trans this.1, fun k hk => (e7 k (by omega) (by omega) (by omega)).trans (this.2 k hk)⟩
  · rw [s7 8 (by decide)]; exact l3
  · rw [e7 18 (by decide) (by decide) (by decide), l4, l5]
  · rw [e7 18 (by decide) (by decide) (by decide), e7 19 (by decide) (by decide) (by decide), e7 20 (by decide) (by decide) (by decide)]
    exact l6 i i1 i2
  · rw [hσ7, k_sAs, k_upd_s]
  · rw [hσ7, k_sA2 (by decide)]; exact (q4 h hh).1
  · rw [hσ7, k_sA2 (by decide)]; exact (q4 h hh).2
  · rw [s72 k (by omega) (by omega)]; exact a0 k (by omega) (by omega) (by omega) (by omega)
  · rw [e7 k (by omega) (by omega) (by omega), l2.2.1 k (by omega) (by omega) (by omega)]; exact ak k (by omega) (by omega)
  · rw [hσ7, k_sA3, q2, hσ8, k_sA3]
    show σ5.2.2 = _
    rw [l2.2.2.2, aL]
  · rw [hσ7, k_sA1, q1, hσ8, k_sA1, k_sSs]
  · rw [s72 5 (by decide) (by decide)]; exact a5
  · rw [s72 6 (by decide) (by decide)]; exact a6
  · rw [s72 7 (by decide) (by decide)]; exact a7
  · rw [s72 9 (by decide) (by decide)]; exact a9
  · unfold M_Se_run
    have er : M_Se_release σ8 (nI 0) = some (0, σ4) := by
      unfold M_Se_release
      rw [if_pos (show nI 0 ≤ 0 by decide)]
      exact q
    have h14 : σ4.2.1 14 0 = -1 := by rw [q3 14 (by decide) (by decide), hσ8, k_sAs, k_upd_s]
    have ec : M_Se_choose σ4 (nI 0) = some (1, σ7) := by
      unfold M_Se_choose
      rw [if_pos (show nI 0 = 0 from rfl), k_ld_x (x := 0) (i := 0) rfl (by omega) (by omega), h14, if_pos rfl]
      unfold M_Se_choose_19
      rw [if_neg (by decide), k_st_x (x := 0) (i := 0) rfl (by omega) (by omega), k_z1, hσ7]
    rw [k_call_s r, k_call_s l1, k_set_r, k_st_x (x := 0) (i := 0) rfl (by omega) (by omega), k_sS2, ← hσ8]
    show M_Se_run_34_b (M_Se_run_34 (k_fu - 1)) σ8 (nI p) (nI w) (nI max) (nI 0) (nI 0) = _
    have s5 : σ7.1 5 = nI 0 := by rw [s72 5 (by decide) (by decide)]; exact a5
    unfold M_Se_run_34_b
    rw [if_neg (show ¬ (802 : Int32) ≤ nI 0 by decide), if_neg (show ¬ nI 0 < 0 by decide), k_call_s er, k_call_s ec, if_neg (by decide), s5]
    rfl
