/-! the model's state at slot j. Q 0: the first free goal when slot i was reached, Q 1: the goal of slot i, Q 2: how many names were bound -/
def gaS (s : kS) (W G : Nat → Nat → Nat) (i : Nat) : Nat := if gN s 2 (W 0 i) = 2 ∧ G 5 (gN s 3 (W 0 i)) = i + 1 then 1 else 0
def nvI (Q : Nat → Nat → Nat) (a : Nat) : Int32 := if a = 0 then -1 else nI (Q 0 a)
def nmN (G : Nat → Nat → Nat) : Nat := psum (fun h => if G 3 h = 0 then 0 else 1) 0 8
def RM (s : kS) (T : Nat) (W : Nat → Nat → Nat) (j : Nat) (fr : Bool) (G Q : Nat → Nat → Nat) (σ : kS) : Prop :=
  (SMd s σ ∧ σ.1 21 = nI j) ∧
  (∀ i, 0 < i → i ≤ j → (σ.2.1 50 (i - 1) = nI (Q 1 i) ∧ σ.2.1 52 (i - 1) = nI (Q 2 i) ∧ σ.2.1 53 (i - 1) = nI (Q 0 i)) ∧ Q 1 i < Q 0 i ∧ Q 0 i < 2 * i ∧ Goal σ (Q 1 i) (W 0 (W 1 i)) (G 2 (W 1 i)) (W 2 i) (G 0 i) (nvI Q (W 1 i))) ∧
  (∀ i, 0 < i → i ≤ j → σ.2.1 51 (i - 1) = if i = j ∧ fr = true then -1 else nI (mv 12 (G 1 i))) ∧
  (∀ i, 0 < i → i < j → Q 0 i < Q 0 (i + 1) ∧ Goal σ (Q 0 i) (W 0 (W 1 i)) (G 2 (W 1 i)) (W 2 i + 1) (G 0 i ||| G 1 i) (nvI Q (W 1 i)) ∧ Q 2 (i + 1) = Q 2 i + gaS s W G i) ∧
  (∀ i, 0 < i → i ≤ j → gaS s W G i = 1 → σ.2.1 44 (Q 2 i) = nI (gN s 3 (W 0 i))) ∧
  σ.1 15 = nI (Q 2 j + gaS s W G j) ∧ Q 2 j + gaS s W G j = nmN G ∧ NmM σ T (G 3) (G 4)
theorem psum_chg {f g : Nat → Nat} {h : Nat} (he : ∀ i, i ≠ h → f i = g i) : ∀ m k, k ≤ h → h < k + m → psum f k m + g h = psum g k m + f h := by
  have same : ∀ m k, h < k → psum f k m = psum g k m := by
    intro m
    induction m with
    | zero => intro k _; rfl
    | succ m ih =>
      intro k hk
      show f k + psum f (k + 1) m = g k + psum g (k + 1) m
      rw [he k (by omega), ih (k + 1) (by omega)]
  intro m
  induction m with
  | zero => intro k h1 h2; omega
  | succ m ih =>
    intro k h1 h2
    show f k + psum f (k + 1) m + g h = g k + psum g (k + 1) m + f h
    by_cases e : k = h
    · rw [e, same m (h + 1) (by omega)]; omega
    · rw [he k e]
      have := ih (k + 1) (by omega) (by omega)
      omega
theorem psum_le1 {f : Nat → Nat} (he : ∀ i, f i ≤ 1) : ∀ m k, psum f k m ≤ m := by
  intro m
  induction m with
  | zero => intro k; exact Nat.le_refl _
  | succ m ih =>
    intro k
    show f k + psum f (k + 1) m ≤ m + 1
    have := he k
    have := ih (k + 1)
    omega
theorem nmN_le (G : Nat → Nat → Nat) : nmN G ≤ 8 := psum_le1 (fun i => by show (if _ then _ else _) ≤ 1; split <;> omega) 8 0
theorem nmN_chg {G G' : Nat → Nat → Nat} {h : Nat} (hh : h < 8) (he : ∀ i, i ≠ h → G' 3 i = G 3 i) : nmN G' + (if G 3 h = 0 then 0 else 1) = nmN G + (if G' 3 h = 0 then 0 else 1) := by
  exact psum_chg (f := fun h => if G' 3 h = 0 then 0 else 1) (g := fun h => if G 3 h = 0 then 0 else 1) (h := h) (fun i hi => by show (if _ then _ else _) = (if _ then _ else _); rw [he i hi]) 8 0 (Nat.zero_le _) (by omega)
/-- there is room for a name that holds nothing -/
theorem nmN_lt {G : Nat → Nat → Nat} {h : Nat} (hh : h < 8) (h0 : G 3 h = 0) : nmN G < 8 := by
  have h1 := nmN_chg (G := G) (G' := gU G 3 h 1) hh (fun i hi => gU_i hi)
  have h2 := nmN_le (gU G 3 h 1)
  rw [if_pos h0, gU_s, if_neg (by decide)] at h1
  omega
theorem RM_mono {s : kS} {T j : Nat} {W G Q : Nat → Nat → Nat} {fr : Bool} {σ : kS} (h : RM s T W j fr G Q σ) : ∀ d i, 0 < i → i + d = j → Q 0 i + d ≤ Q 0 j := by
  intro d
  induction d with
  | zero => intro i _ e; rw [← e]; exact Nat.le_refl _
  | succ d ih =>
    intro i i0 e
    have h1 := ih (i + 1) (by omega) (by omega)
    have h2 := (h.2.2.2.1 i i0 (by omega)).1
    omega
theorem Goal_cong {σ σ' : kS} {g P B k u L : Nat} {v : Int32} (hg : g < L) (he : ∀ q, 45 ≤ q → q ≤ 49 → ∀ i, i < L → σ'.2.1 q i = σ.2.1 q i) (h : Goal σ g P B k u v) : Goal σ' g P B k u v := by
  obtain ⟨h1, h2, h3, h4, h5⟩ := h
  refine ⟨?_, ?_, ?_, ?_, ?_⟩
  all_goals (rw [he _ (by decide) (by decide) g hg]; assumption)
theorem SMd_cong {s σ σ' : kS} (h : SMd s σ) (e : ∀ k, k < 40 → σ'.2.1 k = σ.2.1 k) : SMd s σ' := by
  obtain ⟨⟨a1, a2, a3, a4, a5⟩, b1, b2, b3⟩ := h
  refine ⟨⟨?_, ?_, ?_, ?_, ?_⟩, ?_, ?_, ?_⟩
  all_goals (rw [e _ (by decide)]; assumption)
theorem NmM_cong {σ σ' : kS} {T : Nat} {N V : Nat → Nat} (h : NmM σ T N V) (e42 : σ'.2.1 42 = σ.2.1 42) (e43 : σ'.2.1 43 = σ.2.1 43) : NmM σ' T N V := fun q hq => by rw [e42, e43]; exact h q hq
theorem RM_cong {s : kS} {T j : Nat} {W G Q : Nat → Nat → Nat} {fr : Bool} {σ σ' : kS} (e21 : σ'.1 21 = σ.1 21) (e15 : σ'.1 15 = σ.1 15) (ek : ∀ k, k < 54 → ¬ (40 ≤ k ∧ k ≤ 41) → ¬ (45 ≤ k ∧ k ≤ 49) → σ'.2.1 k = σ.2.1 k) (eg : 0 < j → ∀ q, 45 ≤ q → q ≤ 49 → ∀ i, i < Q 0 j → σ'.2.1 q i = σ.2.1 q i) (h : RM s T W j fr G Q σ) : RM s T W j fr G Q σ' := by
  have hmo := RM_mono h
  obtain ⟨⟨a1, a2⟩, b, c, d, e, f1, f2, f3⟩ := h
  refine ⟨⟨SMd_cong a1 (fun k hk => ek k (by omega) (by omega) (by omega)), e21.trans a2⟩, fun i i0 hi => ?_, fun i i0 hi => ?_, fun i i0 hi => ?_, fun i i0 hi hx => ?_, e15.trans f1, f2, NmM_cong f3 (ek 42 (by decide) (by decide) (by decide)) (ek 43 (by decide) (by decide) (by decide))⟩
  · obtain ⟨b1, b2, b3, b4⟩ := b i i0 hi
    have := hmo (j - i) i i0 (by omega)
    rw [ek 50 (by decide) (by decide) (by decide), ek 52 (by decide) (by decide) (by decide), ek 53 (by decide) (by decide) (by decide)]
    exact ⟨b1, b2, b3, Goal_cong (L := Q 0 j) (by omega) (eg (by omega)) b4⟩
  · rw [ek 51 (by decide) (by decide) (by decide)]; exact c i i0 hi
  · obtain ⟨d1, d2, d3⟩ := d i i0 hi
    have := hmo (j - i) i i0 (by omega)
    exact ⟨d1, Goal_cong (L := Q 0 j) (by omega) (eg (by omega)) d2, d3⟩
  · rw [ek 44 (by decide) (by decide) (by decide)]; exact e i i0 hi hx
theorem gaS_le (s : kS) (W G : Nat → Nat → Nat) (i : Nat) : gaS s W G i ≤ 1 := by unfold gaS; split <;> omega
theorem gaS_1 {s : kS} {W G : Nat → Nat → Nat} {i : Nat} : gaS s W G i = 1 ↔ gN s 2 (W 0 i) = 2 ∧ G 5 (gN s 3 (W 0 i)) = i + 1 := by
  unfold gaS
  split
  · exact ⟨fun _ => by assumption, fun _ => rfl⟩
  · exact ⟨fun x => by omega, fun x => by contradiction⟩
theorem gaS_rel {s : kS} {W G : Nat → Nat → Nat} {i j : Nat} (h : i < j) : gaS s W (relG s W j G) i = gaS s W G i := by
  unfold gaS
  rw [relG_5]
  by_cases c : gN s 2 (W 0 j) = 2 ∧ G 5 (gN s 3 (W 0 j)) = j + 1 ∧ gN s 3 (W 0 i) = gN s 3 (W 0 j)
  · rw [if_pos c, if_neg (fun x => by omega), if_neg (fun x => by rw [c.2.2] at x; omega)]
  · rw [if_neg c]
theorem gaS_rel0 {s : kS} {W G : Nat → Nat → Nat} {j : Nat} : gaS s W (relG s W j G) j = 0 := by
  unfold gaS
  by_cases c : gN s 2 (W 0 j) = 2 ∧ G 5 (gN s 3 (W 0 j)) = j + 1
  · have h : relG s W j G 5 (gN s 3 (W 0 j)) = 0 := by rw [relG_5]; exact if_pos ⟨c.1, c.2, rfl⟩
    rw [h, if_neg (fun x => by omega)]
  · have h : relG s W j G 5 (gN s 3 (W 0 j)) = G 5 (gN s 3 (W 0 j)) := by rw [relG_5]; exact if_neg (fun x => c ⟨x.1, x.2.1⟩)
    rw [h, if_neg c]
theorem gaS_take {s : kS} {W G : Nat → Nat → Nat} {j c i : Nat} : gaS s W (gU G 1 j c) i = gaS s W G i := by
  unfold gaS
  rw [gU_k (by decide)]
/-- the numbers and rows that the model's search may change -/
def FrM (σ σ' : kS) : Prop := (∀ k, k ≠ 15 → k ≠ 20 → k ≠ 21 → σ'.1 k = σ.1 k) ∧ (∀ k, k < 42 ∨ 57 < k → σ'.2.1 k = σ.2.1 k) ∧ σ'.2.2 = σ.2.2
theorem FrM_rfl (σ : kS) : FrM σ σ := ⟨fun _ _ _ _ => rfl, fun _ _ => rfl, rfl⟩
theorem FrM_tr {a b c : kS} (h : FrM a b) (g : FrM b c) : FrM a c := ⟨fun k x y z => (g.1 k x y z).trans (h.1 k x y z), fun k x => (g.2.1 k x).trans (h.2.1 k x), g.2.2.trans h.2.2⟩
theorem FrM_sA {σ : kS} {j : Nat} (hj : 42 ≤ j ∧ j ≤ 57) (f : Nat → Int32) : FrM σ (k_sA σ j f) := ⟨fun _ _ _ _ => rfl, fun k hk => k_sA2 (by omega), rfl⟩
theorem FrM_sS {σ : kS} {j : Nat} (hj : j = 15 ∨ j = 20 ∨ j = 21) (x : Int32) : FrM σ (k_sS σ j x) := ⟨fun k a b c => k_sSn (by omega), fun _ _ => rfl, rfl⟩
theorem FrM_scr {σ σ' : kS} (h : Scr σ σ') : FrM σ σ' := ⟨fun k _ _ _ => by rw [h.1], fun k hk => h.2.2 k (by omega) (by omega) (by omega), h.2.1⟩
theorem M_back {s : kS} {T n j : Nat} {W G Q : Nat → Nat → Nat} {fr : Bool} {σ : kS} (hF : FI s T) (hP : Plan s T n W) (hI : SI s T n W j fr G) (hR : RM s T W j fr G Q σ) (j0 : 0 < j) :
    ∃ σ6, M_Md_backTo σ (nI (Q 2 j)) (nI (Q 0 j)) = some (0, σ6) ∧ σ6.1 20 = nI (Q 0 j) ∧ σ6.1 15 = nI (Q 2 j) ∧ (∀ k, k ≠ 15 → k ≠ 20 → σ6.1 k = σ.1 k) ∧ (∀ k, k ≠ 42 → σ6.2.1 k = σ.2.1 k) ∧ σ6.2.2 = σ.2.2 ∧ (∀ h, h < 8 → σ6.2.1 42 h = nmI (relG s W j G 3 h)) ∧ Q 2 j = nmN (relG s W j G) ∧ Q 2 j ≤ 8 := by
  obtain ⟨⟨a1, a2⟩, b, c, d, e, f1, f2, f3⟩ := hR
  have hn8 := nmN_le G
  have stop : ∀ (f : Nat) (σ1 : kS), σ1.1 15 = nI (Q 2 j) → M_Md_backTo_0 (f + 1) σ1 (nI (Q 2 j)) (nI (Q 0 j)) = some (0, k_sS σ1 20 (nI (Q 0 j))) := by
    intro f σ1 h1
    show M_Md_backTo_0_b (M_Md_backTo_0 f) σ1 _ _ = _
    unfold M_Md_backTo_0_b
    rw [h1, if_pos (nI_le (Nat.le_refl _) (by omega)), k_set_r]
  have efu : k_fu = 99998 + 1 + 1 := rfl
  unfold M_Md_backTo
  by_cases g : gaS s W G j = 1
  · obtain ⟨g1, g2⟩ := gaS_1.mp g
    have h8 := T_name8 hF (P_tr hP hI.1) g1
    have hN0 : G 3 (gN s 3 (W 0 j)) ≠ 0 := fun x => by
      have := ((hI.2.2.2.2.2.2.1 _ h8).1).mp x
      omega
    have hnm := nmN_chg (G := G) (G' := relG s W j G) h8 (fun i hi => by rw [relG_3, if_neg (fun x => hi x.2.2)])
    have h30 : relG s W j G 3 (gN s 3 (W 0 j)) = 0 := by rw [relG_3]; exact if_pos ⟨g1, g2, rfl⟩
    rw [if_neg hN0, h30, if_pos rfl] at hnm
    rw [g] at f1 f2
    refine ⟨k_sS (k_sA (k_sS σ 15 (nI (Q 2 j))) 42 (upd (σ.2.1 42) (gN s 3 (W 0 j)) (-1))) 20 (nI (Q 0 j)), ?_, rfl, rfl, fun k x y => by rw [k_sSn y]; exact k_sSn x, fun k x => by rw [k_sS2]; exact k_sA2 x, rfl, fun h hh => ?_, by omega, by omega⟩
    · rw [efu]
      show M_Md_backTo_0_b (M_Md_backTo_0 (99998 + 1)) σ _ _ = _
      unfold M_Md_backTo_0_b
      rw [f1, if_neg (nI_ge (by omega) (by omega)), k_set_r, nI_pred, k_sSs, k_ld_n (by omega) (by omega), k_sS2, e j j0 (Nat.le_refl j) g, k_st_x rfl h8 (by omega)]
      exact stop 99998 _ rfl
    · rw [k_sS2, k_sAs, relG_3]
      by_cases x : h = gN s 3 (W 0 j)
      · rw [if_pos ⟨g1, g2, x⟩, x, k_upd_s]; rfl
      · rw [if_neg (fun y => x y.2.2), k_upd_n x]; exact (f3 h hh).1
  · have g0 : gaS s W G j = 0 := by have := gaS_le s W G j; omega
    have er : relG s W j G = G := by
      unfold relG
      rw [if_neg (fun x => g (gaS_1.mpr x))]
    rw [g0] at f1 f2
    rw [er]
    refine ⟨k_sS σ 20 (nI (Q 0 j)), ?_, rfl, ?_, fun k x y => k_sSn y, fun k x => rfl, rfl, fun h hh => (f3 h hh).1, by omega, by omega⟩
    · rw [efu]; exact stop (99998 + 1) σ f1
    · rw [k_sSn (by decide)]; exact f1
theorem RM_rel {s : kS} {T n j : Nat} {W G Q : Nat → Nat → Nat} {fr : Bool} {σ σ6 : kS} (hP : Plan s T n W) (hI : SI s T n W (j + 1) fr G) (hR : RM s T W (j + 1) fr G Q σ) (e15 : σ6.1 15 = nI (Q 2 (j + 1))) (e21 : σ6.1 21 = σ.1 21) (ek : ∀ k, k ≠ 42 → σ6.2.1 k = σ.2.1 k) (e42 : ∀ h, h < 8 → σ6.2.1 42 h = nmI (relG s W (j + 1) G 3 h)) (hnm : Q 2 (j + 1) = nmN (relG s W (j + 1) G)) :
    (0 < j → RM s T W j false (relG s W (j + 1) G) Q (k_sS σ6 21 (nI j))) ∧ ∀ c x, RM s T W (j + 1) false (gU (relG s W (j + 1) G) 1 (j + 1) c) Q (k_sA (k_sS σ6 16 x) 51 (upd (σ6.2.1 51) j (nI (mv 12 c)))) := by
  have hj := hI.1
  have nms : NmM σ6 T (relG s W (j + 1) G 3) (relG s W (j + 1) G 4) := by
    intro h hh
    obtain ⟨m1, m2, m3⟩ := hR.2.2.2.2.2.2.2 h hh
    obtain ⟨p1, p2, p3, p4, p5⟩ := rel_names hI h hh
    refine ⟨e42 h hh, p5, fun k hk => ⟨?_, p4 k hk⟩⟩
    rw [ek 43 (by decide), relG_k (by decide) (by decide)]
    refine (m3 k ?_).1
    rw [relG_3] at hk
    split at hk
    · omega
    · exact hk
  obtain ⟨⟨a1, a2⟩, b, c, d, e, f1, f2, f3⟩ := hR
  have a6 : SMd s σ6 := SMd_cong a1 (fun k hk => ek k (by omega))
  have gl : ∀ {g P B k u : Nat} {v : Int32}, Goal σ g P B k u v → Goal σ6 g P B k u v := fun h => Goal_cong (L := _ + 1) (Nat.lt_succ_self _) (fun q q1 q2 i _ => by rw [ek q (by omega)]) h
  refine ⟨fun j0 => ⟨⟨a6, rfl⟩, fun i i0 hi => ?_, fun i i0 hi => ?_, fun i i0 hi => ?_, fun i i0 hi hx => ?_, ?_, ?_, nms⟩, fun c' x => ⟨⟨?_, ?_⟩, fun i i0 hi => ?_, fun i i0 hi => ?_, fun i i0 hi => ?_, fun i i0 hi hx => ?_, ?_, ?_, ?_⟩⟩
  · obtain ⟨b1, b2, b3, b4⟩ := b i i0 (by omega)
    rw [k_sS2, ek 50 (by decide), ek 52 (by decide), ek 53 (by decide), relG_k (by decide) (by decide), relG_k (by decide) (by decide)]
    exact ⟨b1, b2, b3, gl b4⟩
  · rw [k_sS2, ek 51 (by decide), c i i0 (by omega), if_neg (fun y => by omega), if_neg (fun y => k_ft y.2), relG_k (by decide) (by decide)]
  · obtain ⟨d1, d2, d3⟩ := d i i0 (by omega)
    rw [relG_k (by decide) (by decide), relG_k (by decide) (by decide), relG_k (by decide) (by decide), gaS_rel (by omega)]
    exact ⟨d1, gl d2, d3⟩
  · rw [gaS_rel (by omega)] at hx
    rw [k_sS2, ek 44 (by decide)]
    exact e i i0 (by omega) hx
  · rw [gaS_rel (by omega), k_sSn (by decide), e15, (d j j0 (by omega)).2.2]
  · rw [gaS_rel (by omega), ← (d j j0 (by omega)).2.2]; exact hnm
  · exact SMd_cong a6 (fun k hk => by rw [k_sA2 (by omega)]; rfl)
  · show (k_sS σ6 16 x).1 21 = _
    rw [k_sSn (by decide), e21, a2]
  · obtain ⟨b1, b2, b3, b4⟩ := b i i0 hi
    rw [k_sA2 (by decide), k_sA2 (by decide), k_sA2 (by decide), k_sS2, ek 50 (by decide), ek 52 (by decide), ek 53 (by decide), gU_k (by decide), gU_k (by decide), relG_k (by decide) (by decide), relG_k (by decide) (by decide)]
    exact ⟨b1, b2, b3, Goal_cong (L := Q 1 i + 1) (by omega) (fun q q1 q2 i _ => by rw [k_sA2 (by omega)]; rfl) (gl b4)⟩
  · rw [k_sAs, if_neg (fun y => k_ft y.2)]
    by_cases y : i = j + 1
    · rw [y, Nat.add_sub_cancel, k_upd_s, gU_s]
    · rw [k_upd_n (by omega), gU_i y, relG_k (by decide) (by decide), ek 51 (by decide), c i i0 hi, if_neg (fun z => y z.1)]
  · obtain ⟨d1, d2, d3⟩ := d i i0 hi
    rw [gU_k (by decide), gU_k (by decide), gU_i (by omega), relG_k (by decide) (by decide), relG_k (by decide) (by decide), relG_k (by decide) (by decide), gaS_take, gaS_rel (by omega)]
    exact ⟨d1, Goal_cong (L := Q 0 i + 1) (by omega) (fun q q1 q2 i _ => by rw [k_sA2 (by omega)]; rfl) (gl d2), d3⟩
  · rw [gaS_take] at hx
    rw [k_sA2 (by decide), k_sS2, ek 44 (by decide)]
    rcases (show i = j + 1 ∨ i < j + 1 by omega) with y | y
    · rw [y, gaS_rel0] at hx; omega
    · rw [gaS_rel y] at hx
      exact e i i0 hi hx
  · rw [gaS_take, gaS_rel0]
    show (k_sS σ6 16 x).1 15 = _
    rw [k_sSn (by decide), e15]
    rfl
  · rw [gaS_take, gaS_rel0]
    exact hnm
  · have e3 : gU (relG s W (j + 1) G) 1 (j + 1) c' 3 = relG s W (j + 1) G 3 := funext (fun i => gU_k (by decide))
    have e4 : gU (relG s W (j + 1) G) 1 (j + 1) c' 4 = relG s W (j + 1) G 4 := funext (fun i => gU_k (by decide))
    rw [e3, e4]
    exact NmM_cong nms (by rw [k_sA2 (by decide)]; rfl) (by rw [k_sA2 (by decide)]; rfl)
/-- back, and the next choice -/
theorem M_choose {s : kS} {T n j : Nat} {W G Q : Nat → Nat → Nat} {fr : Bool} {σ : kS} (hF : FI s T) (hP : Plan s T n W) (hI : SI s T n W (j + 1) fr G) (hR : RM s T W (j + 1) fr G Q σ) (self : kS → Option (Int32 × kS)) :
    ∃ σ6, FrM σ σ6 ∧ σ6.1 20 = nI (Q 0 (j + 1)) ∧
    (M_Md_otherwise_0_b self σ = match nextC s (W 0 (W 1 (j + 1))) (W 0 (j + 1)) (avS s W G (j + 1)) fr (G 1 (j + 1)) with
      | none => self (k_sS σ6 21 (nI j))
      | some c => k_call (M_Md_tries σ6) fun v14 σ15 => if v14 = 0 then some (-3, σ15) else k_st σ15 51 500 (nI j) (nI (mv 12 c)) fun σ18 => M_Md_otherwise_89 self k_fu σ18 (nI j) (nI (Q 1 (j + 1))) (nI (mv 12 c)) 0 0) ∧
    (0 < j → RM s T W j false (relG s W (j + 1) G) Q (k_sS σ6 21 (nI j))) ∧ ∀ c x, RM s T W (j + 1) false (gU (relG s W (j + 1) G) 1 (j + 1) c) Q (k_sA (k_sS σ6 16 x) 51 (upd (σ6.2.1 51) j (nI (mv 12 c)))) := by
  have hn := hP.1
  have hj := hI.1
  obtain ⟨σ6, r, e20, e15, en, ek, eL, e42, hnm, hb8⟩ := M_back hF hP hI hR (show 0 < j + 1 by omega)
  obtain ⟨R1, R2⟩ := RM_rel hP hI hR e15 (en 21 (by decide) (by decide)) ek e42 hnm
  refine ⟨σ6, ⟨fun k x y _ => en k x y, fun k hk => ek k (by omega), eL⟩, e20, ?_, R1, R2⟩
  obtain ⟨⟨b1, b2, b3⟩, b4, b5, b6⟩ := hR.2.1 (j + 1) (by omega) (Nat.le_refl _)
  rw [Nat.add_sub_cancel] at b1 b2 b3
  have h51 := hR.2.2.1 (j + 1) (by omega) (Nat.le_refl _)
  rw [Nat.add_sub_cancel] at h51
  obtain ⟨⟨⟨p1, p2, p3, p4, p5⟩, _⟩⟩ : _ ∧ True := ⟨hP.2.2.2.2 (j + 1) (by omega) hj, trivial⟩
  obtain ⟨a1, a2, a3⟩ := SI_av hF hP hI (show 0 < j + 1 by omega) (Nat.le_refl _)
  have hla : fr = false → LaOK s (W 0 (j + 1)) (avS s W G (j + 1)) (G 1 (j + 1)) := fun e => hI.2.2.1 (j + 1) (by omega) (Nat.le_refl _) (fun _ => e)
  have hG6 : Goal σ6 (Q 1 (j + 1)) (W 0 (W 1 (j + 1))) (G 2 (W 1 (j + 1))) (W 2 (j + 1)) (G 0 (j + 1)) (nvI Q (W 1 (j + 1))) := Goal_cong (L := Q 1 (j + 1) + 1) (by omega) (fun q q1 q2 i _ => by rw [ek q (by omega)]) b6
  have nx := Md_next (fr := fr) (l := G 1 (j + 1)) (a := avS s W G (j + 1)) hF (SMd_cong hR.1.1 (fun k hk => ek k (by omega))) (show Q 1 (j + 1) < 1000 by omega) a1 (P_tr hP (show W 1 (j + 1) < n by omega)) p4 hG6 p5.symm rfl hla
  have e51 : (if j + 1 = j + 1 ∧ fr = true then (-1 : Int32) else nI (mv 12 (G 1 (j + 1)))) = if fr = true then -1 else nI (mv 12 (G 1 (j + 1))) := by
    by_cases x : fr = true
    · rw [if_pos ⟨rfl, x⟩, if_pos x]
    · rw [if_neg (fun y => x y.2), if_neg x]
  unfold M_Md_otherwise_0_b
  rw [hR.1.2, if_neg (show ¬ nI (j + 1) ≤ 0 from nI_ge (a := 0) (by omega) (by omega)), k_let_r, nI_pred, k_ld_n (by omega) (by omega), b2, k_ld_n (by omega) (by omega), b3, k_call_s r, k_ld_n (by omega) (by omega), ek 50 (by decide), b1, k_ld_n (by omega) (by omega), ek 51 (by decide), h51, e51, k_call_s nx]
  cases ho : nextC s (W 0 (W 1 (j + 1))) (W 0 (j + 1)) (avS s W G (j + 1)) fr (G 1 (j + 1)) with
  | none =>
    rw [if_neg (show ¬ (0 : Int32) ≤ oM none by decide), k_set_r, en 21 (by decide) (by decide), hR.1.2, nI_pred]
  | some c =>
    have hml := mv12_lt c
    rw [if_pos (show (0 : Int32) ≤ oM (some c) from nI_le (a := 0) (by omega) (by omega))]
    rfl
