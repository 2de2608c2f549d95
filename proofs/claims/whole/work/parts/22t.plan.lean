/-! the plan: the slots of a pattern. W 0: the tree of a slot, W 1: its parent, W 2: which part of it -/
/-- the slot behind those of slot i -/
def enS (s : kS) (W : Nat → Nat → Nat) (i : Nat) : Nat := i + gN s 8 (W 0 i)
def cnS (s : kS) (W : Nat → Nat → Nat) (i : Nat) : Nat := gN s 9 (W 0 i)
/-- slot i; e: as far as it is laid, m: the part of slot a that comes next -/
def SlotOK (s : kS) (T : Nat) (W : Nat → Nat → Nat) (a e m i : Nat) : Prop :=
  (a ≤ W 1 i ∧ W 1 i < i ∧ W 0 i < T ∧ W 2 i < cnS s W (W 1 i) ∧ W 0 i = gN s 10 (12 * W 0 (W 1 i) + W 2 i)) ∧
  (enS s W i ≤ e ∧ enS s W i ≤ enS s W (W 1 i) ∧ (W 2 i + 1 = cnS s W (W 1 i) → enS s W i = enS s W (W 1 i))) ∧
  (W 2 i + 1 < cnS s W (W 1 i) → (enS s W i < e ∧ W 1 (enS s W i) = W 1 i ∧ W 2 (enS s W i) = W 2 i + 1) ∨ (enS s W i = e ∧ W 1 i = a ∧ W 2 i + 1 = m)) ∧
  (∀ k, i < k → k < enS s W i → i ≤ W 1 k) ∧
  (0 < cnS s W i → i + 1 < e ∧ W 1 (i + 1) = i ∧ W 2 (i + 1) = 0)
def Sub (s : kS) (T : Nat) (W : Nat → Nat → Nat) (a e m : Nat) : Prop := ∀ i, a < i → i < e → SlotOK s T W a e m i
theorem SlotOK_congr {s : kS} {T : Nat} {W W' : Nat → Nat → Nat} {a e m i : Nat} (hi : i < e) (hW : ∀ k x, x < e → W' k x = W k x) (h : SlotOK s T W a e m i) : SlotOK s T W' a e m i := by
  obtain ⟨⟨h1, h2, h3, h4, h5⟩, ⟨g1, g2, g3⟩, n, q, f⟩ := h
  have e0 := hW 0 i hi
  have e1 := hW 1 i hi
  have e2 := hW 2 i hi
  have p0 := hW 0 (W 1 i) (by omega)
  have en : enS s W' i = enS s W i := by unfold enS; rw [e0]
  have ep : enS s W' (W 1 i) = enS s W (W 1 i) := by unfold enS; rw [p0]
  have cp : cnS s W' (W 1 i) = cnS s W (W 1 i) := by unfold cnS; rw [p0]
  have ci : cnS s W' i = cnS s W i := by unfold cnS; rw [e0]
  unfold SlotOK
  rw [e0, e1, e2, p0, en, ep, cp, ci]
  refine ⟨⟨h1, h2, h3, h4, h5⟩, ⟨g1, g2, g3⟩, fun x => ?_, fun k k1 k2 => ?_, fun x => ?_⟩
  · rcases n x with ⟨n1, n2, n3⟩ | n1
    · left
      rw [hW 1 _ n1, hW 2 _ n1]
      exact ⟨n1, n2, n3⟩
    · exact Or.inr n1
  · rw [hW 1 k (by omega)]; exact q k k1 k2
  · obtain ⟨f1, f2, f3⟩ := f x
    rw [hW 1 _ f1, hW 2 _ f1]
    exact ⟨f1, f2, f3⟩
theorem Sub_step {s : kS} {T : Nat} {W W' : Nat → Nat → Nat} {a t u c k : Nat} (hac : a < c) (h0 : W' 0 a = t) (hcu : W' 0 c = u) (hca : W' 1 c = a) (hck : W' 2 c = k) (hu : u < T) (hs : 1 ≤ gN s 8 u)
    (hk : k < gN s 9 t) (hp : u = gN s 10 (12 * t + k)) (hW : ∀ k x, x < c → W' k x = W k x) (hS : Sub s T W a c k) (hR : Sub s T W' c (c + gN s 8 u) (gN s 9 u))
    (hf : 0 < gN s 9 u → c + 1 < c + gN s 8 u ∧ W' 1 (c + 1) = c ∧ W' 2 (c + 1) = 0) (hen : c + gN s 8 u ≤ a + gN s 8 t) (hla : k + 1 = gN s 9 t → c + gN s 8 u = a + gN s 8 t) : Sub s T W' a (c + gN s 8 u) (k + 1) := by
  intro i h1 h2
  rcases (show i < c ∨ i = c ∨ c < i by omega) with hi | hi | hi
  · obtain ⟨⟨a1, a2, a3, a4, a5⟩, ⟨g1, g2, g3⟩, n, q, f⟩ := SlotOK_congr hi hW (hS i h1 hi)
    refine ⟨⟨a1, a2, a3, a4, a5⟩, ⟨by omega, g2, g3⟩, fun x => ?_, q, fun x => ?_⟩
    · rcases n x with ⟨n1, n2, n3⟩ | ⟨n1, n2, n3⟩
      · exact Or.inl ⟨by omega, n2, n3⟩
      · refine Or.inl ⟨by omega, ?_, ?_⟩
        · rw [n1, hca, n2]
        · rw [n1, hck, n3]
    · obtain ⟨f1, f2, f3⟩ := f x
      exact ⟨by omega, f2, f3⟩
  · subst hi
    have en : enS s W' i = i + gN s 8 u := by unfold enS; rw [hcu]
    have ep : enS s W' a = a + gN s 8 t := by unfold enS; rw [h0]
    have cp : cnS s W' a = gN s 9 t := by unfold cnS; rw [h0]
    have ci : cnS s W' i = gN s 9 u := by unfold cnS; rw [hcu]
    unfold SlotOK
    rw [hca, hck, hcu, h0, en, ep, cp, ci]
    refine ⟨⟨Nat.le_refl a, hac, hu, hk, hp⟩, ⟨Nat.le_refl _, hen, hla⟩, fun x => Or.inr ⟨rfl, rfl, rfl⟩, fun k k1 k2 => ?_, hf⟩
    exact (hR k k1 k2).1.1
  · obtain ⟨⟨a1, a2, a3, a4, a5⟩, ⟨g1, g2, g3⟩, n, q, f⟩ := hR i hi h2
    refine ⟨⟨by omega, a2, a3, a4, a5⟩, ⟨g1, g2, g3⟩, fun x => ?_, q, f⟩
    rcases n x with n1 | ⟨n1, n2, n3⟩
    · exact Or.inl n1
    · have : cnS s W' (W' 1 i) = gN s 9 u := by unfold cnS; rw [n2, hcu]
      omega
/-- the rows of the plan in σ from lo to hi -/
def Lay (s : kS) (W : Nat → Nat → Nat) (σ : kS) (lo hi : Nat) : Prop := ∀ i, lo ≤ i → i < hi → σ.2.1 18 i = nI (W 0 i) ∧ σ.2.1 19 i = nI (W 1 i) ∧ σ.2.1 20 i = nI (if W 2 i + 1 = cnS s W (W 1 i) then 1 else 0)
/-- only the plan's rows from b on and its number of slots have changed -/
def Chg (σ σ' : kS) (b : Nat) : Prop := (∀ k, k ≠ 8 → σ'.1 k = σ.1 k) ∧ (∀ k, k ≠ 18 → k ≠ 19 → k ≠ 20 → σ'.2.1 k = σ.2.1 k) ∧ (∀ k i, i < b → σ'.2.1 k i = σ.2.1 k i) ∧ σ'.2.2 = σ.2.2
theorem Chg_tr {σ σ1 σ2 : kS} {b c : Nat} (hb : b ≤ c) (h : Chg σ σ1 b) (g : Chg σ1 σ2 c) : Chg σ σ2 b :=
  ⟨fun k x => (g.1 k x).trans (h.1 k x), fun k x y z => (g.2.1 k x y z).trans (h.2.1 k x y z), fun k i x => (g.2.2.1 k i (by omega)).trans (h.2.2.1 k i x), g.2.2.2.trans h.2.2.2⟩
theorem Chg_rfl (σ : kS) (b : Nat) : Chg σ σ b := ⟨fun _ _ => rfl, fun _ _ _ _ => rfl, fun _ _ _ => rfl, rfl⟩
theorem SC_chg {s σ σ' : kS} {b : Nat} (h : SC s σ) (g : Chg σ σ' b) : SC s σ' :=
  ⟨(g.1 2 (by decide)).trans h.1, fun k hk => (g.2.1 k (by omega) (by omega) (by omega)).trans (h.2 k hk)⟩
/-- what laying the parts of slot a, a tree t, comes to -/
def LayP (s : kS) (T d a t lvl : Nat) : Prop := ∀ (W : Nat → Nat → Nat) (σ : kS), SC s σ → W 0 a = t → σ.2.1 18 a = nI t → σ.1 8 = nI (a + 1) → a + gN s 8 t ≤ 70 →
  ∃ W' σ', M_Pl_layParts_r d σ (nI a) (nI lvl) = some (0, σ') ∧ Chg σ σ' (a + 1) ∧ σ'.1 8 = nI (a + gN s 8 t) ∧ (∀ k i, i < a + 1 → W' k i = W k i) ∧ Lay s W' σ' (a + 1) (a + gN s 8 t) ∧ Sub s T W' a (a + gN s 8 t) (gN s 9 t) ∧ (0 < gN s 9 t → a + 1 < a + gN s 8 t ∧ W' 1 (a + 1) = a ∧ W' 2 (a + 1) = 0)
theorem lay_loop {s : kS} {T d a t lvl : Nat} (hF : FI s T) (ht : t < T) (hr : ∀ u c, u < T → gN s 7 u < gN s 7 t → LayP s T d c u (lvl + 1)) :
    ∀ m k f e (W : Nat → Nat → Nat) (σ : kS), k + m = gN s 9 t → SC s σ → a < e → W 0 a = t → σ.1 8 = nI e → e + psum (fun i => gN s 8 (gN s 10 (12 * t + i))) k m = a + gN s 8 t → a + gN s 8 t ≤ 70 → Lay s W σ (a + 1) e → Sub s T W a e k → (0 < k → a + 1 < e ∧ W 1 (a + 1) = a ∧ W 2 (a + 1) = 0) → (k = 0 → e = a + 1) →
    ∃ W' σ', M_Pl_layParts_26 (M_Pl_layParts_r d) (f + m + 1) σ (nI a) (nI lvl) (nI t) (nI (gN s 9 t)) (nI k) = some (0, σ') ∧ Chg σ σ' e ∧ σ'.1 8 = nI (a + gN s 8 t) ∧ (∀ k i, i < e → W' k i = W k i) ∧ Lay s W' σ' (a + 1) (a + gN s 8 t) ∧ Sub s T W' a (a + gN s 8 t) (gN s 9 t) ∧ (0 < gN s 9 t → a + 1 < a + gN s 8 t ∧ W' 1 (a + 1) = a ∧ W' 2 (a + 1) = 0) := by
  have hT := hF.1
  have hc := T_cnt hF ht
  intro m
  induction m with
  | zero =>
    intro k f e W σ hk hS hae h0 h8 hsum h70 hL hSub hfi hk0
    have hsum' : e + 0 = a + gN s 8 t := hsum
    refine ⟨W, σ, ?_, Chg_rfl σ e, ?_, fun _ _ _ => rfl, ?_, ?_, ?_⟩
    · show M_Pl_layParts_26_b _ (M_Pl_layParts_26 _ (f + 0)) σ _ _ _ _ _ = _
      unfold M_Pl_layParts_26_b
      rw [if_pos (nI_le (by omega) (by omega))]
    · rw [h8]; congr 1
    · rw [← hsum']; exact hL
    · rw [← hsum', ← hk]; exact hSub
    · rw [← hsum', ← hk]; exact hfi
  | succ m ih =>
    intro k f e W σ hk hS hae h0 h8 hsum h70 hL hSub hfi hk0
    obtain ⟨p1, p2, p3⟩ := T_part hF ht (show k < gN s 9 t by omega)
    obtain ⟨u, hu⟩ : ∃ u, u = gN s 10 (12 * t + k) := ⟨_, rfl⟩
    rw [← hu] at p1 p2 p3
    have hsz := T_size hF p2
    have hsum' : e + (gN s 8 (gN s 10 (12 * t + k)) + psum (fun i => gN s 8 (gN s 10 (12 * t + i))) (k + 1) m) = a + gN s 8 t := hsum
    rw [← hu] at hsum'
    obtain ⟨la, hla⟩ : ∃ la : Nat, la = if k + 1 = gN s 9 t then 1 else 0 := ⟨_, rfl⟩
    obtain ⟨σ3, hσ3⟩ : ∃ σ3, σ3 = k_sS (k_sA (k_sA (k_sA σ 18 (upd (σ.2.1 18) e (nI u))) 19 (upd (σ.2.1 19) e (nI a))) 20 (upd (σ.2.1 20) e (nI la))) 8 (nI (e + 1)) := ⟨_, rfl⟩
    have r18 : σ3.2.1 18 = upd (σ.2.1 18) e (nI u) := by rw [hσ3]; rfl
    have r19 : σ3.2.1 19 = upd (σ.2.1 19) e (nI a) := by rw [hσ3]; rfl
    have r20 : σ3.2.1 20 = upd (σ.2.1 20) e (nI la) := by rw [hσ3]; rfl
    have r8 : σ3.1 8 = nI (e + 1) := by rw [hσ3]; rfl
    have hC : Chg σ σ3 e := by
      refine ⟨fun k hk => ?_, fun k x y z => ?_, fun k i hi => ?_, ?_⟩
      · rw [hσ3, k_sSn hk]; rfl
      · rw [hσ3, k_sS2, k_sA2 z, k_sA2 y, k_sA2 x]
      · by_cases c18 : k = 18
        · rw [c18, r18, k_upd_n (by omega)]
        · by_cases c19 : k = 19
          · rw [c19, r19, k_upd_n (by omega)]
          · by_cases c20 : k = 20
            · rw [c20, r20, k_upd_n (by omega)]
            · rw [hσ3, k_sS2, k_sA2 c20, k_sA2 c19, k_sA2 c18]
      · rw [hσ3]; rfl
    obtain ⟨W1, hW1⟩ : ∃ W1 : Nat → Nat → Nat, W1 = fun q x => if x = e then (if q = 0 then u else if q = 1 then a else k) else W q x := ⟨_, rfl⟩
    have w0 : W1 0 e = u := by rw [hW1]; show (if e = e then _ else _) = _; rw [if_pos rfl, if_pos rfl]
    have w1 : W1 1 e = a := by rw [hW1]; show (if e = e then _ else _) = _; rw [if_pos rfl, if_neg (by decide), if_pos rfl]
    have w2 : W1 2 e = k := by rw [hW1]; show (if e = e then _ else _) = _; rw [if_pos rfl, if_neg (by decide), if_neg (by decide)]
    have wn : ∀ q x, x < e → W1 q x = W q x := fun q x hx => by rw [hW1]; show (if x = e then _ else _) = _; rw [if_neg (by omega)]
    obtain ⟨W2, σ4, run, hC4, h84, hW2, hL4, hS4, hf4⟩ := hr u e p2 p3 W1 σ3 (SC_chg hS hC) w0 (by rw [r18, k_upd_s]) r8 (by omega)
    have hC' : Chg σ σ4 e := Chg_tr (by omega) hC hC4
    have v0 : W2 0 e = u := (hW2 0 e (by omega)).trans w0
    have v1 : W2 1 e = a := (hW2 1 e (by omega)).trans w1
    have v2 : W2 2 e = k := (hW2 2 e (by omega)).trans w2
    have vn : ∀ q x, x < e → W2 q x = W q x := fun q x hx => (hW2 q x (by omega)).trans (wn q x hx)
    have va : W2 0 a = t := (vn 0 a hae).trans h0
    have sub := Sub_step hae va v0 v1 v2 p2 hsz.1 (by omega) hu vn hSub hS4 hf4 (by omega) (fun x => by
      have : m = 0 := by omega
      subst this
      have e0 : psum (fun i => gN s 8 (gN s 10 (12 * t + i))) (k + 1) 0 = 0 := rfl
      omega)
    have cna : cnS s W2 a = gN s 9 t := by unfold cnS; rw [va]
    obtain ⟨W3, σ5, run5, hC5, h85, hW5, hL5, hS5, hf5⟩ := ih (k + 1) f (e + gN s 8 u) W2 σ4 (by omega) (SC_chg hS hC') (by omega) va h84 (by omega) h70 (by
      intro i i1 i2
      rcases (show i < e ∨ i = e ∨ e < i by omega) with hi | hi | hi
      · obtain ⟨l1, l2, l3⟩ := hL i i1 hi
        have hpa := (hSub i (by omega) hi).1.2.1
        have cc : cnS s W2 (W 1 i) = cnS s W (W 1 i) := by unfold cnS; rw [vn 0 (W 1 i) (by omega)]
        rw [hC'.2.2.1 18 i hi, hC'.2.2.1 19 i hi, hC'.2.2.1 20 i hi, vn 0 i hi, vn 1 i hi, vn 2 i hi, cc]
        exact ⟨l1, l2, l3⟩
      · subst hi
        rw [hC4.2.2.1 18 i (by omega), hC4.2.2.1 19 i (by omega), hC4.2.2.1 20 i (by omega), r18, r19, r20, k_upd_s, k_upd_s, k_upd_s, v0, v1, v2, cna, hla]
        exact ⟨rfl, rfl, rfl⟩
      · exact hL4 i (by omega) (by omega)) sub (fun _ => by
      by_cases k0 : k = 0
      · have := hk0 k0
        subst this
        rw [v1, v2]
        exact ⟨by omega, rfl, k0⟩
      · obtain ⟨f1, f2, f3⟩ := hfi (by omega)
        rw [vn 1 _ f1, vn 2 _ f1]
        exact ⟨by omega, f2, f3⟩) (fun x => by omega)
    refine ⟨W3, σ5, ?_, Chg_tr (by omega) hC' hC5, h85, fun q x hx => (hW5 q x (by omega)).trans (vn q x hx), hL5, hS5, hf5⟩
    show M_Pl_layParts_26_b _ (M_Pl_layParts_26 _ (f + (m + 1))) σ _ _ _ _ _ = _
    unfold M_Pl_layParts_26_b
    rw [if_neg (nI_ge (by omega) (by omega)), h8, if_neg (show ¬ (70 : Int32) ≤ nI e from nI_ge (b := 70) (by omega) (by omega)), k_let_r, k_call_s (C_partAt hF hS ht (by omega)), ← hu, k_st_x rfl (by omega) (by omega), k_st_x rfl (by omega) (by omega)]
    have fin : ∀ y : Int32, vp_nar .boolean y = nI la → M_Pl_layParts_91 (M_Pl_layParts_r d) (M_Pl_layParts_26 (M_Pl_layParts_r d) (f + (m + 1))) (k_sA (k_sA σ 18 (upd (σ.2.1 18) e (nI u))) 19 (upd ((k_sA σ 18 (upd (σ.2.1 18) e (nI u))).2.1 19) e (nI a))) (nI a) (nI lvl) (nI t) (nI (gN s 9 t)) (nI k) (nI e) y (nI e) = some (0, σ5) := by
      intro y hy
      unfold M_Pl_layParts_91
      rw [k_st_x rfl (by omega) (by omega), k_set_r, hy, nI_1]
      have e3 : k_sS (k_sA (k_sA (k_sA σ 18 (upd (σ.2.1 18) e (nI u))) 19 (upd ((k_sA σ 18 (upd (σ.2.1 18) e (nI u))).2.1 19) e (nI a))) 20 (upd ((k_sA (k_sA σ 18 (upd (σ.2.1 18) e (nI u))) 19 (upd ((k_sA σ 18 (upd (σ.2.1 18) e (nI u))).2.1 19) e (nI a))).2.1 20) e (nI la))) 8 ((k_sA (k_sA (k_sA σ 18 (upd (σ.2.1 18) e (nI u))) 19 (upd ((k_sA σ 18 (upd (σ.2.1 18) e (nI u))).2.1 19) e (nI a))) 20 (upd ((k_sA (k_sA σ 18 (upd (σ.2.1 18) e (nI u))) 19 (upd ((k_sA σ 18 (upd (σ.2.1 18) e (nI u))).2.1 19) e (nI a))).2.1 20) e (nI la))).1 8 + 1) = σ3 := by
        rw [hσ3]
        show k_sS _ 8 (σ.1 8 + 1) = _
        rw [h8, nI_1]
        rfl
      rw [e3, k_call_s run, k_let_r, nI_1]
      exact run5
    by_cases cl : k + 1 = gN s 9 t
    · rw [if_pos (show nI k = nI (gN s 9 t) - 1 by rw [← cl]; exact (nI_pred k).symm)]
      exact fin 1 (by rw [hla, if_pos cl]; rfl)
    · rw [if_neg (show ¬ nI k = nI (gN s 9 t) - 1 by
        rw [show gN s 9 t = gN s 9 t - 1 + 1 by omega, nI_pred]
        exact fun e2 => by have := (nI_eq (by omega) (by omega)).mp e2; omega)]
      exact fin 0 (by rw [hla, if_neg cl]; rfl)
theorem lay_all {s : kS} {T : Nat} (hF : FI s T) : ∀ e D a t lvl, t < T → gN s 7 t ≤ e → lvl + e ≤ 20 → LayP s T (D + e + 1) a t lvl := by
  have hT := hF.1
  intro e
  induction e with
  | zero =>
    intro D a t lvl ht hd hl W σ hS h0 h18 h8 h70
    have hc := T_cnt hF ht
    have hsz := T_size hF ht
    obtain ⟨W', σ', r⟩ := lay_loop (d := D + 0) (lvl := lvl) hF ht (fun u c hu hx => by omega) (gN s 9 t) 0 (k_fu - gN s 9 t - 1) (a + 1) W σ (by omega) hS (by omega) h0 h8 (by
      rw [← psum_0]; have := (hF.2.2.2 t ht).2.2.2.1; omega) h70 (fun i i1 i2 => by omega) (fun i i1 i2 => by omega) (fun x => by omega) (fun _ => rfl)
    refine ⟨W', σ', ?_, r.2⟩
    show M_Pl_layParts (M_Pl_layParts_r (D + 0)) σ _ _ = _
    unfold M_Pl_layParts
    rw [if_pos (show nI lvl ≤ 20 from nI_le (b := 20) (by omega) (by omega)), k_ld_n (by omega) (by omega), h18, k_call_s (C_partCount hF hS ht), ← r.1]
    rw [show k_fu - gN s 9 t - 1 + gN s 9 t + 1 = k_fu by unfold k_fu; omega]
    rfl
  | succ e ih =>
    intro D a t lvl ht hd hl W σ hS h0 h18 h8 h70
    have hc := T_cnt hF ht
    have hsz := T_size hF ht
    obtain ⟨W', σ', r⟩ := lay_loop (d := D + (e + 1)) (lvl := lvl) hF ht (fun u c hu hx => ih D c u (lvl + 1) hu (by omega) (by omega)) (gN s 9 t) 0 (k_fu - gN s 9 t - 1) (a + 1) W σ (by omega) hS (by omega) h0 h8 (by
      rw [← psum_0]; have := (hF.2.2.2 t ht).2.2.2.1; omega) h70 (fun i i1 i2 => by omega) (fun i i1 i2 => by omega) (fun x => by omega) (fun _ => rfl)
    refine ⟨W', σ', ?_, r.2⟩
    show M_Pl_layParts (M_Pl_layParts_r (D + (e + 1))) σ _ _ = _
    unfold M_Pl_layParts
    rw [if_pos (show nI lvl ≤ 20 from nI_le (b := 20) (by omega) (by omega)), k_ld_n (by omega) (by omega), h18, k_call_s (C_partCount hF hS ht), ← r.1]
    rw [show k_fu - gN s 9 t - 1 + gN s 9 t + 1 = k_fu by unfold k_fu; omega]
    rfl
/-- the plan of a pattern with n slots -/
def Plan (s : kS) (T n : Nat) (W : Nat → Nat → Nat) : Prop := n ≤ 70 ∧ W 0 0 < T ∧ enS s W 0 = n ∧ (0 < cnS s W 0 → 1 < n ∧ W 1 1 = 0 ∧ W 2 1 = 0) ∧ Sub s T W 0 n (cnS s W 0)
theorem Pl_lay {s σ : kS} {T p : Nat} (hF : FI s T) (hS : SC s σ) (hp : p < T) :
    ∃ W σ' n, M_Pl_lay σ (nI p) = some (0, σ') ∧ Chg σ σ' 0 ∧ σ'.1 8 = nI n ∧ σ'.2.1 18 0 = nI p ∧ W 0 0 = p ∧ Lay s W σ' 1 n ∧ Plan s T n W := by
  have hT := hF.1
  have hd := T_dep hF hp
  have hsz := T_size hF hp
  obtain ⟨σ1, hσ1⟩ : ∃ σ1, σ1 = k_sA (k_sA (k_sA (k_sS σ 8 1) 18 (upd (σ.2.1 18) 0 (nI p))) 19 (upd (σ.2.1 19) 0 (-1))) 20 (upd (σ.2.1 20) 0 (vp_nar .boolean 1)) := ⟨_, rfl⟩
  have r18 : σ1.2.1 18 = upd (σ.2.1 18) 0 (nI p) := by rw [hσ1]; rfl
  have hC : Chg σ σ1 0 := by
    refine ⟨fun k hk => ?_, fun k x y z => ?_, fun k i hi => by omega, ?_⟩
    · rw [hσ1]; exact k_sSn hk
    · rw [hσ1, k_sA2 z, k_sA2 y, k_sA2 x]; rfl
    · rw [hσ1]; rfl
  obtain ⟨W, σ', r, c1, c2, c3, c4, c5, c6⟩ := lay_all hF 20 1 0 p 0 hp hd (by omega) (fun _ _ => p) σ1 (SC_chg hS hC) rfl (by rw [r18, k_upd_s]) (by rw [hσ1]; rfl) (by omega)
  have w0 : W 0 0 = p := c3 0 0 (by omega)
  rw [Nat.zero_add] at c2 c5
  simp only [Nat.zero_add] at c4 c6
  refine ⟨W, σ', gN s 8 p, ?_, Chg_tr (Nat.zero_le _) hC c1, c2, ?_, w0, c4, ?_⟩
  · unfold M_Pl_lay
    rw [k_set_r, k_st_x (x := 0) (i := 0) rfl (by omega) (by omega), k_st_x (x := 0) (i := 0) rfl (by omega) (by omega), k_st_x (x := 0) (i := 0) rfl (by omega) (by omega)]
    have r' : M_Pl_layParts_r 22 σ1 0 0 = some (0, σ') := r
    rw [hσ1] at r'
    refine k_call_s (k := fun _ σ6 => some (0, σ6)) (x := 0) (σ := σ') ?_
    exact r'
  · rw [c1.2.2.1 18 0 (by omega), r18, k_upd_s]
  · unfold Plan enS cnS
    rw [w0, Nat.zero_add]
    exact ⟨hsz.2, hp, rfl, fun x => by
      have := c6 x
      exact ⟨by omega, this.2.1, this.2.2⟩, c5⟩
