/-! one try of the model -/
theorem Md_gath {s σ : kS} {T g B c : Nat} (hF : FI s T) (h30 : σ.2.1 30 = s.2.1 10) (hg : g < 1000) (hB : B < T) (h46 : σ.2.1 46 g = nI B) (hcb : ∀ k, k < 12 → c / 2 ^ k % 2 = 1 → k < gN s 9 B) (rec0 : kS → Option (Int32 × kS)) (x1 : Int32) : ∀ m n f (F : Nat → Int32), n + m = 12 → (∀ i, i < pop n c → F i = nI (rowF s B c n i)) →
    ∃ F', M_Md_otherwise_89 rec0 (f + m + 1) (k_sA σ 57 F) x1 (nI g) (nI (mv 12 c)) (nI (pop n c)) (nI n) = M_Md_otherwise_89 rec0 (f + 1) (k_sA σ 57 F') x1 (nI g) (nI (mv 12 c)) (nI (pop 12 c)) (nI 12) ∧ ∀ i, i < pop 12 c → F' i = nI (rowF s B c 12 i) := by
  have hT := hF.1
  intro m
  induction m with
  | zero =>
    intro n f F hn hg'
    rw [show n = 12 by omega] at hg' ⊢
    exact ⟨F, rfl, hg'⟩
  | succ m ih =>
    intro n f F hn hF'
    have hpn := pop_le n c
    have st : ∀ X, M_Md_otherwise_89_b rec0 (M_Md_otherwise_89 rec0 (f + m + 1)) (k_sA σ 57 F) x1 (nI g) (nI (mv 12 c)) (nI (pop n c)) (nI n) = X → M_Md_otherwise_89 rec0 (f + (m + 1) + 1) (k_sA σ 57 F) x1 (nI g) (nI (mv 12 c)) (nI (pop n c)) (nI n) = X := fun X h => h
    by_cases b : c / 2 ^ n % 2 = 0
    · have e1 : pop (n + 1) c = pop n c := by rw [pop_succ, b]; rfl
      obtain ⟨F', q1, q2⟩ := ih (n + 1) f F (by omega) (fun i hi => by
        show F i = nI (if c / 2 ^ n % 2 = 1 ∧ i = pop n c then _ else _)
        rw [if_neg (fun x => by omega)]
        exact hF' i (by omega))
      refine ⟨F', st _ ?_, q2⟩
      unfold M_Md_otherwise_89_b
      rw [if_neg (show ¬ (12 : Int32) ≤ nI n from nI_ge (b := 12) (by omega) (by omega)), k_call_s (Md_bit _ (by omega)), if_pos ((mv_at (by omega)).mpr b), k_let_r, nI_1, ← q1, e1]
    · have b1 : c / 2 ^ n % 2 = 1 := by omega
      have e1 : pop (n + 1) c = pop n c + 1 := by rw [pop_succ, b1]
      obtain ⟨F', q1, q2⟩ := ih (n + 1) f (upd F (pop n c) (nI (gN s 10 (12 * B + n)))) (by omega) (fun i hi => by
        show upd F (pop n c) (nI (gN s 10 (12 * B + n))) i = nI (if c / 2 ^ n % 2 = 1 ∧ i = pop n c then _ else _)
        by_cases ei : i = pop n c
        · rw [if_pos ⟨b1, ei⟩, ei, k_upd_s]
        · rw [if_neg (fun x => ei x.2), k_upd_n ei]
          exact hF' i (by omega))
      refine ⟨F', st _ ?_, q2⟩
      have h46' : (k_sA σ 57 F).2.1 46 g = nI B := by rw [k_sA2 (by decide)]; exact h46
      have h30' : (k_sA σ 57 F).2.1 30 = s.2.1 10 := by rw [k_sA2 (by decide)]; exact h30
      unfold M_Md_otherwise_89_b
      rw [if_neg (show ¬ (12 : Int32) ≤ nI n from nI_ge (b := 12) (by omega) (by omega)), k_call_s (Md_bit _ (by omega)), if_neg (fun x => b ((mv_at (by omega)).mp x)), k_ld_n hg (by omega), h46', k_12i, k_ld_n (by omega) (by omega), h30', (T_part hF hB (hcb n (by omega) b1)).1, k_st_x rfl (by omega) (by omega), k_let_r, k_let_r, nI_1, nI_1, k_sAs, sA_sA, ← q1, e1]
/-- a new goal q -/
def goalS (σ : kS) (q : Nat) (x1 x2 x3 x4 x5 : Int32) : kS := k_sS (k_sA (k_sA (k_sA (k_sA (k_sA σ 45 (upd (σ.2.1 45) q x1)) 46 (upd (σ.2.1 46) q x2)) 47 (upd (σ.2.1 47) q x3)) 48 (upd (σ.2.1 48) q x4)) 49 (upd (σ.2.1 49) q x5)) 20 (nI (q + 1))
theorem Md_goal {σ : kS} {q : Nat} (x1 x2 x3 x4 x5 : Int32) (h : σ.1 20 = nI q) (hq : q < 1000) : M_Md_goal σ x1 x2 x3 x4 x5 = some (nI q, goalS σ q x1 x2 x3 x4 x5) := by
  unfold M_Md_goal
  rw [k_st_x h hq (by omega), k_st_x (by rw [k_sA1]; exact h) hq (by omega), k_st_x (by rw [k_sA1, k_sA1]; exact h) hq (by omega), k_st_x (by rw [k_sA1, k_sA1, k_sA1]; exact h) hq (by omega), k_st_x (by rw [k_sA1, k_sA1, k_sA1, k_sA1]; exact h) hq (by omega), k_set_r, k_sA1, k_sA1, k_sA1, k_sA1, k_sA1, h, nI_1, k_sSs, nI_pred]
  rfl
theorem goalS_n {σ : kS} {q k : Nat} {x1 x2 x3 x4 x5 : Int32} (h : ¬ (45 ≤ k ∧ k ≤ 49)) : (goalS σ q x1 x2 x3 x4 x5).2.1 k = σ.2.1 k := by
  unfold goalS
  rw [k_sS2, k_sA2 (by omega), k_sA2 (by omega), k_sA2 (by omega), k_sA2 (by omega), k_sA2 (by omega)]
theorem goalS_s {σ : kS} {q k : Nat} {x1 x2 x3 x4 x5 : Int32} (h : k ≠ 20) : (goalS σ q x1 x2 x3 x4 x5).1 k = σ.1 k := k_sSn h
theorem goalS_20 {σ : kS} {q : Nat} {x1 x2 x3 x4 x5 : Int32} : (goalS σ q x1 x2 x3 x4 x5).1 20 = nI (q + 1) := k_sSs
theorem goalS_e {σ : kS} {q : Nat} {x1 x2 x3 x4 x5 : Int32} : (goalS σ q x1 x2 x3 x4 x5).2.1 45 = upd (σ.2.1 45) q x1 ∧ (goalS σ q x1 x2 x3 x4 x5).2.1 46 = upd (σ.2.1 46) q x2 ∧ (goalS σ q x1 x2 x3 x4 x5).2.1 47 = upd (σ.2.1 47) q x3 ∧ (goalS σ q x1 x2 x3 x4 x5).2.1 48 = upd (σ.2.1 48) q x4 ∧ (goalS σ q x1 x2 x3 x4 x5).2.1 49 = upd (σ.2.1 49) q x5 := ⟨rfl, rfl, rfl, rfl, rfl⟩
theorem goalS_g {σ : kS} {q P B k u : Nat} {v x4 : Int32} (h4 : x4 = nI (mv 12 u)) : Goal (goalS σ q (nI P) (nI B) (nI k) x4 v) q P B k u v := by
  obtain ⟨e1, e2, e3, e4, e5⟩ := goalS_e (σ := σ) (q := q) (x1 := nI P) (x2 := nI B) (x3 := nI k) (x4 := x4) (x5 := v)
  refine ⟨?_, ?_, ?_, ?_, ?_⟩
  · rw [e1, k_upd_s]
  · rw [e2, k_upd_s]
  · rw [e3, k_upd_s]
  · rw [e4, k_upd_s, h4]
  · rw [e5, k_upd_s]
theorem goalS_i {σ : kS} {q : Nat} {x1 x2 x3 x4 x5 : Int32} : ∀ k, 45 ≤ k → k ≤ 49 → ∀ i, i < q → (goalS σ q x1 x2 x3 x4 x5).2.1 k i = σ.2.1 k i := by
  intro k h1 h2 i hi
  obtain ⟨e1, e2, e3, e4, e5⟩ := goalS_e (σ := σ) (q := q) (x1 := x1) (x2 := x2) (x3 := x3) (x4 := x4) (x5 := x5)
  rcases (show k = 45 ∨ k = 46 ∨ k = 47 ∨ k = 48 ∨ k = 49 by omega) with h | h | h | h | h
  · rw [h, e1, k_upd_n (by omega)]
  · rw [h, e2, k_upd_n (by omega)]
  · rw [h, e3, k_upd_n (by omega)]
  · rw [h, e4, k_upd_n (by omega)]
  · rw [h, e5, k_upd_n (by omega)]
theorem FrM_goal {σ : kS} {q : Nat} {x1 x2 x3 x4 x5 : Int32} : FrM σ (goalS σ q x1 x2 x3 x4 x5) := ⟨fun k _ h _ => goalS_s h, fun k hk => goalS_n (by omega), rfl⟩
theorem Md_putsLN {s σ : kS} {T t r q : Nat} (hF : FI s T) (hM : SMd s σ) (ht : t < T) (h2 : gN s 2 t ≠ 2) (hr : σ.2.1 57 0 = nI r) (hrT : r < T) (h20 : σ.1 20 = nI q) (hq : q < 1000) (x2 x3 : Int32) :
    M_Md_puts σ (nI t) x2 x3 = if gN s 2 t = gN s 2 r ∧ gN s 3 t = gN s 3 r then (if gN s 2 t = 1 then some (nI q, goalS σ q (nI t) (nI r) 0 0 x3) else some (x3, σ)) else some (-2, σ) := by
  have hT := hF.1
  have hs := T_sort hF ht
  unfold M_Md_puts
  rw [k_ld_n (by omega) (by omega), hM.1.1, if_neg (fun e => h2 ((F_s2 hF ht).mp e)), k_ld_x (x := 0) (i := 0) rfl (by omega) (by omega), hr, k_ld_n (by omega) (by omega), k_ld_n (by omega) (by omega)]
  by_cases c : gN s 2 t = gN s 2 r
  · rw [if_pos ((F_sort2 hF hrT ht).mpr c.symm), k_ld_n (by omega) (by omega), k_ld_n (by omega) (by omega), hM.1.2.1]
    by_cases d : gN s 3 t = gN s 3 r
    · rw [if_pos ((F_name2 hF hrT ht).mpr d.symm), if_pos (c := gN s 2 t = gN s 2 r ∧ gN s 3 t = gN s 3 r) ⟨c, d⟩, k_ld_n (by omega) (by omega)]
      by_cases e : gN s 2 t = 0
      · rw [if_pos ((F_s0 hF ht).mpr e), if_neg (show ¬ gN s 2 t = 1 by omega)]
      · rw [if_neg (fun x => e ((F_s0 hF ht).mp x)), if_pos (show gN s 2 t = 1 by omega), k_call_s (Md_goal _ _ _ _ _ h20 hq)]
    · rw [if_neg (fun x => d ((F_name2 hF hrT ht).mp x).symm), if_neg (c := gN s 2 t = gN s 2 r ∧ gN s 3 t = gN s 3 r) (fun x => d x.2)]
  · rw [if_neg (fun x => c ((F_sort2 hF hrT ht).mp x).symm), if_neg (c := gN s 2 t = gN s 2 r ∧ gN s 3 t = gN s 3 r) (fun x => c x.1)]
theorem RM_mono2 {s : kS} {T j : Nat} {W G Q : Nat → Nat → Nat} {fr : Bool} {σ : kS} (h : RM s T W j fr G Q σ) : ∀ d i, 0 < i → i + d = j → Q 2 i ≤ Q 2 j := by
  intro d
  induction d with
  | zero => intro i _ e; rw [← e]; exact Nat.le_refl _
  | succ d ih =>
    intro i i0 e
    have h1 := ih (i + 1) (by omega) (by omega)
    have h2 := (h.2.2.2.1 i i0 (by omega)).2.2
    omega
theorem RM_give {s σ : kS} {T n j m b : Nat} {W G Q : Nat → Nat → Nat} {R : Nat → Nat} {F : Nat → Int32} (hF : FI s T) (hP : Plan s T n W) (hI : SI s T n W j false G) (hR : RM s T W j false G Q σ) (h2 : gN s 2 (W 0 j) = 2) (h0 : G 3 (gN s 3 (W 0 j)) = 0) (hm : m ≤ 12) (hRT : ∀ k, k < m → R k < T) (hb : b = Q 2 j) (hFe : ∀ i, F i = if 12 * gN s 3 (W 0 j) ≤ i ∧ i < 12 * gN s 3 (W 0 j) + m then nI (R (i - 12 * gN s 3 (W 0 j))) else σ.2.1 43 i) :
    RM s T W j false (gvG G (gN s 3 (W 0 j)) m j R) Q (giveM σ (gN s 3 (W 0 j)) m b F) := by
  have h8 := T_name8 hF (P_tr hP hI.1) h2
  have hm2 := RM_mono2 hR
  obtain ⟨⟨a1, a2⟩, bb, c, d, e, f1, f2, f3⟩ := hR
  obtain ⟨hq, hhq⟩ : ∃ q, q = gN s 3 (W 0 j) := ⟨_, rfl⟩
  have g5 : G 5 hq = 0 := by rw [hhq]; exact ((hI.2.2.2.2.2.2.1 _ h8).1).mp h0
  rw [← hhq] at h8 h0 hFe ⊢
  have d42 : (giveM σ hq m b F).2.1 42 = upd (σ.2.1 42) hq (nI m) := rfl
  have d43 : (giveM σ hq m b F).2.1 43 = F := rfl
  have d44 : (giveM σ hq m b F).2.1 44 = upd (σ.2.1 44) b (nI hq) := rfl
  have dn : ∀ k, k ≠ 42 → k ≠ 43 → k ≠ 44 → (giveM σ hq m b F).2.1 k = σ.2.1 k := fun k x y z => by unfold giveM; rw [k_sS2, k_sA2 z, k_sA2 y, k_sA2 x]
  have ga : ∀ i, i < j → gaS s W (gvG G hq m j R) i = gaS s W G i := fun i hi => by
    unfold gaS
    rw [gvG_5]
    by_cases x : gN s 3 (W 0 i) = hq
    · rw [if_pos x, if_neg (fun y => by omega), x, if_neg (fun y => by omega)]
    · rw [if_neg x]
  have gj : gaS s W (gvG G hq m j R) j = 1 := gaS_1.mpr ⟨h2, by rw [gvG_5, ← hhq, if_pos rfl]⟩
  have g0 : gaS s W G j = 0 := by
    unfold gaS
    rw [← hhq, g5, if_neg (fun x => by omega)]
  have gl : ∀ {g P B k u : Nat} {v : Int32}, Goal σ g P B k u v → Goal (giveM σ hq m b F) g P B k u v := fun h => Goal_cong (L := _ + 1) (Nat.lt_succ_self _) (fun q q1 q2 i _ => by rw [dn q (by omega) (by omega) (by omega)]) h
  have nv : ∀ a, nvI Q a = nvI Q a := fun _ => rfl
  refine ⟨⟨SMd_cong a1 (fun k hk => dn k (by omega) (by omega) (by omega)), a2⟩, fun i i0 hi => ?_, fun i i0 hi => ?_, fun i i0 hi => ?_, fun i i0 hi hx => ?_, ?_, ?_, fun q hq' => ?_⟩
  · obtain ⟨b1, b2, b3, b4⟩ := bb i i0 hi
    rw [dn 50 (by decide) (by decide) (by decide), dn 52 (by decide) (by decide) (by decide), dn 53 (by decide) (by decide) (by decide), gvG_k (by decide) (by decide) (by decide), gvG_k (by decide) (by decide) (by decide)]
    exact ⟨b1, b2, b3, gl b4⟩
  · rw [dn 51 (by decide) (by decide) (by decide), gvG_k (by decide) (by decide) (by decide)]; exact c i i0 hi
  · obtain ⟨d1, d2, d3⟩ := d i i0 hi
    rw [gvG_k (by decide) (by decide) (by decide), gvG_k (by decide) (by decide) (by decide), gvG_k (by decide) (by decide) (by decide), ga i hi]
    exact ⟨d1, gl d2, d3⟩
  · rw [d44]
    rcases (show i = j ∨ i < j by omega) with x | x
    · rw [x, hb, k_upd_s, hhq]
    · rw [ga i x] at hx
      have h1 := (d i i0 x).2.2
      have h2' := hm2 (j - (i + 1)) (i + 1) (by omega) (by omega)
      rw [k_upd_n (by omega)]
      exact e i i0 hi hx
  · rw [gj, ← hb]; rfl
  · have := nmN_chg (G := G) (G' := gvG G hq m j R) h8 (fun i hi => by rw [gvG_3, if_neg hi])
    rw [if_pos h0, gvG_3, if_pos rfl, if_neg (by omega)] at this
    rw [gj]
    omega
  · obtain ⟨n1, n2, n3⟩ := f3 q hq'
    rw [d42, d43, gvG_3]
    by_cases x : q = hq
    · rw [if_pos x, x, k_upd_s]
      refine ⟨rfl, by omega, fun k hk => ?_⟩
      rw [hFe, gvG_4, if_pos ⟨by omega, by omega⟩, if_pos ⟨by omega, by omega⟩, Nat.add_sub_cancel_left]
      exact ⟨rfl, hRT k (by omega)⟩
    · rw [if_neg x, k_upd_n x]
      refine ⟨n1, n2, fun k hk => ?_⟩
      rw [hFe, gvG_4, if_neg (fun y => by omega), if_neg (fun y => by omega)]
      exact n3 k hk
theorem RM_bes {s σ : kS} {T n j r : Nat} {W G Q : Nat → Nat → Nat} (hP : Plan s T n W) (hj : j < n) (hR : RM s T W j false G Q σ) : RM s T W j false (gU G 2 j r) Q σ := by
  obtain ⟨a, bb, c, d, e, f1, f2, f3⟩ := hR
  have ga : ∀ i, gaS s W (gU G 2 j r) i = gaS s W G i := fun i => by unfold gaS; rw [gU_k (by decide)]
  have nm : nmN (gU G 2 j r) = nmN G := by
    have : gU G 2 j r 3 = G 3 := funext (fun i => gU_k (by decide))
    unfold nmN; rw [this]
  refine ⟨a, fun i i0 hi => ?_, fun i i0 hi => ?_, fun i i0 hi => ?_, fun i i0 hi hx => ?_, ?_, ?_, ?_⟩
  · have := (hP.2.2.2.2 i i0 (by omega)).1.2.1
    have q1 : gU G 2 j r 2 (W 1 i) = G 2 (W 1 i) := gU_i (by omega)
    have q2 : gU G 2 j r 0 i = G 0 i := gU_k (by decide)
    rw [q1, q2]; exact bb i i0 hi
  · rw [gU_k (by decide)]; exact c i i0 hi
  · have := (hP.2.2.2.2 i i0 (by omega)).1.2.1
    have q1 : gU G 2 j r 2 (W 1 i) = G 2 (W 1 i) := gU_i (by omega)
    have q2 : gU G 2 j r 0 i = G 0 i := gU_k (by decide)
    have q3 : gU G 2 j r 1 i = G 1 i := gU_k (by decide)
    rw [q1, q2, q3, ga]; exact d i i0 hi
  · rw [ga] at hx; exact e i i0 hi hx
  · rw [ga]; exact f1
  · rw [ga, nm]; exact f2
  · have q1 : gU G 2 j r 3 = G 3 := funext (fun i => gU_k (by decide))
    have q2 : gU G 2 j r 4 = G 4 := funext (fun i => gU_k (by decide))
    rw [q1, q2]; exact f3
/-- the model puts the row before slot j -/
theorem M_puts {s σ : kS} {T n j m q : Nat} {W G Q : Nat → Nat → Nat} {R : Nat → Nat} (hF : FI s T) (hP : Plan s T n W) (hI : SI s T n W j false G) (hR : RM s T W j false G Q σ) (hga : gaS s W G j = 0) (hm : m ≤ 12) (hm1 : ¬ (gN s 2 (W 0 j) = 2 ∧ 2 ≤ gN s 4 (W 0 j)) → m = 1) (h57 : ∀ k, k < m → σ.2.1 57 k = nI (R k) ∧ R k < T) (h20 : σ.1 20 = nI q) (hq : q < 1000) (hqj : 0 < j → Q 0 j < q) (x3 : Int32) :
    ∃ σ', M_Md_puts σ (nI (W 0 j)) (nI m) x3 = some (if fitV s W G j R m = 0 then -2 else if gN s 2 (W 0 j) = 1 then nI q else x3, σ') ∧ FrM σ σ' ∧ RM s T W j false (tryG s W G j R m) Q σ' ∧ (∀ k, 45 ≤ k → k ≤ 49 → ∀ i, i < q → σ'.2.1 k i = σ.2.1 k i) ∧
    (fitV s W G j R m ≠ 0 → σ'.1 20 = nI (q + if gN s 2 (W 0 j) = 1 then 1 else 0) ∧ (gN s 2 (W 0 j) = 1 → Goal σ' q (W 0 j) (fitG s W G j R m 2 j) 0 0 x3)) := by
  have ht := P_tr hP hI.1
  have hT := hF.1
  by_cases c : gN s 2 (W 0 j) = 2
  · have h8 := T_name8 hF ht c
    have ev : fitV s W G j R m = holeV s (W 0 j) (G 3) (G 4) R m := by unfold fitV; rw [if_pos c]
    have h15 : σ.1 15 = nI (Q 2 j) := by have := hR.2.2.2.2.2.1; rw [hga] at this; exact this
    have hnm : Q 2 j = nmN G := by have := hR.2.2.2.2.2.2.1; rw [hga] at this; exact this
    obtain ⟨σ', r1, r2, r3⟩ := Md_binds (R := R) hF hR.1.1 ht c hm (fun k1 => hm1 (fun x => by omega)) h57 hR.2.2.2.2.2.2.2 h15 (fun x => by rw [hnm]; exact nmN_lt h8 x)
    have run : M_Md_puts σ (nI (W 0 j)) (nI m) x3 = some (if fitV s W G j R m = 0 then -2 else if gN s 2 (W 0 j) = 1 then nI q else x3, σ') := by
      unfold M_Md_puts
      rw [k_ld_n (by omega) (by omega), hR.1.1.1.1, if_pos ((F_s2 hF ht).mpr c), k_call_s r1, ev]
      by_cases z : holeV s (W 0 j) (G 3) (G 4) R m = 0
      · rw [if_pos z, if_pos z, if_pos rfl]
      · rw [if_neg z, if_neg z, if_neg (by decide), if_neg (show ¬ gN s 2 (W 0 j) = 1 by omega)]
    by_cases z : holeV s (W 0 j) (G 3) (G 4) R m = 2
    · obtain ⟨F, q1, q2⟩ := r3 z
      have et : tryG s W G j R m = gvG G (gN s 3 (W 0 j)) m j R := by
        unfold tryG fitG
        rw [ev, if_neg (by omega), if_pos c, if_pos z]
      have dn : ∀ k, k ≠ 42 → k ≠ 43 → k ≠ 44 → σ'.2.1 k = σ.2.1 k := fun k x y w => by rw [q2]; unfold giveM; rw [k_sS2, k_sA2 w, k_sA2 y, k_sA2 x]
      refine ⟨σ', run, ?_, ?_, fun k k1 k2 i _ => by rw [dn k (by omega) (by omega) (by omega)], fun _ => ⟨?_, fun x => by omega⟩⟩
      · rw [q2]; exact FrM_tr (FrM_tr (FrM_tr (FrM_sA (by decide) _) (FrM_sA (by decide) _)) (FrM_sA (by decide) _)) (FrM_sS (by decide) _)
      · rw [et, q2]; exact RM_give hF hP hI hR c (holeV_2 z) hm (fun k hk => (h57 k hk).2) rfl q1
      · rw [q2, if_neg (show ¬ gN s 2 (W 0 j) = 1 by omega)]; exact h20
    · have scr := r2 z
      have et : tryG s W G j R m = G := by
        unfold tryG fitG
        rw [if_pos c, if_neg z, ite_self]
      refine ⟨σ', run, FrM_scr scr, ?_, fun k k1 k2 i _ => by rw [scr.2.2 k (by omega) (by omega) (by omega)], fun _ => ⟨?_, fun x => by omega⟩⟩
      · rw [et]; exact RM_cong (by rw [scr.1]) (by rw [scr.1]) (fun k hk _ _ => scr.2.2 k (by omega) (by omega) (by omega)) (fun _ k k1 k2 i _ => by rw [scr.2.2 k (by omega) (by omega) (by omega)]) hR
      · rw [scr.1, if_neg (show ¬ gN s 2 (W 0 j) = 1 by omega)]; exact h20
  · have m1 := hm1 (fun x => c x.1)
    obtain ⟨q1, q2⟩ := h57 0 (by omega)
    have run := Md_putsLN hF hR.1.1 ht c q1 q2 h20 hq (nI m) x3
    have ev : fitV s W G j R m = if gN s 2 (W 0 j) = gN s 2 (R 0) ∧ gN s 3 (W 0 j) = gN s 3 (R 0) then 1 else 0 := by unfold fitV; rw [if_neg c]
    have eg : fitG s W G j R m = gU G 2 j (R 0) := by unfold fitG; rw [if_neg c]
    by_cases d : gN s 2 (W 0 j) = gN s 2 (R 0) ∧ gN s 3 (W 0 j) = gN s 3 (R 0)
    · rw [if_pos d] at ev run
      have et : tryG s W G j R m = gU G 2 j (R 0) := by unfold tryG; rw [ev, if_neg (by decide), eg]
      rw [ev, et, eg, if_neg (by decide)]
      by_cases e : gN s 2 (W 0 j) = 1
      · rw [if_pos e] at run
        refine ⟨goalS σ q (nI (W 0 j)) (nI (R 0)) 0 0 x3, by rw [if_pos e]; exact run, FrM_goal, ?_, goalS_i, fun _ => ⟨by rw [if_pos e]; exact goalS_20, fun _ => by rw [gU_s]; exact goalS_g (k := 0) (u := 0) (by rw [mv_0]; rfl)⟩⟩
        refine RM_bes hP hI.1 (RM_cong (goalS_s (by decide)) (goalS_s (by decide)) (fun k hk _ h => goalS_n h) (fun j0 k k1 k2 i hi => goalS_i k k1 k2 i (by have := hqj j0; omega)) hR)
      · rw [if_neg e] at run
        exact ⟨σ, by rw [if_neg e]; exact run, FrM_rfl σ, RM_bes hP hI.1 hR, fun _ _ _ _ _ => rfl, fun _ => ⟨by rw [if_neg e]; exact h20, fun x => absurd x e⟩⟩
    · rw [if_neg d] at ev run
      have et : tryG s W G j R m = G := by unfold tryG; rw [ev, if_pos rfl]
      rw [ev, et, if_pos rfl]
      exact ⟨σ, run, FrM_rfl σ, hR, fun _ _ _ _ _ => rfl, fun x => absurd rfl x⟩
