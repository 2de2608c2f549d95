/-! the model: from a choice to its try, and what comes after a fit -/
theorem bit_cb {c a i : Nat} (hs : ∀ i, i < 12 → c.testBit i = true → a.testBit i = true) {cnt u : Nat} (ha : a = dif (2 ^ cnt - 1) u) (hi : i < 12) (hb : c / 2 ^ i % 2 = 1) : i < cnt := by
  have h1 := hs i hi (by rw [bit_dm]; exact decide_eq_true hb)
  rw [ha, dif_bit (by omega), Nat.testBit_two_pow_sub_one] at h1
  cases hd : decide (i < cnt)
  · rw [hd] at h1; cases h1
  · exact of_decide_eq_true hd
/-- what a slot's choice c comes to: its row has the right length -/
theorem LaOK_m {s : kS} {t a c : Nat} (h : LaOK s t a c) : pop 12 c ≤ 12 ∧ (¬ (gN s 2 t = 2 ∧ 2 ≤ gN s 4 t) → pop 12 c = 1) := by
  refine ⟨pop_le 12 c, fun hn => ?_⟩
  obtain ⟨p, hp, e⟩ := h.2.2 hn
  rw [e]
  have key : ∀ p, p < 12 → pop 12 (2 ^ p) = 1 := by decide +kernel
  exact key p hp
theorem M_try {s : kS} {T n j : Nat} {W G Q : Nat → Nat → Nat} {σ : kS} {R : Nat → Nat} {m : Nat} (hF : FI s T) (hP : Plan s T n W) (hI : SI s T n W (j + 1) false G) (hR : RM s T W (j + 1) false G Q σ) (hga : gaS s W G (j + 1) = 0) (h20 : σ.1 20 = nI (Q 0 (j + 1))) (self : kS → Option (Int32 × kS))
    (eR : R = rowF s (G 2 (W 1 (j + 1))) (G 1 (j + 1)) 12) (em : m = pop 12 (G 1 (j + 1))) :
    ∃ σ', FrM σ σ' ∧ M_Md_otherwise_89 self k_fu σ (nI j) (nI (Q 1 (j + 1))) (nI (mv 12 (G 1 (j + 1)))) 0 0 = (if fitV s W G (j + 1) R m = 0 then self σ' else some (if gN s 2 (W 0 (j + 1)) = 1 then nI (Q 0 (j + 1) + 1) else nI (Q 0 (j + 1)), σ')) ∧ RM s T W (j + 1) false (tryG s W G (j + 1) R m) Q σ' ∧
    (fitV s W G (j + 1) R m ≠ 0 → σ'.1 20 = nI (Q 0 (j + 1) + 1 + if gN s 2 (W 0 (j + 1)) = 1 then 1 else 0) ∧ (gN s 2 (W 0 (j + 1)) = 1 → Goal σ' (Q 0 (j + 1) + 1) (W 0 (j + 1)) (fitG s W G (j + 1) R m 2 (j + 1)) 0 0 (nI (Q 0 (j + 1)))) ∧ Goal σ' (Q 0 (j + 1)) (W 0 (W 1 (j + 1))) (G 2 (W 1 (j + 1))) (W 2 (j + 1) + 1) (G 0 (j + 1) ||| G 1 (j + 1)) (nvI Q (W 1 (j + 1)))) := by
  have hn := hP.1
  have hj := hI.1
  have hT := hF.1
  obtain ⟨⟨⟨p1, p2, p3, p4, p5⟩, _⟩⟩ : _ ∧ True := ⟨hP.2.2.2.2 (j + 1) (by omega) hj, trivial⟩
  obtain ⟨a1, a2, a3⟩ := SI_av hF hP hI (show 0 < j + 1 by omega) (Nat.le_refl _)
  have hla := hI.2.2.1 (j + 1) (by omega) (Nat.le_refl _) (fun _ => rfl)
  obtain ⟨hm12, hm1⟩ := LaOK_m hla
  have hcb : ∀ k, k < 12 → G 1 (j + 1) / 2 ^ k % 2 = 1 → k < gN s 9 (G 2 (W 1 (j + 1))) := fun k hk hb => bit_cb hla.2.1 (u := G 0 (j + 1)) rfl hk hb
  obtain ⟨⟨b1, b2, b3⟩, b4, b5, b6⟩ := hR.2.1 (j + 1) (by omega) (Nat.le_refl _)
  have hpT := P_tr hP (show W 1 (j + 1) < n by omega)
  have hcP := T_cnt hF hpT
  have p4' : W 2 (j + 1) < gN s 9 (W 0 (W 1 (j + 1))) := p4
  obtain ⟨F', g1, g2⟩ := Md_gath hF hR.1.1.1.2.2.2.2 (show Q 1 (j + 1) < 1000 by omega) a1 b6.2.1 hcb self (nI j) 12 0 (k_fu - 13) (σ.2.1 57) (by omega) (fun i hi => absurd hi (Nat.not_lt_zero i))
  rw [show k_fu - 13 + 12 + 1 = k_fu by unfold k_fu; omega, sA_id] at g1
  obtain ⟨σ1, hσ1⟩ : ∃ σ1, σ1 = k_sA σ 57 F' := ⟨_, rfl⟩
  rw [← hσ1] at g1
  have f1 : FrM σ σ1 := by rw [hσ1]; exact FrM_sA (by decide) _
  have e1 : ∀ k, k ≠ 57 → σ1.2.1 k = σ.2.1 k := fun k hk => by rw [hσ1, k_sA2 hk]
  have s1 : σ1.1 = σ.1 := by rw [hσ1]; rfl
  have G1 : Goal σ1 (Q 1 (j + 1)) (W 0 (W 1 (j + 1))) (G 2 (W 1 (j + 1))) (W 2 (j + 1)) (G 0 (j + 1)) (nvI Q (W 1 (j + 1))) := Goal_cong (L := Q 1 (j + 1) + 1) (by omega) (fun q q1 q2 i _ => by rw [e1 q (by omega)]) b6
  obtain ⟨σ2, hσ2⟩ : ∃ σ2, σ2 = goalS σ1 (Q 0 (j + 1)) (nI (W 0 (W 1 (j + 1)))) (nI (G 2 (W 1 (j + 1)))) (nI (W 2 (j + 1) + 1)) (nI (mv 12 (G 0 (j + 1))) ||| nI (mv 12 (G 1 (j + 1)))) (nvI Q (W 1 (j + 1))) := ⟨_, rfl⟩
  have g20 : σ1.1 20 = nI (Q 0 (j + 1)) := by rw [s1]; exact h20
  have own : Goal σ2 (Q 0 (j + 1)) (W 0 (W 1 (j + 1))) (G 2 (W 1 (j + 1))) (W 2 (j + 1) + 1) (G 0 (j + 1) ||| G 1 (j + 1)) (nvI Q (W 1 (j + 1))) := by
    rw [hσ2]; exact goalS_g (by rw [nI_or, mv_or])
  have R2 : RM s T W (j + 1) false G Q σ2 := by
    rw [hσ2]
    refine RM_cong ((goalS_s (by decide)).trans (by rw [s1])) ((goalS_s (by decide)).trans (by rw [s1])) (fun k hk _ h => (goalS_n h).trans (e1 k (by omega))) (fun _ k k1 k2 i hi => (goalS_i k k1 k2 i hi).trans (by rw [e1 k (by omega)])) hR
  have f2 : FrM σ σ2 := by rw [hσ2]; exact FrM_tr f1 FrM_goal
  have r57 : ∀ k, k < pop 12 (G 1 (j + 1)) → σ2.2.1 57 k = nI (R k) ∧ R k < T := fun k hk => by
    rw [hσ2, goalS_n (by decide), hσ1, k_sAs, eR]
    exact ⟨g2 k hk, rowF_lt hF a1 hcb 12 (by omega) k hk⟩
  rw [← em] at r57 hm12 hm1
  obtain ⟨σ', r1, r2, r3, r4, r5⟩ := M_puts (R := R) (m := m) (q := Q 0 (j + 1) + 1) hF hP hI R2 hga hm12 hm1 r57 (by rw [hσ2]; exact goalS_20) (by omega) (fun _ => by omega) (nI (Q 0 (j + 1)))
  refine ⟨σ', FrM_tr f2 r2, ?_, r3, fun hv => ?_⟩
  · have e0 : M_Md_otherwise_89 self k_fu σ (nI j) (nI (Q 1 (j + 1))) (nI (mv 12 (G 1 (j + 1)))) 0 0 = _ := g1
    rw [e0]
    show M_Md_otherwise_89_b self (M_Md_otherwise_89 self (k_fu - 13)) σ1 _ _ _ _ _ = _
    have e45 : σ2.2.1 45 (Q 1 (j + 1)) = nI (W 0 (W 1 (j + 1))) := by rw [hσ2, goalS_i 45 (by decide) (by decide) _ b4]; exact G1.1
    have e47 : σ2.2.1 47 (Q 1 (j + 1)) = nI (W 2 (j + 1)) := by rw [hσ2, goalS_i 47 (by decide) (by decide) _ b4]; exact G1.2.2.1
    unfold M_Md_otherwise_89_b
    rw [if_pos (show (12 : Int32) ≤ nI 12 by decide), k_ld_n (by omega) (by omega), G1.1, k_ld_n (by omega) (by omega), G1.2.1, k_ld_n (by omega) (by omega), G1.2.2.1, k_ld_n (by omega) (by omega), G1.2.2.2.1, k_ld_n (by omega) (by omega), G1.2.2.2.2, nI_1, k_call_s (Md_goal _ _ _ _ _ g20 (by omega)), ← hσ2, k_ld_n (by omega) (by omega), e45, k_ld_n (by omega) (by omega), e47, k_12i, k_ld_n (by omega) (by omega), R2.1.1.1.2.2.2.2, (T_part hF hpT p4').1, ← p5, ← em, k_call_s r1]
    by_cases z : fitV s W G (j + 1) R m = 0
    · rw [if_pos z, if_pos rfl, if_pos z]
    · rw [if_neg z, if_neg z]
      by_cases y : gN s 2 (W 0 (j + 1)) = 1
      · rw [if_pos y, if_neg (show ¬ nI (Q 0 (j + 1) + 1) = -2 from fun x => nI_pos (n := Q 0 (j + 1) + 1) (by omega) (by rw [x]; decide))]
      · rw [if_neg y, if_neg (show ¬ nI (Q 0 (j + 1)) = -2 from fun x => nI_pos (n := Q 0 (j + 1)) (by omega) (by rw [x]; decide))]
  · obtain ⟨t1, t2⟩ := r5 hv
    exact ⟨t1, t2, Goal_cong (L := Q 0 (j + 1) + 1) (by omega) r4 own⟩
/-- up from slot a -/
theorem M_climb {s σ : kS} {T n j : Nat} {W G Q : Nat → Nat → Nat} (hF : FI s T) (hM : SMd s σ) (hP : Plan s T n W) (hI : SI s T n W j false G) (hG : ∀ a, 0 < a → a ≤ j → Q 0 a < 1000 ∧ Goal σ (Q 0 a) (W 0 (W 1 a)) (G 2 (W 1 a)) (W 2 a + 1) (G 0 a ||| G 1 a) (nvI Q (W 1 a))) (x1 x2 x3 : Int32) :
    ∀ f a b, a ≤ j → 21 ≤ f + gN s 7 (W 0 a) → ∃ b1, b ≤ b1 ∧
      (climb s W (leftS s W G j) f a = 0 → M_Md_search_96 (b + f) σ x1 x2 x3 (nvI Q a) = k_call (M_Md_otherwise σ) fun v σ' => M_Md_search_96 b1 σ' x1 x2 x3 v) ∧
      (climb s W (leftS s W G j) f a = 1 → M_Md_search_96 (b + f) σ x1 x2 x3 (nvI Q a) = M_Md_search_96 (b1 + 1) σ x1 x2 x3 (-1)) ∧
      (∀ a', climb s W (leftS s W G j) f a = a' + 2 → M_Md_search_96 (b + f) σ x1 x2 x3 (nvI Q a) = M_Md_search_96 (b1 + 1) σ x1 x2 x3 (nI (Q 0 a'))) := by
  have hn := hP.1
  have hj := hI.1
  have hT := hF.1
  intro f
  induction f with
  | zero =>
    intro a b ha hf
    have := T_dep hF (P_tr hP (show a < n by omega))
    omega
  | succ f ih =>
    intro a b ha hf
    have e : climb s W (leftS s W G j) (f + 1) a = if a = 0 then 1 else if W 2 a + 1 = cnS s W (W 1 a) then (if leftS s W G j a = 0 then climb s W (leftS s W G j) f (W 1 a) else 0) else a + 2 := rfl
    rw [e]
    by_cases a0 : a = 0
    · rw [if_pos a0]
      refine ⟨b + f, by omega, fun x => by omega, fun _ => ?_, fun a' x => by omega⟩
      rw [a0]; rfl
    · obtain ⟨g1, g2⟩ := hG a (by omega) ha
      obtain ⟨⟨b1, b2, b3, b4, b5⟩, _⟩ := hP.2.2.2.2 a (by omega) (by omega)
      obtain ⟨v1, v2, v3⟩ := SI_av hF hP hI (show 0 < a by omega) ha
      have hpT := P_tr hP (show W 1 a < n by omega)
      have hcP := T_cnt hF hpT
      have ev : nvI Q a = nI (Q 0 a) := if_neg a0
      rw [if_neg a0]
      by_cases la : W 2 a + 1 = cnS s W (W 1 a)
      · have hlt := dif_le (2 ^ gN s 9 (G 2 (W 1 a)) - 1) (G 0 a ||| G 1 a)
        have hal := all_lt (T_cnt hF v1)
        have eL : leftS s W G j a = dif (2 ^ gN s 9 (G 2 (W 1 a)) - 1) (G 0 a ||| G 1 a) := by unfold leftS alS; rw [if_neg (by omega)]
        have step : M_Md_search_96 (b + (f + 1)) σ x1 x2 x3 (nvI Q a) = if leftS s W G j a = 0 then M_Md_search_96 (b + f) σ x1 x2 x3 (nvI Q (W 1 a)) else k_call (M_Md_otherwise σ) fun v σ' => M_Md_search_96 (b + f) σ' x1 x2 x3 v := by
          show M_Md_search_96_b (M_Md_search_96 (b + f)) σ x1 x2 x3 _ = _
          have la' : W 2 a + 1 = gN s 9 (W 0 (W 1 a)) := la
          unfold M_Md_search_96_b
          rw [ev, if_neg (fun x => nI_pos (n := Q 0 a) (by omega) (by rw [x]; decide)), if_neg (fun x => nI_pos (n := Q 0 a) (by omega) (by rw [x]; decide)), k_ld_n g1 (by omega), g2.2.2.1, k_ld_n g1 (by omega), g2.1, k_ld_n (by omega) (by omega), hM.1.2.2.2.1, T_e9 hF hpT, if_pos (show nI (W 2 a + 1) = nI (gN s 9 (W 0 (W 1 a))) by rw [la']), k_call_s (Md_left hF hM g1 v1 g2), eL]
          by_cases z : dif (2 ^ gN s 9 (G 2 (W 1 a)) - 1) (G 0 a ||| G 1 a) = 0
          · rw [if_pos z, z, mv_0, if_pos (show nI 0 = 0 from rfl), k_ld_n g1 (by omega), g2.2.2.2.2]
          · rw [if_neg z, if_neg (fun x => z ((mv_z (n := 12) (by omega)).mp ((nI_z (Nat.lt_of_lt_of_le (mv12_lt _) (by omega))).mp x)))]
        rw [if_pos la, step]
        by_cases z : leftS s W G j a = 0
        · rw [if_pos z, if_pos z]
          have hd2 := (T_part hF hpT b4).2.2
          rw [← b5] at hd2
          exact ih (W 1 a) b (by omega) (by omega)
        · rw [if_neg z, if_neg z]
          exact ⟨b + f, by omega, fun _ => rfl, fun x => by omega, fun a' x => by omega⟩
      · rw [if_neg la]
        refine ⟨b + f, by omega, fun x => by omega, fun x => by omega, fun a' x => ?_⟩
        rw [ev, show a' = a by omega]
        rfl
/-- the next slot is reached -/
def psQ (Q : Nat → Nat → Nat) (j e g b : Nat) : Nat → Nat → Nat := gU (gU (gU Q 0 (j + 1) e) 1 (j + 1) g) 2 (j + 1) b
theorem M_push {s σ : kS} {T n j e g v : Nat} {W G Q : Nat → Nat → Nat} (hF : FI s T) (hP : Plan s T n W) (hI : SI s T n W j false G) (hR : RM s T W j false G Q σ) (hjn : j + 1 < n) (h20 : σ.1 20 = nI e) (he : e < 2 * (j + 1)) (hej : 0 < j → Q 0 j < e) (hge : g < e)
    (own : 0 < j → Goal σ (Q 0 j) (W 0 (W 1 j)) (G 2 (W 1 j)) (W 2 j + 1) (G 0 j ||| G 1 j) (nvI Q (W 1 j)))
    (hg : Goal σ g (W 0 (W 1 (j + 1))) (G 2 (W 1 (j + 1))) (W 2 (j + 1)) (psG G j v 0 (j + 1)) (nvI Q (W 1 (j + 1)))) (hp : W 2 (j + 1) < cnS s W (W 1 (j + 1))) (x1 x2 x3 : Int32) (b1 : Nat) :
    ∃ σ', FrM σ σ' ∧ M_Md_search_96 (b1 + 1) σ x1 x2 x3 (nI g) = (k_call (M_Md_otherwise σ') fun v σ' => M_Md_search_96 b1 σ' x1 x2 x3 v) ∧ RM s T W (j + 1) true (psG G j v) (psQ Q j e g (Q 2 j + gaS s W G j)) σ' := by
  have hn := hP.1
  have hT := hF.1
  have hW1 := (hP.2.2.2.2 (j + 1) (by omega) hjn).1.2.1
  have hpT := P_tr hP (show W 1 (j + 1) < n by omega)
  have hcP := T_cnt hF hpT
  have hmo := RM_mono hR
  obtain ⟨⟨a1, a2⟩, bb, c, d, ee, f1, f2, f3⟩ := hR
  obtain ⟨σ', hσ'⟩ : ∃ σ', σ' = k_sS (k_sA (k_sA (k_sA (k_sA σ 50 (upd (σ.2.1 50) j (nI g))) 51 (upd (σ.2.1 51) j (-1))) 52 (upd (σ.2.1 52) j (nI (Q 2 j + gaS s W G j)))) 53 (upd (σ.2.1 53) j (nI e))) 21 (nI (j + 1)) := ⟨_, rfl⟩
  have r50 : σ'.2.1 50 = upd (σ.2.1 50) j (nI g) := by rw [hσ']; rfl
  have r51 : σ'.2.1 51 = upd (σ.2.1 51) j (-1) := by rw [hσ']; rfl
  have r52 : σ'.2.1 52 = upd (σ.2.1 52) j (nI (Q 2 j + gaS s W G j)) := by rw [hσ']; rfl
  have r53 : σ'.2.1 53 = upd (σ.2.1 53) j (nI e) := by rw [hσ']; rfl
  have rn : ∀ k, k ≠ 50 → k ≠ 51 → k ≠ 52 → k ≠ 53 → σ'.2.1 k = σ.2.1 k := fun k w x y z => by rw [hσ', k_sS2, k_sA2 z, k_sA2 y, k_sA2 x, k_sA2 w]
  have fr : FrM σ σ' := by rw [hσ']; exact FrM_tr (FrM_tr (FrM_tr (FrM_tr (FrM_sA (by decide) _) (FrM_sA (by decide) _)) (FrM_sA (by decide) _)) (FrM_sA (by decide) _)) (FrM_sS (by decide) _)
  have gl : ∀ {g P B k u : Nat} {v : Int32}, Goal σ g P B k u v → Goal σ' g P B k u v := fun h => Goal_cong (L := _ + 1) (Nat.lt_succ_self _) (fun q q1 q2 i _ => by rw [rn q (by omega) (by omega) (by omega) (by omega)]) h
  have ek : ∀ k i, k ≠ 0 → k ≠ 1 → psG G j v k i = G k i := fun k i x0 x1 => by unfold psG; rw [gU_k x1, gU_k x0]
  have ei : ∀ k i, i ≤ j → psG G j v k i = G k i := fun k i x => by unfold psG; rw [gU_i (by omega), gU_i (by omega)]
  have q0 : psQ Q j e g (Q 2 j + gaS s W G j) 0 (j + 1) = e := by unfold psQ; rw [gU_k (by decide), gU_k (by decide), gU_s]
  have q1 : psQ Q j e g (Q 2 j + gaS s W G j) 1 (j + 1) = g := by unfold psQ; rw [gU_k (by decide), gU_s]
  have q2 : psQ Q j e g (Q 2 j + gaS s W G j) 2 (j + 1) = Q 2 j + gaS s W G j := by unfold psQ; rw [gU_s]
  have qi : ∀ k i, i ≤ j → psQ Q j e g (Q 2 j + gaS s W G j) k i = Q k i := fun k i x => by unfold psQ; rw [gU_i (by omega), gU_i (by omega), gU_i (by omega)]
  have nv : ∀ a, a ≤ j → nvI (psQ Q j e g (Q 2 j + gaS s W G j)) a = nvI Q a := fun a x => by unfold nvI; rw [qi 0 a x]
  have ga : ∀ i, gaS s W (psG G j v) i = gaS s W G i := fun i => by unfold gaS; rw [ek 5 _ (by decide) (by decide)]
  have gj : gaS s W (psG G j v) (j + 1) = 0 := by
    rw [ga]
    have h1 := gaS_le s W G (j + 1)
    rcases (show gaS s W G (j + 1) = 0 ∨ gaS s W G (j + 1) = 1 by omega) with x | x
    · exact x
    · obtain ⟨y1, y2⟩ := gaS_1.mp x
      have := (hI.2.2.2.2.2.2.1 _ (T_name8 hF (P_tr hP hjn) y1)).2.1
      omega
  have e3 : psG G j v 3 = G 3 := funext (fun i => ek 3 i (by decide) (by decide))
  have e4 : psG G j v 4 = G 4 := funext (fun i => ek 4 i (by decide) (by decide))
  have nm : nmN (psG G j v) = nmN G := by unfold nmN; rw [e3]
  refine ⟨σ', fr, ?_, ⟨SMd_cong a1 (fun k hk => rn k (by omega) (by omega) (by omega) (by omega)), by rw [hσ']; rfl⟩, fun i i0 hi => ?_, fun i i0 hi => ?_, fun i i0 hi => ?_, fun i i0 hi hx => ?_, ?_, ?_, ?_⟩
  · show M_Md_search_96_b (M_Md_search_96 b1) σ x1 x2 x3 (nI g) = _
    have hp' : W 2 (j + 1) < gN s 9 (W 0 (W 1 (j + 1))) := hp
    unfold M_Md_search_96_b
    rw [if_neg (fun x => nI_pos (n := g) (by omega) (by rw [x]; decide)), if_neg (fun x => nI_pos (n := g) (by omega) (by rw [x]; decide)), k_ld_n (by omega) (by omega), hg.2.2.1, k_ld_n (by omega) (by omega), hg.1, k_ld_n (by omega) (by omega), a1.1.2.2.2.1, T_e9 hF hpT, if_neg (fun x => by have := (nI_eq (by omega) (by omega)).mp x; omega)]
    rw [k_st_x a2 (by omega) (by omega), k_st_x (by rw [k_sA1]; exact a2) (by omega) (by omega), k_st_x (by rw [k_sA1, k_sA1]; exact a2) (by omega) (by omega), k_st_x (by rw [k_sA1, k_sA1, k_sA1]; exact a2) (by omega) (by omega), k_set_r, hσ', ← h20, ← nI_1 j, ← a2, ← f1]
    rfl
  · by_cases x : i = j + 1
    · rw [x, Nat.add_sub_cancel, r50, r52, r53, k_upd_s, k_upd_s, k_upd_s, q0, q1, q2, ek 2 _ (by decide) (by decide), nv _ (by omega)]
      exact ⟨⟨rfl, rfl, rfl⟩, hge, he, gl hg⟩
    · obtain ⟨b1, b2, b3, b4⟩ := bb i i0 (by omega)
      have := (hP.2.2.2.2 i i0 (by omega)).1.2.1
      rw [r50, r52, r53, k_upd_n (by omega), k_upd_n (by omega), k_upd_n (by omega), qi 0 i (by omega), qi 1 i (by omega), qi 2 i (by omega), ek 2 _ (by decide) (by decide), ei 0 i (by omega), nv _ (by omega)]
      exact ⟨b1, b2, b3, gl b4⟩
  · rw [r51]
    by_cases x : i = j + 1
    · rw [x, Nat.add_sub_cancel, k_upd_s, if_pos ⟨rfl, rfl⟩]
    · rw [k_upd_n (by omega), if_neg (fun y => x y.1), ei 1 i (by omega), c i i0 (by omega), if_neg (fun y => k_ft y.2)]
  · have hw := (hP.2.2.2.2 i i0 (by omega)).1.2.1
    rw [qi 0 i (by omega), qi 2 i (by omega), ek 2 _ (by decide) (by decide), ei 0 i (by omega), ei 1 i (by omega), nv _ (by omega), ga]
    by_cases x : i = j
    · rw [x, q0, q2]
      rw [x] at i0
      exact ⟨hej i0, gl (own i0), rfl⟩
    · rw [qi 0 (i + 1) (by omega), qi 2 (i + 1) (by omega)]
      obtain ⟨d1, d2, d3⟩ := d i i0 (by omega)
      exact ⟨d1, gl d2, d3⟩
  · by_cases x : i = j + 1
    · rw [x, gj] at hx; omega
    · rw [ga] at hx
      rw [rn 44 (by decide) (by decide) (by decide) (by decide), qi 2 i (by omega)]
      exact ee i i0 (by omega) hx
  · rw [gj, q2, hσ', k_sSn (by decide)]; exact f1
  · rw [gj, q2, nm]; exact f2
  · rw [e3, e4]; exact NmM_cong f3 (rn 42 (by decide) (by decide) (by decide) (by decide)) (rn 43 (by decide) (by decide) (by decide) (by decide))
