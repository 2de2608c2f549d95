/-- the model after a fit at slot j -/
theorem M_after {s σ : kS} {T n j q e : Nat} {W G Q : Nat → Nat → Nat} (hF : FI s T) (hP : Plan s T n W) (hI : SI s T n W j false G) (hR : RM s T W j false G Q σ) (hb : gN s 2 (W 0 j) ≠ 2 → G 2 j < T) (hq : q = if j = 0 then 0 else Q 0 j + 1) (h20 : σ.1 20 = nI e) (he : e = q + if gN s 2 (W 0 j) = 1 then 1 else 0)
    (own : 0 < j → Goal σ (Q 0 j) (W 0 (W 1 j)) (G 2 (W 1 j)) (W 2 j + 1) (G 0 j ||| G 1 j) (nvI Q (W 1 j))) (node : gN s 2 (W 0 j) = 1 → Goal σ q (W 0 j) (G 2 j) 0 0 (nvI Q j)) (x1 x2 x3 : Int32) (b v : Nat) (hv : v = endV s W (leftS s W G j) j) :
    ∃ b1, b ≤ b1 ∧ (v = 0 → M_Md_search_96 (b + 23) σ x1 x2 x3 (if gN s 2 (W 0 j) = 1 then nI q else nvI Q j) = k_call (M_Md_otherwise σ) fun v σ' => M_Md_search_96 b1 σ' x1 x2 x3 v) ∧
      (v = 1 → M_Md_search_96 (b + 23) σ x1 x2 x3 (if gN s 2 (W 0 j) = 1 then nI q else nvI Q j) = M_Md_search_96 (b1 + 1) σ x1 x2 x3 (-1)) ∧
      (2 ≤ v → ∃ σ' Q', FrM σ σ' ∧ M_Md_search_96 (b + 23) σ x1 x2 x3 (if gN s 2 (W 0 j) = 1 then nI q else nvI Q j) = (k_call (M_Md_otherwise σ') fun v σ' => M_Md_search_96 b1 σ' x1 x2 x3 v) ∧ RM s T W (j + 1) true (psG G j v) Q' σ') := by
  have hn := hP.1
  have hj := hI.1
  have hT := hF.1
  have ht := P_tr hP hj
  have hmo := RM_mono hR
  have hQj : 0 < j → Q 0 j < 2 * j := fun j0 => (hR.2.1 j j0 (Nat.le_refl j)).2.2.1
  have hqe : q < 2 * j + 1 ∧ (0 < j → Q 0 j < q) := by
    rw [hq]
    by_cases j0 : j = 0
    · rw [if_pos j0]; exact ⟨by omega, fun x => by omega⟩
    · rw [if_neg j0]; have := hQj (by omega); exact ⟨by omega, fun _ => by omega⟩
  have hee : q ≤ e ∧ e ≤ q + 1 := by rw [he]; split <;> omega
  have hG : ∀ a, 0 < a → a ≤ j → Q 0 a < 1000 ∧ Goal σ (Q 0 a) (W 0 (W 1 a)) (G 2 (W 1 a)) (W 2 a + 1) (G 0 a ||| G 1 a) (nvI Q (W 1 a)) := by
    intro a a0 ha
    refine ⟨by have := (hR.2.1 a a0 ha).2.2.1; omega, ?_⟩
    by_cases x : a = j
    · rw [x]; rw [x] at a0; exact own a0
    · exact (hR.2.2.2.1 a a0 (by omega)).2.1
  -- up from slot j, nothing is below it
  have up : ∀ B, b ≤ B → cnS s W j = 0 → ∃ b1, b ≤ b1 ∧ (climb s W (leftS s W G j) 21 j = 0 → M_Md_search_96 (B + 21) σ x1 x2 x3 (nvI Q j) = k_call (M_Md_otherwise σ) fun v σ' => M_Md_search_96 b1 σ' x1 x2 x3 v) ∧
      (climb s W (leftS s W G j) 21 j = 1 → M_Md_search_96 (B + 21) σ x1 x2 x3 (nvI Q j) = M_Md_search_96 (b1 + 1) σ x1 x2 x3 (-1)) ∧
      (2 ≤ climb s W (leftS s W G j) 21 j → ∃ σ' Q', FrM σ σ' ∧ M_Md_search_96 (B + 21) σ x1 x2 x3 (nvI Q j) = (k_call (M_Md_otherwise σ') fun v σ' => M_Md_search_96 b1 σ' x1 x2 x3 v) ∧ RM s T W (j + 1) true (psG G j (climb s W (leftS s W G j) 21 j)) Q' σ') := by
    intro B hB hc
    obtain ⟨b1, c1, c2, c3, c4⟩ := M_climb hF hR.1.1 hP hI hG x1 x2 x3 21 j B (Nat.le_refl j) (by omega)
    refine ⟨b1, by omega, c2, c3, fun x => ?_⟩
    obtain ⟨_, k2⟩ := climb_spec (L := leftS s W G j) hP hj 21 j (Nat.le_refl j) (P_en1 hF hP hj hc)
    obtain ⟨a', y1, y2, y3, y4, y5, y6, y7, y8⟩ := k2 _ rfl (by omega) (by omega)
    rw [y1]
    have e0 : psG G j (a' + 2) 0 (j + 1) = G 0 a' ||| G 1 a' := by unfold psG; rw [gU_k (by decide), gU_s, if_neg (by omega), Nat.add_sub_cancel]
    have hlt := hmo (j - a') a' y2 (by omega)
    obtain ⟨σ', r1, r2, r3⟩ := M_push (e := e) (g := Q 0 a') (v := a' + 2) hF hP hI hR y6 h20 (by omega) (fun j0 => by have := hqe.2 j0; omega) (by have := hqe.2 (by omega); omega) own (by rw [e0, y7, y8]; exact (hG a' y2 y3).2) (by rw [y7, y8]; exact y5) x1 x2 x3 b1
    exact ⟨σ', _, r1, (c4 a' y1).trans r2, r3⟩
  by_cases c : gN s 2 (W 0 j) = 1
  · rw [if_pos c]
    have hBT := hb (by omega)
    have g := node c
    by_cases d : cnS s W j = 0
    · have d' : gN s 9 (W 0 j) = 0 := d
      have eL : leftS s W G j (j + 100) = alS s G j := by unfold leftS; rw [if_pos rfl]
      have hal : alS s G j < 4096 := all_lt (T_cnt hF hBT)
      have ev : v = if alS s G j = 0 then climb s W (leftS s W G j) 21 j else 0 := by rw [hv]; unfold endV; rw [if_pos c, if_pos d, eL]
      have step : M_Md_search_96 (b + 23) σ x1 x2 x3 (nI q) = if alS s G j = 0 then M_Md_search_96 (b + 1 + 21) σ x1 x2 x3 (nvI Q j) else k_call (M_Md_otherwise σ) fun v σ' => M_Md_search_96 (b + 22) σ' x1 x2 x3 v := by
        show M_Md_search_96_b (M_Md_search_96 (b + 22)) σ x1 x2 x3 _ = _
        unfold M_Md_search_96_b
        rw [if_neg (fun x => nI_pos (n := q) (by omega) (by rw [x]; decide)), if_neg (fun x => nI_pos (n := q) (by omega) (by rw [x]; decide)), k_ld_n (by omega) (by omega), g.2.2.1, k_ld_n (by omega) (by omega), g.1, k_ld_n (by omega) (by omega), hR.1.1.1.2.2.2.1, T_e9 hF ht, d', if_pos rfl, k_call_s (Md_left hF hR.1.1 (by omega) hBT g), show dif (2 ^ gN s 9 (G 2 j) - 1) 0 = alS s G j from dif_z _ hal]
        by_cases z : alS s G j = 0
        · rw [if_pos z, z, mv_0, if_pos (show nI 0 = 0 from rfl), k_ld_n (by omega) (by omega), g.2.2.2.2]
        · rw [if_neg z, if_neg (fun x => z ((mv_z (n := 12) (by omega)).mp ((nI_z (Nat.lt_of_lt_of_le (mv12_lt _) (by omega))).mp x)))]
      rw [step]
      by_cases z : alS s G j = 0
      · rw [if_pos z]
        rw [if_pos z] at ev
        rw [ev]
        exact up (b + 1) (by omega) d
      · rw [if_neg z]
        rw [if_neg z] at ev
        rw [ev]
        exact ⟨b + 22, by omega, fun _ => rfl, fun x => by omega, fun x => by omega⟩
    · have ev : v = 2 := by rw [hv]; unfold endV; rw [if_pos c, if_neg d]
      obtain ⟨p1, p2, p3, _⟩ := (end_spec (L := leftS s W G j) hF hP hj).2.1 (by rw [← hv]; exact ev)
      have e0 : psG G j 2 0 (j + 1) = 0 := by unfold psG; rw [gU_k (by decide), gU_s, if_pos rfl]
      rw [if_pos c] at he
      obtain ⟨σ', r1, r2, r3⟩ := M_push (e := e) (g := q) (v := 2) hF hP hI hR p1 h20 (by omega) (fun j0 => by have := hqe.2 j0; omega) (by omega) own (by rw [e0, p2, p3]; exact g) (by rw [p2, p3]; omega) x1 x2 x3 (b + 22)
      rw [ev]
      exact ⟨b + 22, by omega, fun x => by omega, fun x => by omega, fun _ => ⟨σ', _, r1, r2, r3⟩⟩
  · rw [if_neg c]
    have ev : v = climb s W (leftS s W G j) 21 j := by rw [hv]; unfold endV; rw [if_neg c]
    rw [ev]
    exact up (b + 2) (by omega) (T_node hF ht c)
