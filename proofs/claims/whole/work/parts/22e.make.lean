/-! trees are made: leaf, node, hole -/
theorem TreeOK_congr {σ σ' : kS} {T T' t : Nat} (hT : T ≤ T') (ht : t < T) (hj : ∀ j, (j = 2 ∨ j = 3 ∨ j = 4 ∨ j = 5 ∨ j = 6 ∨ j = 7 ∨ j = 8 ∨ j = 9 ∨ j = 11) → ∀ u, u < T → σ'.2.1 j u = σ.2.1 j u)
    (h10 : ∀ k, k < gN σ 9 t → σ'.2.1 10 (12 * t + k) = σ.2.1 10 (12 * t + k)) (h12 : ∀ k, k < gN σ 11 t → σ'.2.1 12 (3 * t + k) = σ.2.1 12 (3 * t + k)) (h : TreeOK σ T t) : TreeOK σ' T' t := by
  have g : ∀ j, (j = 2 ∨ j = 3 ∨ j = 4 ∨ j = 5 ∨ j = 6 ∨ j = 7 ∨ j = 8 ∨ j = 9 ∨ j = 11) → ∀ u, u < T → gN σ' j u = gN σ j u := fun j hjj u hu => by unfold gN; rw [hj j hjj u hu]
  have g10 : ∀ k, k < gN σ 9 t → gN σ' 10 (12 * t + k) = gN σ 10 (12 * t + k) := fun k hk => by unfold gN; rw [h10 k hk]
  have g12 : ∀ k, k < gN σ 11 t → gN σ' 12 (3 * t + k) = gN σ 12 (3 * t + k) := fun k hk => by unfold gN; rw [h12 k hk]
  obtain ⟨⟨a2, a3, a4, a5, a6, a7, a8, a9, a11⟩, hb, hp, hs, hpl, hte⟩ := h
  have e2 := g 2 (by decide) t ht
  have e3 := g 3 (by decide) t ht
  have e4 := g 4 (by decide) t ht
  have e5 := g 5 (by decide) t ht
  have e6 := g 6 (by decide) t ht
  have e7 := g 7 (by decide) t ht
  have e8 := g 8 (by decide) t ht
  have e9 := g 9 (by decide) t ht
  have e11 := g 11 (by decide) t ht
  refine ⟨?_, ?_, ?_, ?_, ?_, ?_⟩
  · rw [e2, e3, e4, e5, e6, e7, e8, e9, e11, hj 2 (by decide) t ht, hj 3 (by decide) t ht, hj 4 (by decide) t ht, hj 5 (by decide) t ht, hj 6 (by decide) t ht, hj 7 (by decide) t ht, hj 8 (by decide) t ht, hj 9 (by decide) t ht, hj 11 (by decide) t ht]
    exact ⟨a2, a3, a4, a5, a6, a7, a8, a9, a11⟩
  · rw [e2, e3, e4, e5, e6, e7, e8, e9, e11]
    exact hb
  · intro k hk
    rw [e9] at hk
    obtain ⟨b1, b2, b3, b4⟩ := hp k hk
    rw [g10 k hk, h10 k hk, g 7 (by decide) _ b2, g 6 (by decide) _ b2, e7]
    exact ⟨b1, by omega, b3, b4⟩
  · rw [e8, e9, hs]
    congr 2
    apply List.map_congr_left
    intro k hk
    have hk := List.mem_range.mp hk
    rw [g10 k hk, g 8 (by decide) _ (hp k hk).2.1]
  · intro h5
    rw [e5] at h5
    obtain ⟨c1, c2⟩ := hpl h5
    refine ⟨by rw [e2]; exact c1, fun k hk => ?_⟩
    rw [e9] at hk
    rw [g10 k hk, g 5 (by decide) _ (hp k hk).2.1]
    exact c2 k hk
  · intro k hk
    rw [e11] at hk
    rw [h12 k hk, g12 k hk]
    exact hte k hk
theorem Inv_add {σ σ2 : kS} {T so na ki p : Nat} (hF : FI σ T) (hE : FE σ) (hR : RI σ T) (hK : KI σ) (hT : T < 240) (hso : so ≤ 2) (hna : na < 100) (hn1 : so = 1 → na < 10) (hn2 : so = 2 → na < 8) (hki : ki ≤ 3) (hp : p = if so = 2 then 0 else 1)
    (s0 : σ2.1 0 = σ.1 0) (s1 : σ2.1 1 = σ.1 1) (s5 : σ2.1 5 = σ.1 5) (s9 : σ2.1 9 = σ.1 9) (s12 : σ2.1 12 = σ.1 12) (s13 : σ2.1 13 = σ.1 13) (s14 : σ2.1 14 = σ.1 14) (s16 : σ2.1 16 = σ.1 16) (s2 : σ2.1 2 = nI (T + 1)) (s11 : σ2.1 11 = nI (T + 1))
    (a2 : σ2.2.1 2 = upd (σ.2.1 2) T (nI so)) (a3 : σ2.2.1 3 = upd (σ.2.1 3) T (nI na)) (a4 : σ2.2.1 4 = upd (σ.2.1 4) T (nI ki)) (a5 : σ2.2.1 5 = upd (σ.2.1 5) T (nI p)) (a8 : σ2.2.1 8 = upd (σ.2.1 8) T (nI 1))
    (a6 : σ2.2.1 6 = σ.2.1 6) (a7 : σ2.2.1 7 = σ.2.1 7) (a9 : σ2.2.1 9 = σ.2.1 9) (a10 : σ2.2.1 10 = σ.2.1 10) (a11 : σ2.2.1 11 = σ.2.1 11) (a12 : σ2.2.1 12 = σ.2.1 12) (a13 : σ2.2.1 13 = σ.2.1 13)
    (b26 : σ2.2.1 26 = σ2.2.1 2) (b27 : σ2.2.1 27 = σ2.2.1 3) (b28 : σ2.2.1 28 = σ2.2.1 4) (b31 : σ2.2.1 31 = σ2.2.1 5) (b34 : σ2.2.1 34 = σ2.2.1 8) (b32 : σ2.2.1 32 = σ.2.1 32) (b33 : σ2.2.1 33 = σ.2.1 33) (b29 : σ2.2.1 29 = σ.2.1 29) (b30 : σ2.2.1 30 = σ.2.1 30) (b35 : σ2.2.1 35 = σ.2.1 35) (b36 : σ2.2.1 36 = σ.2.1 36) (b37 : σ2.2.1 37 = σ.2.1 37)
    (c0 : σ2.2.1 0 = σ.2.1 0) (c1 : σ2.2.1 1 = σ.2.1 1) (c38 : σ2.2.1 38 = σ.2.1 38) (c39 : σ2.2.1 39 = σ.2.1 39) (c24 : σ2.2.1 24 = σ.2.1 24) (c25 : σ2.2.1 25 = σ.2.1 25) (c40 : σ2.2.1 40 = σ.2.1 40) (c41 : σ2.2.1 41 = σ.2.1 41) : Inv σ2 := by
  obtain ⟨hT0, e2, hz, ht⟩ := hF
  have hp1 : p ≤ 1 := by rw [hp]; by_cases c : so = 2 <;> simp [c]
  refine ⟨T + 1, ⟨by omega, s2, fun t h => ?_, fun t h => ?_⟩, ?_, ?_, ?_⟩
  · obtain ⟨z1, z2, z3, z4, z5⟩ := hz t (by omega)
    rw [a4, a6, a7, a9, a11, k_upd_n (by omega)]
    exact ⟨z1, z2, z3, z4, z5⟩
  · by_cases hc : t = T
    · subst hc
      obtain ⟨z1, z2, z3, z4, z5⟩ := hz t (by omega)
      have g2 : gN σ2 2 t = so := gN_of (by rw [a2, k_upd_s]) (by omega)
      have g3 : gN σ2 3 t = na := gN_of (by rw [a3, k_upd_s]) (by omega)
      have g4 : gN σ2 4 t = ki := gN_of (by rw [a4, k_upd_s]) (by omega)
      have g5 : gN σ2 5 t = p := gN_of (by rw [a5, k_upd_s]) (by omega)
      have g6 : gN σ2 6 t = 0 := gN_of (by rw [a6]; exact z2) (by omega)
      have g7 : gN σ2 7 t = 0 := gN_of (by rw [a7]; exact z3) (by omega)
      have g8 : gN σ2 8 t = 1 := gN_of (by rw [a8, k_upd_s]) (by omega)
      have g9 : gN σ2 9 t = 0 := gN_of (by rw [a9]; exact z4) (by omega)
      have g11 : gN σ2 11 t = 0 := gN_of (by rw [a11]; exact z5) (by omega)
      unfold TreeOK
      rw [g2, g3, g4, g5, g6, g7, g8, g9, g11, a2, a3, a4, a5, a6, a7, a8, a9, a11]
      simp only [k_upd_s]
      refine ⟨⟨trivial, trivial, trivial, trivial, z2, z3, trivial, z4, z5⟩, ⟨hso, hna, hn1, hn2, hki, hp1, by omega, by omega, by omega, by omega, by omega, by omega, fun _ => by trivial⟩, fun k hk => by omega, rfl, fun h5 => ⟨fun h2 => ?_, fun k hk => by omega⟩, fun k hk => by omega⟩
      rw [hp, if_pos h2] at h5
      omega
    · have ht2 : t < T := by omega
      refine TreeOK_congr (by omega) ht2 ?_ (fun k _ => by rw [a10]) (fun k _ => by rw [a12]) (ht t ht2)
      intro j hj u hu
      rcases hj with rfl | rfl | rfl | rfl | rfl | rfl | rfl | rfl | rfl
      · rw [a2, k_upd_n (by omega)]
      · rw [a3, k_upd_n (by omega)]
      · rw [a4, k_upd_n (by omega)]
      · rw [a5, k_upd_n (by omega)]
      · rw [a6]
      · rw [a7]
      · rw [a8, k_upd_n (by omega)]
      · rw [a9]
      · rw [a11]
  · obtain ⟨f1, f2, f3, f4, f5, f6, f7, f8, f9, f10, f11, f12, f13⟩ := hE
    exact ⟨s11.trans s2.symm, b26, b27, b28, b31, by rw [b32, a6, f6], by rw [b33, a7, f7], b34, by rw [b29, a9, f9], by rw [b30, a10, f10], by rw [b35, a11, f11], by rw [b36, a12, f12], by rw [b37, a13, f13]⟩
  · obtain ⟨r, n, hr, hn, q0, q1, hp, q12, q13, q38, q39⟩ := hR
    refine ⟨r, n, hr, hn, by rw [s0, q0], by rw [s1, q1], fun k hk => ?_, by rw [s12, s0, q12], by rw [s13, s1, q13], by rw [c38, c0, q38], by rw [c39, c1, q39]⟩
    have : gN σ2 0 k = gN σ 0 k := by unfold gN; rw [c0]
    rw [this, c0]
    exact ⟨(hp k hk).1, by have := (hp k hk).2; omega⟩
  · obtain ⟨n, hn, k9, k14, k16, hk⟩ := hK
    exact ⟨n, hn, by rw [s9, k9], by rw [s14, k14], by rw [s16, s5, k16], by rw [c24, c25, c40, c41]; exact hk⟩
/-- the class's half -/
def cAdd (σ : kS) (T : Nat) (x1 x2 x3 p : Int32) : kS := k_sS (k_sA (k_sA (k_sA (k_sA (k_sA σ 2 (upd (σ.2.1 2) T x1)) 3 (upd (σ.2.1 3) T x2)) 4 (upd (σ.2.1 4) T x3)) 5 (upd (σ.2.1 5) T p)) 8 (upd (σ.2.1 8) T 1)) 2 (nI T + 1)
/-- the model's half -/
def mAdd (σ : kS) (T : Nat) (x1 x2 p : Int32) : kS := k_sS (k_sA (k_sA (k_sA (k_sA (k_sS σ 10 0) 26 (upd (σ.2.1 26) T x1)) 27 (upd (σ.2.1 27) T x2)) 31 (upd (σ.2.1 31) T p)) 34 (upd (σ.2.1 34) T 1)) 11 (nI T + 1)
theorem F_add {σ : kS} {T : Nat} {x1 x2 x3 : Int32} (e : σ.1 2 = nI T) (hT : T < 240) : M_F_add σ x1 x2 x3 = some (nI T, cAdd σ T x1 x2 x3 (if x1 = 2 then 0 else 1)) := by
  unfold M_F_add
  rw [k_let_r, e, k_st_x rfl hT (by omega), k_st_x rfl hT (by omega), k_st_x rfl hT (by omega)]
  by_cases c : x1 = 2
  · rw [if_pos c, if_pos c]
    unfold M_F_add_46
    rw [k_st_x rfl hT (by omega), k_st_x rfl hT (by omega), k_set_r]
    simp only [k_sA1]
    rw [e]
    rfl
  · rw [if_neg c, if_neg c]
    unfold M_F_add_46
    rw [k_st_x rfl hT (by omega), k_st_x rfl hT (by omega), k_set_r]
    simp only [k_sA1]
    rw [e]
    rfl
theorem k_p1 (T : Nat) : nI T + 1 - 1 = nI T := by rw [nI_1]; exact nI_pred T
theorem Md_tree {σ : kS} {T : Nat} {x1 x2 : Int32} (e : σ.1 11 = nI T) (hT : T < 240) : M_Md_tree σ x1 x2 0 = some (nI T, mAdd σ T x1 x2 (if x1 = 2 then 0 else 1)) := by
  unfold M_Md_tree
  rw [if_pos rfl, e, if_neg (show ¬ nI T = 240 from fun h => by have := (nI_eq (a := T) (b := 240) (by omega) (by omega)).mp h; omega)]
  unfold M_Md_tree_24
  rw [k_thr0]
  have e1 : (k_sS σ 10 0).1 11 = nI T := e
  rw [k_st_x e1 hT (by omega)]
  rw [k_st_x (show (k_sA (k_sS σ 10 0) 26 _).1 11 = nI T from e1) hT (by omega)]
  by_cases c : x1 = 2
  · rw [if_pos c, if_pos c]
    unfold M_Md_tree_74
    simp only [k_sA1]
    rw [k_st_x e1 hT (by omega)]
    simp only [k_sA1]
    rw [k_st_x e1 hT (by omega), k_set_r]
    simp only [k_sA1, k_sSs]
    rw [e1, k_p1]
    rfl
  · rw [if_neg c, if_neg c]
    unfold M_Md_tree_74
    simp only [k_sA1]
    rw [k_st_x e1 hT (by omega)]
    simp only [k_sA1]
    rw [k_st_x e1 hT (by omega), k_set_r]
    simp only [k_sA1, k_sSs]
    rw [e1, k_p1]
    rfl
theorem Md_tree_full {σ : kS} {x1 x2 : Int32} (e : σ.1 11 = nI 240) : M_Md_tree σ x1 x2 0 = some (0, k_sS σ 10 2) := by
  unfold M_Md_tree
  rw [if_pos rfl, e, if_pos (show nI 240 = 240 from rfl)]
  unfold M_Md_tree_24
  rw [k_thr1 (by decide)]
theorem Md_tree_bad {σ : kS} {x1 x2 : Int32} : M_Md_tree σ x1 x2 1 = some (0, k_sS σ 10 1) := by
  unfold M_Md_tree
  rw [if_neg (by decide)]
  unfold M_Md_tree_24
  rw [k_thr1 (by decide)]
theorem k_newTree {σ : kS} {T : Nat} {x1 x2 x3 : Int32} (e : σ.1 2 = nI T) (hT : T < 240) : M_SM_newTree σ x1 x2 x3 = some ((0, nI T), cAdd σ T x1 x2 x3 (if x1 = 2 then 0 else 1)) := by
  unfold M_SM_newTree
  have h1 : M_F_isFull σ = some (0, σ) := by unfold M_F_isFull; rw [e, if_pos (show nI T < 240 from nI_lt (b := 240) hT (by omega))]
  rw [k_call_s h1, if_pos rfl, k_call_s (F_add e hT)]
theorem k_newFull {σ : kS} {x1 x2 x3 : Int32} (e : σ.1 2 = nI 240) : M_SM_newTree σ x1 x2 x3 = some ((2, 0), σ) := by
  unfold M_SM_newTree
  have h1 : M_F_isFull σ = some (1, σ) := by unfold M_F_isFull; rw [e, if_neg (show ¬ nI 240 < 240 by decide)]
  rw [k_call_s h1, if_neg (by decide)]
theorem k_below0 {σ : kS} {x lim : Int32} (h : x < 0 ∨ lim ≤ x) : M_SM_requireBelow σ x lim = some ((1, 0), σ) := by
  unfold M_SM_requireBelow M_SM_requireBelow_9
  by_cases c : x < 0
  · rw [if_pos c]
  · rw [if_neg c, if_neg]
    have h2 := h.resolve_left c
    intro h3
    have a1 := Int32.le_iff_toInt_le.mp h2
    have a2 := Int32.lt_iff_toInt_lt.mp h3
    omega
theorem k_below1 {σ : kS} {n m : Nat} (hn : n < m) (hm : m < 2 ^ 31) : M_SM_requireBelow σ (nI n) (nI m) = some ((0, 0), σ) := by
  unfold M_SM_requireBelow
  rw [if_neg (nI_lt0 (by omega)), if_pos (nI_lt hn hm)]
theorem Inv_mk {σ : kS} {T so na : Nat} (hF : FI σ T) (hE : FE σ) (hR : RI σ T) (hK : KI σ) (hT : T < 240) (hso : so ≤ 1) (hna : na < 100) (hn1 : so = 1 → na < 10) (f : Nat → Int64) : Inv (mAdd (k_sL (cAdd σ T (nI so) (nI na) (nI 0) (nI 1)) f) T (nI so) (nI na) (nI 1)) := by
  have hz := (hF.2.2.1 T (by omega)).1
  obtain ⟨f1, f2, f3, f4, f5, f6, f7, f8, f9, f10, f11, f12, f13⟩ := id hE
  refine Inv_add (so := so) (na := na) (ki := 0) (p := 1) hF hE hR hK hT (by omega) hna hn1 (by omega) (by omega) (by rw [if_neg (by omega)]) rfl rfl rfl rfl rfl rfl rfl rfl (nI_1 T) (nI_1 T) rfl rfl rfl rfl rfl rfl rfl rfl rfl rfl rfl rfl ?_ ?_ ?_ ?_ ?_ rfl rfl rfl rfl rfl rfl rfl rfl rfl rfl rfl rfl rfl rfl rfl
  · show upd (σ.2.1 26) T _ = upd (σ.2.1 2) T _
    rw [f2]
  · show upd (σ.2.1 27) T _ = upd (σ.2.1 3) T _
    rw [f3]
  · show σ.2.1 28 = upd (σ.2.1 4) T (nI 0)
    rw [f4, show nI 0 = 0 from rfl, k_upd_id hz]
  · show upd (σ.2.1 31) T _ = upd (σ.2.1 5) T _
    rw [f5]
  · show upd (σ.2.1 34) T _ = upd (σ.2.1 8) T _
    rw [f8]
theorem Inv_mkH {σ : kS} {T na ki : Nat} (hF : FI σ T) (hE : FE σ) (hR : RI σ T) (hK : KI σ) (hT : T < 240) (hna : na < 8) (hki : ki ≤ 3) (f : Nat → Int64) : Inv (k_sA (mAdd (k_sL (cAdd σ T (nI 2) (nI na) (nI ki) (nI 0)) f) T (nI 2) (nI na) (nI 0)) 28 (upd (σ.2.1 28) T (nI ki))) := by
  obtain ⟨f1, f2, f3, f4, f5, f6, f7, f8, f9, f10, f11, f12, f13⟩ := id hE
  refine Inv_add (so := 2) (na := na) (ki := ki) (p := 0) hF hE hR hK hT (by omega) (by omega) (by omega) (fun _ => hna) hki rfl rfl rfl rfl rfl rfl rfl rfl rfl (nI_1 T) (nI_1 T) rfl rfl rfl rfl rfl rfl rfl rfl rfl rfl rfl rfl ?_ ?_ ?_ ?_ ?_ rfl rfl rfl rfl rfl rfl rfl rfl rfl rfl rfl rfl rfl rfl rfl
  · show upd (σ.2.1 26) T _ = upd (σ.2.1 2) T _
    rw [f2]
  · show upd (σ.2.1 27) T _ = upd (σ.2.1 3) T _
    rw [f3]
  · show upd (σ.2.1 28) T (nI ki) = upd (σ.2.1 4) T (nI ki)
    rw [f4]
  · show upd (σ.2.1 31) T _ = upd (σ.2.1 5) T _
    rw [f5]
  · show upd (σ.2.1 34) T _ = upd (σ.2.1 8) T _
    rw [f8]
theorem k_gt {x : Int32} {n : Nat} (hn : n + 1 < 2 ^ 31) (h : nI (n + 1) ≤ x) : ¬ x ≤ nI n := by
  intro h3
  have a1 := Int32.le_iff_toInt_le.mp h
  have a2 := Int32.le_iff_toInt_le.mp h3
  rw [nI_toInt (by omega)] at a1
  rw [nI_toInt (by omega)] at a2
  omega
theorem Md_leaf_bad {σ : kS} {x : Int32} (h : x < 0 ∨ nI 100 ≤ x) : M_Md_leaf σ x = some (0, k_sS σ 10 1) := by
  unfold M_Md_leaf M_Md_leaf_13 M_Md_leaf_18
  by_cases c : x < 0
  · rw [if_pos c, k_call_s Md_tree_bad]
  · rw [if_neg c, if_neg (show ¬ x ≤ 99 from k_gt (n := 99) (by omega) (h.resolve_left c)), k_call_s Md_tree_bad]
theorem Md_leaf_ok {σ : kS} {n : Nat} (h : n < 100) : M_Md_leaf σ (nI n) = k_call (M_Md_tree σ 0 (nI n) 0) fun v1 σ2 => some (v1, σ2) := by
  unfold M_Md_leaf
  rw [if_neg (nI_lt0 (by omega)), if_pos (show nI n ≤ 99 from nI_le (b := 99) (by omega) (by omega))]
  rfl
theorem A_leaf {σ : kS} (h : Inv σ) (x : Int32) : Agree 1 2 (M_SM_leaf σ x) (fun s => M_Md_leaf s x) := by
  obtain ⟨T, hF, hE, hR, hK⟩ := id h
  have e2 := hF.2.1
  have e11 : σ.1 11 = nI T := hE.1.trans e2
  have hbad : (x < 0 ∨ nI 100 ≤ x) → Agree 1 2 (M_SM_leaf σ x) (fun s => M_Md_leaf s x) := fun hx => by
    refine ⟨1, 0, σ, ?_, Or.inr (Or.inl rfl), fun f => ⟨0, k_sS (k_sL σ f) 10 1, Md_leaf_bad hx, Inv_10 (Inv_L h f) 1, rfl, rfl, fun e => by cases e⟩⟩
    unfold M_SM_leaf
    rw [k_callx_n (n := 0) (k_below0 (lim := 100) hx)]
  rcases pk_ix x (n := 100) (by omega) with hx | hx | ⟨n, hn, rfl⟩
  · exact hbad (Or.inl hx)
  · exact hbad (Or.inr hx)
  · have hb := k_below1 (σ := σ) hn (by omega)
    by_cases hT : T = 240
    · subst hT
      refine ⟨2, 0, σ, ?_, Or.inr (Or.inr ⟨by decide, rfl⟩), fun f => ⟨0, k_sS (k_sL σ f) 10 2, ?_, Inv_10 (Inv_L h f) 2, rfl, rfl, fun e => by cases e⟩⟩
      · unfold M_SM_leaf
        rw [show (100 : Int32) = nI 100 from rfl, k_callx_0 hb, k_callx_n (n := 1) (k_newFull e2)]
      · show M_Md_leaf (k_sL σ f) (nI n) = _
        rw [Md_leaf_ok hn, k_call_s (Md_tree_full (σ := k_sL σ f) e11)]
    · have hT : T < 240 := by have := hF.1; omega
      refine ⟨0, nI T, cAdd σ T (nI 0) (nI n) (nI 0) (nI 1), ?_, Or.inl rfl, fun f => ⟨nI T, mAdd (k_sL (cAdd σ T (nI 0) (nI n) (nI 0) (nI 1)) f) T (nI 0) (nI n) (nI 1), ?_, Inv_mk hF hE hR hK hT (by omega) hn (by omega) f, rfl, rfl, fun _ => rfl⟩⟩
      · unfold M_SM_leaf
        rw [show (100 : Int32) = nI 100 from rfl, k_callx_0 hb, k_callx_0 (k_newTree e2 hT)]
        rfl
      · show M_Md_leaf (k_sL (cAdd σ T (nI 0) (nI n) (nI 0) (nI 1)) f) (nI n) = _
        rw [Md_leaf_ok hn, k_call_s (Md_tree (σ := k_sL (cAdd σ T (nI 0) (nI n) (nI 0) (nI 1)) f) e11 hT)]
        rfl
theorem Md_node_bad {σ : kS} {x : Int32} (h : x < 0 ∨ nI 10 ≤ x) : M_Md_node σ x = some (0, k_sS σ 10 1) := by
  unfold M_Md_node M_Md_node_13 M_Md_node_18
  by_cases c : x < 0
  · rw [if_pos c, k_call_s Md_tree_bad]
  · rw [if_neg c, if_neg (show ¬ x ≤ 9 from k_gt (n := 9) (by omega) (h.resolve_left c)), k_call_s Md_tree_bad]
theorem Md_node_ok {σ : kS} {n : Nat} (h : n < 10) : M_Md_node σ (nI n) = k_call (M_Md_tree σ 1 (nI n) 0) fun v1 σ2 => some (v1, σ2) := by
  unfold M_Md_node
  rw [if_neg (nI_lt0 (by omega)), if_pos (show nI n ≤ 9 from nI_le (b := 9) (by omega) (by omega))]
  rfl
theorem A_node {σ : kS} (h : Inv σ) (x : Int32) : Agree 1 2 (M_SM_node σ x) (fun s => M_Md_node s x) := by
  obtain ⟨T, hF, hE, hR, hK⟩ := id h
  have e2 := hF.2.1
  have e11 : σ.1 11 = nI T := hE.1.trans e2
  have hbad : (x < 0 ∨ nI 10 ≤ x) → Agree 1 2 (M_SM_node σ x) (fun s => M_Md_node s x) := fun hx => by
    refine ⟨1, 0, σ, ?_, Or.inr (Or.inl rfl), fun f => ⟨0, k_sS (k_sL σ f) 10 1, Md_node_bad hx, Inv_10 (Inv_L h f) 1, rfl, rfl, fun e => by cases e⟩⟩
    unfold M_SM_node
    rw [k_callx_n (n := 0) (k_below0 (lim := 10) hx)]
  rcases pk_ix x (n := 10) (by omega) with hx | hx | ⟨n, hn, rfl⟩
  · exact hbad (Or.inl hx)
  · exact hbad (Or.inr hx)
  · have hb := k_below1 (σ := σ) hn (by omega)
    by_cases hT : T = 240
    · subst hT
      refine ⟨2, 0, σ, ?_, Or.inr (Or.inr ⟨by decide, rfl⟩), fun f => ⟨0, k_sS (k_sL σ f) 10 2, ?_, Inv_10 (Inv_L h f) 2, rfl, rfl, fun e => by cases e⟩⟩
      · unfold M_SM_node
        rw [show (10 : Int32) = nI 10 from rfl, k_callx_0 hb, k_callx_n (n := 1) (k_newFull e2)]
      · show M_Md_node (k_sL σ f) (nI n) = _
        rw [Md_node_ok hn, k_call_s (Md_tree_full (σ := k_sL σ f) e11)]
    · have hT : T < 240 := by have := hF.1; omega
      refine ⟨0, nI T, cAdd σ T (nI 1) (nI n) (nI 0) (nI 1), ?_, Or.inl rfl, fun f => ⟨nI T, mAdd (k_sL (cAdd σ T (nI 1) (nI n) (nI 0) (nI 1)) f) T (nI 1) (nI n) (nI 1), ?_, Inv_mk hF hE hR hK hT (by omega) (by omega) (fun _ => hn) f, rfl, rfl, fun _ => rfl⟩⟩
      · unfold M_SM_node
        rw [show (10 : Int32) = nI 10 from rfl, k_callx_0 hb, k_callx_0 (k_newTree e2 hT)]
        rfl
      · show M_Md_node (k_sL (cAdd σ T (nI 1) (nI n) (nI 0) (nI 1)) f) (nI n) = _
        rw [Md_node_ok hn, k_call_s (Md_tree (σ := k_sL (cAdd σ T (nI 1) (nI n) (nI 0) (nI 1)) f) e11 hT)]
        rfl
theorem Md_hole_bad {σ : kS} {x y : Int32} (h : x < 0 ∨ nI 8 ≤ x ∨ y < 0 ∨ nI 4 ≤ y) : M_Md_hole σ x y = some (0, k_sS σ 10 1) := by
  have key : M_Md_hole_22 σ x y x 2 = some (0, k_sS σ 10 1) := by
    unfold M_Md_hole_22 M_Md_hole_27
    rw [k_call_s Md_tree_bad, if_neg (show ¬ (k_sS σ 10 1).1 10 = 0 by rw [k_sSs]; decide)]
  unfold M_Md_hole
  by_cases c : x < 0
  · rw [if_pos c, key]
  · rw [if_neg c]
    by_cases c7 : (7 : Int32) < x
    · rw [if_pos c7, key]
    · rw [if_neg c7]
      by_cases cy : y < 0
      · rw [if_pos cy, key]
      · rw [if_neg cy]
        have h8 : ¬ nI 8 ≤ x := fun h8 => c7 (by
          have a1 := Int32.le_iff_toInt_le.mp h8
          rw [nI_toInt (by omega)] at a1
          exact Int32.lt_iff_toInt_lt.mpr (by show (nI 7).toInt < _; rw [nI_toInt (by omega)]; omega))
        have h4 : nI 4 ≤ y := by
          rcases h with h | h | h | h
          · exact absurd h c
          · exact absurd h h8
          · exact absurd h cy
          · exact h
        rw [if_neg (show ¬ y ≤ 3 from k_gt (n := 3) (by omega) h4), key]
theorem Md_hole_ok {σ : kS} {n k : Nat} (hn : n < 8) (hk : k < 4) : M_Md_hole σ (nI n) (nI k) = M_Md_hole_27 σ (nI n) (nI k) 0 (nI n) 2 := by
  unfold M_Md_hole
  rw [if_neg (nI_lt0 (by omega)), if_neg (show ¬ (7 : Int32) < nI n from nI_nlt (b := n) (a := 7) (by omega) (by omega)), if_neg (nI_lt0 (by omega)), if_pos (show nI k ≤ 3 from nI_le (b := 3) (by omega) (by omega))]
theorem A_hole {σ : kS} (h : Inv σ) (x y : Int32) : Agree 1 2 (M_SM_hole σ x y) (fun s => M_Md_hole s x y) := by
  obtain ⟨T, hF, hE, hR, hK⟩ := id h
  have e2 := hF.2.1
  have e11 : σ.1 11 = nI T := hE.1.trans e2
  have hbad : (x < 0 ∨ nI 8 ≤ x ∨ y < 0 ∨ nI 4 ≤ y) → M_SM_hole σ x y = some ((1, 0), σ) → Agree 1 2 (M_SM_hole σ x y) (fun s => M_Md_hole s x y) := fun hx hc =>
    ⟨1, 0, σ, hc, Or.inr (Or.inl rfl), fun f => ⟨0, k_sS (k_sL σ f) 10 1, Md_hole_bad hx, Inv_10 (Inv_L h f) 1, rfl, rfl, fun e => by cases e⟩⟩
  have b1 : (x < 0 ∨ nI 8 ≤ x) → M_SM_hole σ x y = some ((1, 0), σ) := fun hx => by
    unfold M_SM_hole
    rw [k_callx_n (n := 0) (k_below0 (lim := 8) hx)]
  rcases pk_ix x (n := 8) (by omega) with hx | hx | ⟨n, hn, rfl⟩
  · exact hbad (Or.inl hx) (b1 (Or.inl hx))
  · exact hbad (Or.inr (Or.inl hx)) (b1 (Or.inr hx))
  · have hb := k_below1 (σ := σ) hn (by omega)
    have b2 : (y < 0 ∨ nI 4 ≤ y) → M_SM_hole σ (nI n) y = some ((1, 0), σ) := fun hy => by
      unfold M_SM_hole
      rw [show (8 : Int32) = nI 8 from rfl, k_callx_0 hb, k_callx_n (n := 0) (k_below0 (lim := 4) hy)]
    rcases pk_ix y (n := 4) (by omega) with hy | hy | ⟨k, hk, rfl⟩
    · exact hbad (Or.inr (Or.inr (Or.inl hy))) (b2 (Or.inl hy))
    · exact hbad (Or.inr (Or.inr (Or.inr hy))) (b2 (Or.inr hy))
    · have hb2 := k_below1 (σ := σ) hk (by omega)
      by_cases hT : T = 240
      · subst hT
        refine ⟨2, 0, σ, ?_, Or.inr (Or.inr ⟨by decide, rfl⟩), fun f => ⟨0, k_sS (k_sL σ f) 10 2, ?_, Inv_10 (Inv_L h f) 2, rfl, rfl, fun e => by cases e⟩⟩
        · unfold M_SM_hole
          rw [show (8 : Int32) = nI 8 from rfl, k_callx_0 hb, show (4 : Int32) = nI 4 from rfl, k_callx_0 hb2, k_callx_n (n := 1) (k_newFull e2)]
        · show M_Md_hole (k_sL σ f) (nI n) (nI k) = _
          rw [Md_hole_ok hn hk]
          unfold M_Md_hole_27
          rw [k_call_s (Md_tree_full (σ := k_sL σ f) e11), if_neg (show ¬ (k_sS (k_sL σ f) 10 2).1 10 = 0 by rw [k_sSs]; decide)]
      · have hT : T < 240 := by have := hF.1; omega
        refine ⟨0, nI T, cAdd σ T (nI 2) (nI n) (nI k) (nI 0), ?_, Or.inl rfl, fun f => ⟨nI T, k_sA (mAdd (k_sL (cAdd σ T (nI 2) (nI n) (nI k) (nI 0)) f) T (nI 2) (nI n) (nI 0)) 28 (upd (σ.2.1 28) T (nI k)), ?_, Inv_mkH hF hE hR hK hT hn (by omega) f, rfl, rfl, fun _ => rfl⟩⟩
        · unfold M_SM_hole
          rw [show (8 : Int32) = nI 8 from rfl, k_callx_0 hb, show (4 : Int32) = nI 4 from rfl, k_callx_0 hb2, k_callx_0 (k_newTree e2 hT)]
          rfl
        · show M_Md_hole (k_sL (cAdd σ T (nI 2) (nI n) (nI k) (nI 0)) f) (nI n) (nI k) = _
          rw [Md_hole_ok hn hk]
          unfold M_Md_hole_27
          rw [k_call_s (Md_tree (σ := k_sL (cAdd σ T (nI 2) (nI n) (nI k) (nI 0)) f) e11 hT)]
          rw [if_pos rfl, k_st_x rfl hT (by omega)]
          rfl
