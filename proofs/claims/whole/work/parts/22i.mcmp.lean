/-! the model's compare: a stack of its own in rows 54, 55, 56 -/
def Scr (s σ : kS) : Prop := σ.1 = s.1 ∧ σ.2.2 = s.2.2 ∧ ∀ j, j ≠ 54 → j ≠ 55 → j ≠ 56 → σ.2.1 j = s.2.1 j
theorem Scr_rfl (s : kS) : Scr s s := ⟨rfl, rfl, fun _ _ _ _ => rfl⟩
theorem Scr_tr {a b c : kS} (h : Scr a b) (g : Scr b c) : Scr a c := ⟨g.1.trans h.1, g.2.1.trans h.2.1, fun j x y z => (g.2.2 j x y z).trans (h.2.2 j x y z)⟩
theorem Scr_54 {s σ : kS} (h : Scr s σ) (f : Nat → Int32) : Scr s (k_sA σ 54 f) := ⟨h.1, h.2.1, fun j a b c => (k_sA2 a).trans (h.2.2 j a b c)⟩
theorem Scr_55 {s σ : kS} (h : Scr s σ) (f : Nat → Int32) : Scr s (k_sA σ 55 f) := ⟨h.1, h.2.1, fun j a b c => (k_sA2 b).trans (h.2.2 j a b c)⟩
theorem Scr_56 {s σ : kS} (h : Scr s σ) (f : Nat → Int32) : Scr s (k_sA σ 56 f) := ⟨h.1, h.2.1, fun j a b c => (k_sA2 c).trans (h.2.2 j a b c)⟩
def psum (f : Nat → Nat) (k : Nat) : Nat → Nat
  | 0 => 0
  | m + 1 => f k + psum f (k + 1) m
theorem psum_range (f : Nat → Nat) : ∀ m k, ((List.range (k + m)).map f).sum = ((List.range k).map f).sum + psum f k m := by
  intro m
  induction m with
  | zero => intro k; rfl
  | succ m ih =>
    intro k
    rw [show k + (m + 1) = k + 1 + m by omega, ih (k + 1), List.range_succ, List.map_append, List.sum_append]
    show _ + List.sum [f k] + _ = _ + (f k + _)
    rw [List.sum_cons, List.sum_nil]; omega
theorem psum_0 (f : Nat → Nat) (m : Nat) : ((List.range m).map f).sum = psum f 0 m := by
  have h := psum_range f m 0
  rw [Nat.zero_add] at h
  rw [h]
  show 0 + _ = _
  omega
theorem k_m1 {p : Nat} : nI (p + 1) + (-1) = nI p := by
  rw [← nI_1 p, Int32.add_assoc]
  show nI p + (0 : Int32) = nI p
  rw [nI_0', nI_add, Nat.add_zero]
/-- the model's trees in b are those of s, but for the row of parts of z, that no other tree has for a part -/
def MdH (s b : kS) (T z : Nat) : Prop := T ≤ 240 ∧ (∀ t, t < T → t ≠ z → TreeOK s T t ∧ ∀ k, k < gN s 9 t → gN s 10 (12 * t + k) ≠ z) ∧ b.2.1 26 = s.2.1 2 ∧ b.2.1 27 = s.2.1 3 ∧ b.2.1 29 = s.2.1 9 ∧ ∀ t, t < T → t ≠ z → ∀ k, k < 12 → b.2.1 30 (12 * t + k) = s.2.1 10 (12 * t + k)
theorem MdH_of {s : kS} {T : Nat} (hF : FI s T) (hE : FE s) : MdH s s T T :=
  ⟨hF.1, fun t ht _ => ⟨hF.2.2.2 t ht, fun k hk => by have := ((hF.2.2.2 t ht).2.2.1 k hk).2.1; omega⟩, hE.2.1, hE.2.2.1, hE.2.2.2.2.2.2.2.2.1, fun t _ _ k _ => by rw [hE.2.2.2.2.2.2.2.2.2.1]⟩
/-- one frame of the stack: trees of depth below e -/
def MdP (s b : kS) (T z : Nat) (x1 x2 : Int32) (e : Nat) : Prop :=
  ∀ (p x y : Nat) (σ : kS), Scr b σ → x < T → x ≠ z → y < T → y ≠ z → gN s 7 x < e → p + e ≤ 61 → σ.2.1 54 p = nI x → σ.2.1 55 p = nI y → σ.2.1 56 p = 0 →
    ∃ c σ', c + 1 ≤ 2 * gN s 8 x ∧ Scr b σ' ∧ (∀ j q, q < p → σ'.2.1 j q = σ.2.1 j q) ∧ ∀ n, M_Md_compare_23 (n + c) σ x1 x2 (nI p) = if cmpN s e x y = 0 then M_Md_compare_23 n σ' x1 x2 (nI p + (-1)) else some (cmpN s e x y, σ')
theorem Md_push {s σ : kS} {p a b k : Nat} (hs : Scr s σ) : ∃ σ', σ' = k_sA (k_sA (k_sA (k_sA σ 56 (upd (σ.2.1 56) p (nI (k + 1)))) 54 (upd (σ.2.1 54) (p + 1) (nI a))) 55 (upd (σ.2.1 55) (p + 1) (nI b))) 56 (upd (upd (σ.2.1 56) p (nI (k + 1))) (p + 1) 0) ∧ Scr s σ' ∧ σ'.2.1 54 (p + 1) = nI a ∧ σ'.2.1 55 (p + 1) = nI b ∧ σ'.2.1 56 (p + 1) = 0 ∧ σ'.2.1 54 p = σ.2.1 54 p ∧ σ'.2.1 55 p = σ.2.1 55 p ∧ σ'.2.1 56 p = nI (k + 1) ∧ ∀ j q, q < p → σ'.2.1 j q = σ.2.1 j q := by
  refine ⟨_, rfl, Scr_56 (Scr_55 (Scr_54 (Scr_56 hs _) _) _) _, k_upd_s, k_upd_s, k_upd_s, k_upd_n (by omega), k_upd_n (by omega), ?_, fun j q hq => ?_⟩
  · show upd (upd _ _ _) _ _ _ = _
    rw [k_upd_n (by omega), k_upd_s]
  · by_cases h6 : j = 56
    · subst h6
      show upd (upd _ _ _) _ _ _ = _
      rw [k_upd_n (by omega), k_upd_n (by omega)]
    · rw [k_sA2 h6]
      by_cases h5 : j = 55
      · subst h5
        show upd _ _ _ _ = _
        rw [k_upd_n (by omega)]
      · rw [k_sA2 h5]
        by_cases h4 : j = 54
        · subst h4
          show upd _ _ _ _ = _
          rw [k_upd_n (by omega)]
        · rw [k_sA2 h4, k_sA2 h6]
theorem Md_cmp_step {s b : kS} {T z : Nat} (H : MdH s b T z) (x1 x2 : Int32) (e : Nat) (ih : MdP s b T z x1 x2 e) : MdP s b T z x1 x2 (e + 1) := by
  obtain ⟨hT, htr, f2, f3, f9, f10⟩ := H
  intro p x y σ hs hx hxz hy hyz hd hp h54 h55 h56
  have a9 := (htr x hx hxz).1.1.2.2.2.2.2.2.2.1
  have hc12 := (htr x hx hxz).1.2.1.2.2.2.2.2.2.2.2.2.2.1
  have hsz := (htr x hx hxz).1.2.2.2.1
  rw [psum_0] at hsz
  have d26 : ∀ σ, Scr b σ → σ.2.1 26 = s.2.1 2 := fun σ h => (h.2.2 26 (by decide) (by decide) (by decide)).trans f2
  have d27 : ∀ σ, Scr b σ → σ.2.1 27 = s.2.1 3 := fun σ h => (h.2.2 27 (by decide) (by decide) (by decide)).trans f3
  have d29 : ∀ σ, Scr b σ → σ.2.1 29 = s.2.1 9 := fun σ h => (h.2.2 29 (by decide) (by decide) (by decide)).trans f9
  have d30 : ∀ σ, Scr b σ → ∀ t, t < T → t ≠ z → ∀ k, k < 12 → σ.2.1 30 (12 * t + k) = s.2.1 10 (12 * t + k) := fun σ h t ht htz k hk => (congrFun (h.2.2 30 (by decide) (by decide) (by decide)) _).trans (f10 t ht htz k hk)
  have loop : gN s 9 y = gN s 9 x → ∀ m k σ, k + m = gN s 9 x → Scr b σ → σ.2.1 54 p = nI x → σ.2.1 55 p = nI y → ∃ c σ', c ≤ 2 * psum (fun k => gN s 8 (gN s 10 (12 * x + k))) k m ∧ Scr b σ' ∧ (∀ j q, q < p → σ'.2.1 j q = σ.2.1 j q) ∧ ∀ n, M_Md_compare_176 (M_Md_compare_23 (n + c)) σ x1 x2 (nI p) (nI x) (nI y) (nI k) = if cmpP s (cmpN s e) x y k m = 0 then M_Md_compare_23 n σ' x1 x2 (nI p + (-1)) else some (cmpP s (cmpN s e) x y k m, σ') := by
    intro hcy m
    induction m with
    | zero =>
      intro k σ hk hs h54 h55
      refine ⟨0, σ, Nat.zero_le _, hs, fun _ _ _ => rfl, fun n => ?_⟩
      unfold M_Md_compare_176
      rw [d29 σ hs, k_ld_n (by omega) (by omega), a9, if_pos (congrArg nI (by omega)), k_let_r]
      show _ = if (0 : Int32) = 0 then _ else _
      rw [if_pos rfl]
      rfl
    | succ m ihm =>
      intro k σ hk hs h54 h55
      obtain ⟨p1, p2, p3, p4⟩ := (htr x hx hxz).1.2.2.1 k (by omega)
      have pz := (htr x hx hxz).2 k (by omega)
      obtain ⟨q1, q2, q3, q4⟩ := (htr y hy hyz).1.2.2.1 k (by omega)
      have qz := (htr y hy hyz).2 k (by omega)
      obtain ⟨σ1, e1, s1, t54, t55, t56, u54, u55, u56, hlow⟩ := Md_push (p := p) (a := gN s 10 (12 * x + k)) (b := gN s 10 (12 * y + k)) (k := k) hs
      obtain ⟨c1, σ2, hc1, s2, low2, run1⟩ := ih (p + 1) _ _ σ1 s1 p2 pz q2 qz (by omega) (by omega) t54 t55 t56
      have start : ∀ rec : kS → Int32 → Int32 → Int32 → Option (Int32 × kS), M_Md_compare_176 rec σ x1 x2 (nI p) (nI x) (nI y) (nI k) = rec σ1 x1 x2 (nI (p + 1)) := by
        intro rec
        unfold M_Md_compare_176
        rw [d29 σ hs, k_ld_n (by omega) (by omega), a9, if_neg (fun h => by have := (nI_eq (by omega) (by omega)).mp h; omega)]
        rw [k_st_x rfl (by omega) (by omega), k_let_r, nI_1, k_12i, k_ld_n (by omega) (by omega)]
        rw [d30 _ (Scr_56 hs _) x hx hxz k (by omega), p1, nI_1, k_st_x rfl (by omega) (by omega), k_12i, k_ld_n (by omega) (by omega), d30 _ (Scr_54 (Scr_56 hs _) _) y hy hyz k (by omega), q1]
        rw [k_st_x rfl (by omega) (by omega), k_st_x rfl (by omega) (by omega), e1]
        rfl
      by_cases cz : cmpN s e (gN s 10 (12 * x + k)) (gN s 10 (12 * y + k)) = 0
      · have u54' : σ2.2.1 54 p = nI x := (low2 54 p (by omega)).trans (u54.trans h54)
        have u55' : σ2.2.1 55 p = nI y := (low2 55 p (by omega)).trans (u55.trans h55)
        have u56' : σ2.2.1 56 p = nI (k + 1) := (low2 56 p (by omega)).trans u56
        obtain ⟨c2, σ3, hc2, s3, low3, run2⟩ := ihm (k + 1) σ2 (by omega) s2 u54' u55'
        refine ⟨c2 + 1 + c1, σ3, ?_, s3, fun j q hq => (low3 j q hq).trans ((low2 j q (by omega)).trans (hlow j q hq)), fun n => ?_⟩
        · show _ ≤ 2 * (gN s 8 (gN s 10 (12 * x + k)) + psum _ (k + 1) m)
          omega
        · rw [start, show n + (c2 + 1 + c1) = n + c2 + 1 + c1 by omega, run1 (n + c2 + 1), if_pos cz, k_m1]
          show M_Md_compare_23_b (M_Md_compare_23 (n + c2)) σ2 x1 x2 (nI p) = _
          unfold M_Md_compare_23_b
          rw [if_neg (nI_lt0 (by omega)), k_ld_n (by omega) (by omega), k_ld_n (by omega) (by omega), k_ld_n (by omega) (by omega), u54', u55', u56', if_neg (show ¬ nI (k + 1) = 0 from fun h => by have := (nI_eq (a := k + 1) (b := 0) (by omega) (by omega)).mp h; omega), run2 n]
          show _ = if (if cmpN s e _ _ = 0 then _ else _) = (0 : Int32) then _ else some ((if cmpN s e _ _ = 0 then _ else _), σ3)
          rw [if_pos cz]
      · refine ⟨c1, σ2, ?_, s2, fun j q hq => ((low2 j q (by omega)).trans (hlow j q hq)), fun n => ?_⟩
        · show _ ≤ 2 * (gN s 8 (gN s 10 (12 * x + k)) + psum _ (k + 1) m)
          omega
        · rw [start, run1 n, if_neg cz]
          show _ = if (if cmpN s e _ _ = 0 then _ else _) = (0 : Int32) then _ else some ((if cmpN s e _ _ = 0 then _ else _), σ2)
          rw [if_neg cz, if_neg cz]
  have top : ∀ n, M_Md_compare_23 (n + 1) σ x1 x2 (nI p) = if s.2.1 2 x = s.2.1 2 y then (if s.2.1 3 x = s.2.1 3 y then (if s.2.1 9 x = s.2.1 9 y then M_Md_compare_176 (M_Md_compare_23 n) σ x1 x2 (nI p) (nI x) (nI y) 0 else (if s.2.1 9 y ≤ s.2.1 9 x then some (1, σ) else some (-1, σ))) else (if s.2.1 3 y ≤ s.2.1 3 x then some (1, σ) else some (-1, σ))) else (if s.2.1 2 y ≤ s.2.1 2 x then some (1, σ) else some (-1, σ)) := by
    intro n
    show M_Md_compare_23_b (M_Md_compare_23 n) σ x1 x2 (nI p) = _
    unfold M_Md_compare_23_b
    rw [if_neg (nI_lt0 (by omega)), k_ld_n (by omega) (by omega), k_ld_n (by omega) (by omega), k_ld_n (by omega) (by omega), h54, h55, h56, if_pos rfl, d26 σ hs, d27 σ hs, d29 σ hs]
    simp only [k_ld_n (show x < 240 by omega) (show 240 < 2 ^ 31 by omega), k_ld_n (show y < 240 by omega) (show 240 < 2 ^ 31 by omega)]
  by_cases c2 : s.2.1 2 x = s.2.1 2 y
  · by_cases c3 : s.2.1 3 x = s.2.1 3 y
    · by_cases c9 : s.2.1 9 x = s.2.1 9 y
      · obtain ⟨c, σ', hc, s', low', run⟩ := loop (congrArg Int32.toNatClampNeg c9.symm) (gN s 9 x) 0 σ (by omega) hs h54 h55
        refine ⟨c + 1, σ', by omega, s', low', fun n => ?_⟩
        rw [← Nat.add_assoc, top, if_pos c2, if_pos c3, if_pos c9]
        have hv : cmpN s (e + 1) x y = cmpP s (cmpN s e) x y 0 (gN s 9 x) := by
          show (if _ then (if _ then (if _ then _ else _) else _) else _) = _
          rw [if_pos c2, if_pos c3, if_pos c9]
        rw [hv]
        exact run n
      · have hv : cmpN s (e + 1) x y = if s.2.1 9 y ≤ s.2.1 9 x then 1 else -1 := by
          show (if _ then (if _ then (if _ then _ else _) else _) else _) = _
          rw [if_pos c2, if_pos c3, if_neg c9]
        refine ⟨1, σ, by omega, hs, fun _ _ _ => rfl, fun n => ?_⟩
        rw [top, if_pos c2, if_pos c3, if_neg c9, hv]
        by_cases c : s.2.1 9 y ≤ s.2.1 9 x
        · rw [if_pos c, if_pos c, if_neg (by decide)]
        · rw [if_neg c, if_neg c, if_neg (by decide)]
    · have hv : cmpN s (e + 1) x y = if s.2.1 3 y ≤ s.2.1 3 x then 1 else -1 := by
        show (if _ then (if _ then (if _ then _ else _) else _) else _) = _
        rw [if_pos c2, if_neg c3]
      refine ⟨1, σ, by omega, hs, fun _ _ _ => rfl, fun n => ?_⟩
      rw [top, if_pos c2, if_neg c3, hv]
      by_cases c : s.2.1 3 y ≤ s.2.1 3 x
      · rw [if_pos c, if_pos c, if_neg (by decide)]
      · rw [if_neg c, if_neg c, if_neg (by decide)]
  · have hv : cmpN s (e + 1) x y = if s.2.1 2 y ≤ s.2.1 2 x then 1 else -1 := by
      show (if _ then (if _ then (if _ then _ else _) else _) else _) = _
      rw [if_neg c2]
    refine ⟨1, σ, by omega, hs, fun _ _ _ => rfl, fun n => ?_⟩
    rw [top, if_neg c2, hv]
    by_cases c : s.2.1 2 y ≤ s.2.1 2 x
    · rw [if_pos c, if_pos c, if_neg (by decide)]
    · rw [if_neg c, if_neg c, if_neg (by decide)]
theorem Md_cmp_all {s b : kS} {T z : Nat} (H : MdH s b T z) (x1 x2 : Int32) : ∀ e, MdP s b T z x1 x2 e := by
  intro e
  induction e with
  | zero => intro p x y σ hs hx hxz hy hyz hd; omega
  | succ e ih => exact Md_cmp_step H x1 x2 e ih
theorem Md_compare_g {s σ : kS} {T z a b : Nat} (H : MdH s σ T z) (ha : a < T) (haz : a ≠ z) (hb : b < T) (hbz : b ≠ z) : ∃ σ', Scr σ σ' ∧ M_Md_compare σ (nI a) (nI b) = some (cmpN s 21 a b, σ') := by
  have hd : gN s 7 a ≤ 20 := (H.2.1 a ha haz).1.2.1.2.2.2.2.2.2.2.1
  have hsz : gN s 8 a ≤ 70 := (H.2.1 a ha haz).1.2.1.2.2.2.2.2.2.2.2.2.1
  have hs : Scr σ (k_sA (k_sA (k_sA σ 54 (upd (σ.2.1 54) 0 (nI a))) 55 (upd (σ.2.1 55) 0 (nI b))) 56 (upd (σ.2.1 56) 0 0)) := Scr_56 (Scr_55 (Scr_54 (Scr_rfl σ) _) _) _
  obtain ⟨c, σ', hc, s', -, run⟩ := Md_cmp_all H (nI a) (nI b) 21 0 a b _ hs ha haz hb hbz (by omega) (by omega) (show upd (σ.2.1 54) 0 (nI a) 0 = nI a from k_upd_s) (show upd (σ.2.1 55) 0 (nI b) 0 = nI b from k_upd_s) (show upd (σ.2.1 56) 0 0 0 = 0 from k_upd_s)
  refine ⟨σ', s', ?_⟩
  unfold M_Md_compare
  rw [k_st_x (x := 0) (i := 0) rfl (by omega) (by omega), k_st_x (x := 0) (i := 0) rfl (by omega) (by omega), k_st_x (x := 0) (i := 0) rfl (by omega) (by omega)]
  have r := run (k_fu - c - 1 + 1)
  rw [show k_fu - c - 1 + 1 + c = k_fu by unfold k_fu; omega] at r
  rw [show (nI 0) = (0 : Int32) from rfl] at r
  refine Eq.trans r ?_
  by_cases cz : cmpN s 21 a b = 0
  · rw [if_pos cz, cz]
    show M_Md_compare_23_b _ _ _ _ _ = _
    unfold M_Md_compare_23_b
    rw [if_pos (by decide)]
  · rw [if_neg cz]
theorem Md_compare {σ : kS} {T a b : Nat} (hF : FI σ T) (hE : FE σ) (ha : a < T) (hb : b < T) : ∃ σ', Scr σ σ' ∧ M_Md_compare σ (nI a) (nI b) = some (cmpN σ 21 a b, σ') := Md_compare_g (MdH_of hF hE) ha (by omega) hb (by omega)
/-- what stands between two calls doesn't speak of the rows 54, 55, 56 -/
theorem FI_scr {s σ : kS} {T : Nat} (h : Scr s σ) (hF : FI s T) : FI σ T := by
  obtain ⟨h1, h2, h3⟩ := h
  obtain ⟨hT, e2, hz, htr⟩ := hF
  refine ⟨hT, by rw [h1]; exact e2, fun t ht => ?_, fun t ht => ?_⟩
  · rw [h3 4 (by decide) (by decide) (by decide), h3 6 (by decide) (by decide) (by decide), h3 7 (by decide) (by decide) (by decide), h3 9 (by decide) (by decide) (by decide), h3 11 (by decide) (by decide) (by decide)]
    exact hz t ht
  · refine TreeOK_congr (Nat.le_refl T) ht (fun j hj u _ => ?_) (fun k _ => ?_) (fun k _ => ?_) (htr t ht)
    · rw [h3 j (by omega) (by omega) (by omega)]
    · rw [h3 10 (by decide) (by decide) (by decide)]
    · rw [h3 12 (by decide) (by decide) (by decide)]
theorem FE_scr {s σ : kS} (h : Scr s σ) (hE : FE s) : FE σ := by
  obtain ⟨h1, h2, h3⟩ := h
  obtain ⟨f1, f2, f3, f4, f5, f6, f7, f8, f9, f10, f11, f12, f13⟩ := hE
  have g : ∀ j, j < 54 → σ.2.1 j = s.2.1 j := fun j hj => h3 j (by omega) (by omega) (by omega)
  refine ⟨by rw [h1]; exact f1, ?_, ?_, ?_, ?_, ?_, ?_, ?_, ?_, ?_, ?_, ?_, ?_⟩
  all_goals (rw [g _ (by decide), g _ (by decide)]; assumption)
theorem Inv_scr {s σ : kS} (h : Scr s σ) (hI : Inv s) : Inv σ := by
  obtain ⟨T, hF, hE, hR, hK⟩ := hI
  refine ⟨T, FI_scr h hF, FE_scr h hE, ?_, ?_⟩
  · obtain ⟨h1, h2, h3⟩ := h
    have g : ∀ j, j < 54 → σ.2.1 j = s.2.1 j := fun j hj => h3 j (by omega) (by omega) (by omega)
    obtain ⟨r, n, hr, hn, q0, q1, hp, q12, q13, q38, q39⟩ := hR
    have ge : ∀ k, gN σ 0 k = gN s 0 k := fun k => by unfold gN; rw [g 0 (by decide)]
    refine ⟨r, n, hr, hn, by rw [h1]; exact q0, by rw [h1]; exact q1, fun k hk => ?_, by rw [h1]; exact q12, by rw [h1]; exact q13, ?_, ?_⟩
    · rw [ge, g 0 (by decide)]; exact hp k hk
    · rw [g 38 (by decide), g 0 (by decide)]; exact q38
    · rw [g 39 (by decide), g 1 (by decide)]; exact q39
  · obtain ⟨h1, h2, h3⟩ := h
    have g : ∀ j, j < 54 → σ.2.1 j = s.2.1 j := fun j hj => h3 j (by omega) (by omega) (by omega)
    obtain ⟨n, hn, k9, k14, k16, hk⟩ := hK
    exact ⟨n, hn, by rw [h1]; exact k9, by rw [h1]; exact k14, by rw [h1]; exact k16, by rw [g 24 (by decide), g 25 (by decide), g 40 (by decide), g 41 (by decide)]; exact hk⟩
