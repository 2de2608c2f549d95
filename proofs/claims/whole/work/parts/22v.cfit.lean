/-! the class: does a row fit, do the rows end here -/
def nmI : Nat → Int32
  | 0 => -1
  | n + 1 => nI n
/-- what the names hold: N h is 0, or one more than the length of the row of h in V -/
def NmC (σ : kS) (T : Nat) (N V : Nat → Nat) : Prop := ∀ h, h < 8 → σ.2.1 21 h = nmI (N h) ∧ N h ≤ 13 ∧ ∀ k, k + 1 < N h → σ.2.1 22 (12 * h + k) = nI (V (12 * h + k)) ∧ V (12 * h + k) < T
def sameN (s : kS) (V R : Nat → Nat) (h : Nat) : Nat → Nat → Int32
  | 0 => fun _ => 1
  | n + 1 => fun k => if cmpN s 21 (V (12 * h + k)) (R k) = 0 then sameN s V R h n (k + 1) else 0
theorem sameN_01 (s : kS) (V R : Nat → Nat) (h : Nat) : ∀ n k, sameN s V R h n k = 0 ∨ sameN s V R h n k = 1 := by
  intro n
  induction n with
  | zero => intro k; exact Or.inr rfl
  | succ n ih =>
    intro k
    show (if _ then _ else _) = _ ∨ (if _ then _ else _) = _
    split
    · exact ih (k + 1)
    · exact Or.inl rfl
/-- a row of m trees before a hole t: 0 it doesn't fit, 1 it fits, 2 it fits and gives the name its row -/
def holeV (s : kS) (t : Nat) (N V R : Nat → Nat) (m : Nat) : Nat :=
  if gN s 4 t = 1 ∧ gN s 2 (R 0) ≠ 0 then 0 else if tstA s t (R 0) m (gN s 11 t) 0 = 0 then 0 else
  if N (gN s 3 t) = 0 then 2 else if N (gN s 3 t) = m + 1 then (if sameN s V R (gN s 3 t) m 0 = 0 then 0 else 1) else 0
theorem C_compare {s σ : kS} {T a b : Nat} (hF : FI s T) (hS : SC s σ) (ha : a < T) (hb : b < T) : M_F_compare σ (nI a) (nI b) = some (cmpN s 21 a b, σ) := by
  rw [F_compare (FI_SC hF hS) ha hb, cmpN_congr (hS.2 2 (by decide)) (hS.2 3 (by decide)) (hS.2 9 (by decide)) (hS.2 10 (by decide))]
theorem Nm_same16 {s σ : kS} {T h m : Nat} {V R : Nat → Nat} (hF : FI s T) (hS : SC s σ) (hh : h < 8) (hm : m ≤ 12) (hR : ∀ k, k < m → σ.2.1 17 k = nI (R k) ∧ R k < T) (hV : ∀ k, k < m → σ.2.1 22 (12 * h + k) = nI (V (12 * h + k)) ∧ V (12 * h + k) < T) : ∀ n k f, k + n = m → M_Nm_hasSame_16 (f + n + 1) σ (nI h) (nI m) (nI k) = some (sameN s V R h n k, σ) := by
  intro n
  induction n with
  | zero =>
    intro k f hk
    show M_Nm_hasSame_16_b (M_Nm_hasSame_16 (f + 0)) σ _ _ _ = _
    unfold M_Nm_hasSame_16_b
    rw [if_pos (nI_le (by omega) (by omega))]
    rfl
  | succ n ih =>
    intro k f hk
    obtain ⟨r1, r2⟩ := hR k (by omega)
    obtain ⟨v1, v2⟩ := hV k (by omega)
    show M_Nm_hasSame_16_b (M_Nm_hasSame_16 (f + (n + 1))) σ _ _ _ = some ((if _ then _ else _), σ)
    unfold M_Nm_hasSame_16_b
    rw [if_neg (nI_ge (by omega) (by omega)), k_i12, k_ld_n (by omega) (by omega), k_ld_n (by omega) (by omega), r1, v1, k_call_s (C_compare hF hS v2 r2)]
    by_cases c : cmpN s 21 (V (12 * h + k)) (R k) = 0
    · rw [if_pos c, if_pos c, k_let_r, nI_1]
      exact ih (k + 1) f (by omega)
    · rw [if_neg c, if_neg c]
/-- the name h of slot j gets the row of m trees -/
def giveC (σ : kS) (h m j : Nat) : kS := k_sA (k_sA (k_sA σ 22 (va_cpy (σ.2.1 17) (σ.2.1 22) 0 (12 * h) m)) 21 (upd (σ.2.1 21) h (nI m))) 23 (upd (σ.2.1 23) h (nI j))
theorem k_call_j {α : Type} {x : Int32} {σ : kS} {k : Int32 → kS → Option α} : k_call (some (x, σ)) k = k x σ := rfl
theorem Nm_give {σ : kS} {h m j : Nat} (hh : h < 8) (hm : m ≤ 12) : M_Nm_give σ (nI h) (nI m) (nI j) = some (0, giveC σ h m j) := by
  unfold M_Nm_give k_cp
  have e1 : nI h * 12 = nI (12 * h) := by rw [show (12 : Int32) = nI 12 from rfl, pk_mul, Nat.mul_comm]
  rw [e1, nI_clamp (by omega), nI_clamp (by omega), if_neg (by
    rintro (x | x | x | x | x)
    · exact absurd x (by decide)
    · exact nI_pos (by omega) x
    · exact nI_pos (by omega) x
    · rw [show (0 : Int32).toNatClampNeg = 0 from rfl] at x; omega
    · omega)]
  show k_st _ 21 8 _ _ _ = _
  rw [k_st_x rfl (by omega) (by omega), k_st_x rfl (by omega) (by omega)]
  rfl
theorem Se_fitsHole {s σ : kS} {T j t m : Nat} {N V R : Nat → Nat} (hF : FI s T) (hS : SC s σ) (ht : t < T) (h2 : gN s 2 t = 2) (hm : m ≤ 12) (hk1 : gN s 4 t = 1 → m = 1) (h3 : σ.1 3 = nI m) (hR : ∀ k, k < m → σ.2.1 17 k = nI (R k) ∧ R k < T) (hN : NmC σ T N V) :
    M_Se_fitsHole σ (nI j) (nI t) = some (if holeV s t N V R m = 0 then 0 else 1, if holeV s t N V R m = 2 then giveC σ (gN s 3 t) m j else σ) := by
  have h8 := T_name8 hF ht h2
  have hr : m = 1 → σ.2.1 17 0 = nI (R 0) ∧ R 0 < T := fun e => hR 0 (by omega)
  obtain ⟨n1, n2, n3⟩ := hN (gN s 3 t) h8
  have rest : ∀ q : Nat, q = (if tstA s t (R 0) m (gN s 11 t) 0 = 0 then 0 else if N (gN s 3 t) = 0 then 2 else if N (gN s 3 t) = m + 1 then (if sameN s V R (gN s 3 t) m 0 = 0 then 0 else 1) else 0) → M_Se_fitsHole_30 σ (nI j) (nI t) = some (if q = 0 then 0 else 1, if q = 2 then giveC σ (gN s 3 t) m j else σ) := by
    intro q hq
    unfold M_Se_fitsHole_30
    rw [h3, k_call_s (F_tests hF hS ht hm hr)]
    by_cases c : tstA s t (R 0) m (gN s 11 t) 0 = 0
    · rw [if_pos c] at hq
      rw [if_pos c, hq, if_pos rfl, if_neg (by decide)]
    · rw [if_neg c] at hq
      rw [if_neg c, k_call_s (C_nameOf hF hS ht)]
      unfold M_Nm_hasNothing
      rw [k_ld_n h8 (by omega), n1]
      by_cases d : N (gN s 3 t) = 0
      · rw [if_pos d] at hq
        rw [d, hq, if_neg (show ¬ (0 : Int32) ≤ nmI 0 by decide)]
        rw [k_call_j, if_neg (by decide), h3, k_call_s (Nm_give h8 hm), if_neg (by decide), if_pos rfl]
      · rw [if_neg d] at hq
        obtain ⟨x, hx⟩ : ∃ x, N (gN s 3 t) = x + 1 := ⟨N (gN s 3 t) - 1, by omega⟩
        rw [hx] at hq n2 n3 n1
        rw [hx, if_pos (show (0 : Int32) ≤ nmI (x + 1) from nI_le (a := 0) (by omega) (by omega))]
        rw [k_call_j, if_pos rfl]
        unfold M_Nm_hasSame
        rw [h3, k_ld_n h8 (by omega), n1]
        by_cases e : x + 1 = m + 1
        · rw [if_pos e] at hq
          rw [if_pos (show nmI (x + 1) = nI m by rw [e]; rfl)]
          have := Nm_same16 (V := V) (R := R) hF hS h8 hm hR (fun k hk => n3 k (by omega)) m 0 (k_fu - m - 1) (by omega)
          rw [show k_fu - m - 1 + m + 1 = k_fu by unfold k_fu; omega] at this
          rw [k_call_s (show M_Nm_hasSame_16 k_fu σ (nI (gN s 3 t)) (nI m) 0 = _ from this)]
          rcases sameN_01 s V R (gN s 3 t) m 0 with g | g
          · rw [if_pos g] at hq
            rw [g, hq, if_pos rfl, if_neg (by decide)]
            rfl
          · rw [if_neg (by rw [g]; decide)] at hq
            rw [g, hq, if_neg (by decide), if_neg (by decide)]
            rfl
        · rw [if_neg e] at hq
          rw [if_neg (show ¬ nmI (x + 1) = nI m from fun y => e (by have := (nI_eq (by omega) (by omega)).mp (show nI x = nI m from y); omega)), hq, if_pos rfl, if_neg (by decide)]
          rfl
  unfold M_Se_fitsHole
  rw [k_call_s (show M_F_isHoleOfKind σ (nI t) 1 = _ from C_isHoleK (k := 1) hF hS ht (by omega))]
  by_cases k1 : gN s 4 t = 1
  · obtain ⟨r1, r2⟩ := hr (hk1 k1)
    rw [if_pos (c := gN s 2 t = 2 ∧ gN s 4 t = 1) ⟨h2, k1⟩, if_neg (c := (1 : Int32) = 0) (by decide), k_ld_x (x := 0) (i := 0) rfl (by omega) (by omega), r1, k_call_s (C_isLeaf hF hS r2)]
    by_cases l : gN s 2 (R 0) = 0
    · rw [if_pos l, if_neg (by decide)]
      refine rest _ ?_
      unfold holeV
      rw [if_neg (fun x => x.2 l)]
    · have hv : holeV s t N V R m = 0 := by unfold holeV; rw [if_pos ⟨k1, l⟩]
      rw [if_neg l, if_pos rfl, hv, if_pos rfl, if_neg (by decide)]
  · rw [if_neg (c := gN s 2 t = 2 ∧ gN s 4 t = 1) (fun x => k1 x.2), if_pos (c := (0 : Int32) = 0) rfl]
    refine rest _ ?_
    unfold holeV
    rw [if_neg (fun x => k1 x.1)]
/-- slot j stands beside the tree r -/
def besC (s : kS) (σ : kS) (j r : Nat) : kS := k_sA (k_sA σ 15 (upd (σ.2.1 15) j (nI r))) 16 (upd (σ.2.1 16) j (nI (2 ^ (gN s 9 r) - 1)))
theorem all_sh : ∀ c, c ≤ 12 → ((1 : Int32) <<< (nI c &&& 31)) - 1 = nI (2 ^ c - 1) := by decide +kernel
theorem Se_fitsLN {s σ : kS} {T j t r : Nat} (hF : FI s T) (hS : SC s σ) (ht : t < T) (hj : j < 70) (hr : σ.2.1 17 0 = nI r) (hrT : r < T) :
    M_Se_fitsLeafOrNode σ (nI j) (nI t) = some (if gN s 2 t = gN s 2 r ∧ gN s 3 t = gN s 3 r then 1 else 0, if gN s 2 t = gN s 2 r ∧ gN s 3 t = gN s 3 r then besC s σ j r else σ) := by
  have hT := hF.1
  unfold M_Se_fitsLeafOrNode
  rw [k_ld_x (x := 0) (i := 0) rfl (by omega) (by omega), hr, k_call_s (C_likes hF hS ht hrT)]
  by_cases c : gN s 2 t = gN s 2 r ∧ gN s 3 t = gN s 3 r
  · have hS2 : SC s (k_sA σ 15 (upd (σ.2.1 15) j (nI r))) := ⟨hS.1, fun k hk => by rw [k_sA2 (by omega)]; exact hS.2 k hk⟩
    rw [if_pos c, if_neg (by decide), if_pos c, k_ld_x (x := 0) (i := 0) rfl (by omega) (by omega), hr, k_st_x rfl hj (by omega), k_ld_x (x := 0) (i := 0) rfl (by omega) (by omega), k_sA2 (by decide), hr, k_call_s (C_partCount hF hS2 hrT)]
    unfold M_Pc_all
    rw [all_sh _ (T_cnt hF hrT)]
    rw [k_call_j, k_st_x rfl hj (by omega)]
    rfl
  · rw [if_neg c, if_pos rfl, if_neg c]
/-! do the rows end here: up from slot a; 0 no, 1 yes and nothing is left, a + 2 yes and a has a next one -/
def climb (s : kS) (W : Nat → Nat → Nat) (L : Nat → Nat) : Nat → Nat → Nat
  | 0 => fun _ => 0
  | f + 1 => fun a => if a = 0 then 1 else if W 2 a + 1 = cnS s W (W 1 a) then (if L a = 0 then climb s W L f (W 1 a) else 0) else a + 2
theorem Se_ends49 {s σ : kS} {T n j : Nat} {W : Nat → Nat → Nat} {L : Nat → Nat} (hF : FI s T) (hS : SC s σ) (hP : Plan s T n W) (hL : Lay s W σ 1 n) (x1 x2 : Int32) (h16 : ∀ a, 0 < a → a ≤ j → j < enS s W a → σ.2.1 16 (W 1 a) = nI (L a) ∧ L a < 2 ^ 31) (hj : j < n) :
    ∀ f a x F, a ≤ j → j < enS s W a → x ≤ gN s 7 (W 0 a) → 21 ≤ f + gN s 7 (W 0 a) → M_Se_rowsEndHere_49 (F + f) σ x1 x2 (nI a) (nI x) = some (if climb s W L f a = 0 then 0 else 1, σ) := by
  have hn := hP.1
  intro f
  induction f with
  | zero =>
    intro a x F ha hae hx hf
    have hT0 : W 0 a < T := by
      by_cases a0 : a = 0
      · rw [a0]; exact hP.2.1
      · exact (hP.2.2.2.2 a (by omega) (by omega)).1.2.2.1
    have := T_dep hF hT0
    omega
  | succ f ih =>
    intro a x F ha hae hx hf
    show M_Se_rowsEndHere_49_b (M_Se_rowsEndHere_49 (F + f)) σ x1 x2 _ _ = some (if (if a = 0 then 1 else if W 2 a + 1 = cnS s W (W 1 a) then (if L a = 0 then climb s W L f (W 1 a) else 0) else a + 2) = 0 then 0 else 1, σ)
    have hT0 : W 0 a < T := by
      by_cases a0 : a = 0
      · rw [a0]; exact hP.2.1
      · exact (hP.2.2.2.2 a (by omega) (by omega)).1.2.2.1
    have hd := T_dep hF hT0
    unfold M_Se_rowsEndHere_49_b
    rw [if_neg (show ¬ (20 : Int32) < nI x from nI_nlt (a := 20) (by omega) (by omega))]
    by_cases a0 : a = 0
    · rw [if_pos a0, if_pos (show nI a ≤ 0 by rw [a0]; decide), if_neg (show ¬ (1 : Nat) = 0 by omega)]
    · obtain ⟨⟨b1, b2, b3, b4, b5⟩, ⟨g1, g2, g3⟩, _⟩ := hP.2.2.2.2 a (by omega) (by omega)
      obtain ⟨l1, l2, l3⟩ := hL a (by omega) (by omega)
      have hpT : W 0 (W 1 a) < T := by
        by_cases a0 : W 1 a = 0
        · rw [a0]; exact hP.2.1
        · exact (hP.2.2.2.2 (W 1 a) (by omega) (by omega)).1.2.2.1
      rw [if_neg a0, if_neg (show ¬ nI a ≤ 0 from nI_ge (a := 0) (by omega) (by omega))]
      unfold M_Pl_isLastInRow
      rw [k_ld_n (by omega) (by omega), l3]
      by_cases la : W 2 a + 1 = cnS s W (W 1 a)
      · rw [if_pos la, if_pos la]
        rw [show nI 1 = 1 from rfl, k_z1, k_call_j]
        obtain ⟨h1, h2⟩ := h16 a (by omega) ha hae
        rw [if_neg (by decide), k_call_s (Pl_par (by omega) l2), k_ld_n (by omega) (by omega), h1]
        by_cases z : L a = 0
        · rw [if_pos z, if_pos (show nI (L a) = 0 by rw [z]; rfl), k_let_r, nI_1]
          have hd2 := (T_part hF hpT b4).2.2
          rw [← b5] at hd2
          exact ih (W 1 a) (x + 1) F (by omega) (by have := g3 la; omega) (by omega) (by omega)
        · rw [if_neg z, if_neg (fun e => z ((nI_z h2).mp e)), if_pos rfl]
      · rw [if_neg la, if_neg la, if_neg (show ¬ a + 2 = 0 by omega)]
        rw [show nI 0 = 0 from rfl, k_z0, k_call_j, if_pos rfl]
/-- after a fit at slot j: 0 the rows don't end here, 1 all is matched, else a next slot -/
def endV (s : kS) (W : Nat → Nat → Nat) (L : Nat → Nat) (j : Nat) : Nat :=
  if gN s 2 (W 0 j) = 1 then (if cnS s W j = 0 then (if L (j + 100) = 0 then climb s W L 21 j else 0) else 2) else climb s W L 21 j
theorem Se_ends {s σ : kS} {T n j : Nat} {W : Nat → Nat → Nat} {L : Nat → Nat} (hF : FI s T) (hS : SC s σ) (hP : Plan s T n W) (h0 : σ.2.1 18 0 = nI (W 0 0)) (hL : Lay s W σ 1 n) (h16 : ∀ a, 0 < a → a ≤ j → j < enS s W a → σ.2.1 16 (W 1 a) = nI (L a) ∧ L a < 2 ^ 31) (hj : j < n) (hjs : gN s 2 (W 0 j) = 1 → σ.2.1 16 j = nI (L (j + 100)) ∧ L (j + 100) < 2 ^ 31) :
    M_Se_rowsEndHere σ (nI j) = some (if endV s W L j = 0 then 0 else 1, σ) := by
  have hn := hP.1
  have hT0 : W 0 j < T := by
    by_cases a0 : j = 0
    · rw [a0]; exact hP.2.1
    · exact (hP.2.2.2.2 j (by omega) (by omega)).1.2.2.1
  have e18 : σ.2.1 18 j = nI (W 0 j) := by
    by_cases a0 : j = 0
    · rw [a0]; exact h0
    · exact (hL j (by omega) hj).1
  have hsz := T_size hF hT0
  have hen : j < enS s W j := by unfold enS; omega
  have hcl := Se_ends49 hF hS hP hL (nI j) (nI (W 0 j)) h16 hj 21 j 0 (k_fu - 21) (Nat.le_refl j) hen (Nat.zero_le _) (by omega)
  rw [show k_fu - 21 + 21 = k_fu by unfold k_fu; omega] at hcl
  have hc12 := T_cnt hF hT0
  unfold M_Se_rowsEndHere endV
  rw [k_call_s (Pl_tree (by omega) e18), k_call_s (C_isNode hF hS hT0)]
  by_cases c : gN s 2 (W 0 j) = 1
  · rw [if_pos c, if_neg (by decide), if_pos c, k_call_s (C_partCount hF hS hT0)]
    by_cases d : cnS s W j = 0
    · have d' : gN s 9 (W 0 j) = 0 := d
      rw [if_pos d, d', if_pos (show nI 0 ≤ 0 by decide), k_ld_n (by omega) (by omega), (hjs c).1]
      by_cases z : L (j + 100) = 0
      · rw [if_pos z, if_pos (show nI (L (j + 100)) = 0 by rw [z]; rfl)]
        exact hcl
      · rw [if_neg z, if_neg (fun e => z ((nI_z (hjs c).2).mp e)), if_pos rfl]
    · have d' : ¬ gN s 9 (W 0 j) = 0 := d
      rw [if_neg d, if_neg (show ¬ nI (gN s 9 (W 0 j)) ≤ 0 from nI_ge (a := 0) (by omega) (by omega)), if_neg (show ¬ (2 : Nat) = 0 by omega)]
  · rw [if_neg c, if_pos rfl, if_neg c]
    exact hcl
