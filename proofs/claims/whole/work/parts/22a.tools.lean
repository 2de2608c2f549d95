/-- the state in which both constructors leave the cells -/
def k_s0 : kS := (fun _ => 0, fun _ _ => 0, fun _ => 0)
/-! layer 2: pure rows. The mirrors read and write by small numbers -/
theorem k_ld_n {α : Type} {f : Nat → Int32} {n i : Nat} {k : Int32 → Option α} (hi : i < n) (hn : n < 2 ^ 31) : k_ld f n (nI i) k = k (f i) := by
  unfold k_ld
  rw [if_neg (vp_in_nI hi hn), nI_clamp (by omega)]
theorem k_ld_x {α : Type} {f : Nat → Int32} {n i : Nat} {x : Int32} {k : Int32 → Option α} (hx : x = nI i) (hi : i < n) (hn : n < 2 ^ 31) : k_ld f n x k = k (f i) := by rw [hx]; exact k_ld_n hi hn
theorem k_st_x {α : Type} {σ : kS} {j n i : Nat} {x y : Int32} {k : kS → Option α} (hx : x = nI i) (hi : i < n) (hn : n < 2 ^ 31) : k_st σ j n x y k = k (k_sA σ j (upd (σ.2.1 j) i y)) := by
  rw [hx]
  unfold k_st
  rw [if_neg (vp_in_nI hi hn), nI_clamp (by omega)]
theorem k_z0 {α : Type} {o : Option α} : k_z 0 o = o := rfl
theorem k_z1 {α : Type} {o : Option α} : k_z 1 o = o := rfl
theorem k_call_s {α : Type} {o : Option (Int32 × kS)} {x : Int32} {σ : kS} {k : Int32 → kS → Option α} (h : o = some (x, σ)) : k_call o k = k x σ := by rw [h]; rfl
theorem k_callx_0 {o : Option kR} {x : Int32} {σ : kS} {k : Int32 → kS → Option kR} (h : o = some ((0, x), σ)) : k_callx o k = k x σ := by rw [h]; rfl
theorem k_callx_n {o : Option kR} {n : Nat} {x : Int32} {σ : kS} {k : Int32 → kS → Option kR} (h : o = some ((n + 1, x), σ)) : k_callx o k = some ((n + 1, 0), σ) := by rw [h]; rfl
theorem k_sAs {σ : kS} {j : Nat} {f : Nat → Int32} : (k_sA σ j f).2.1 j = f := if_pos rfl
theorem k_sA1 {σ : kS} {j : Nat} {f : Nat → Int32} : (k_sA σ j f).1 = σ.1 := rfl
theorem k_sA3 {σ : kS} {j : Nat} {f : Nat → Int32} : (k_sA σ j f).2.2 = σ.2.2 := rfl
theorem k_sA2 {σ : kS} {j i : Nat} {f : Nat → Int32} (h : i ≠ j) : (k_sA σ j f).2.1 i = σ.2.1 i := if_neg h
theorem k_sSs {σ : kS} {j : Nat} {x : Int32} : (k_sS σ j x).1 j = x := if_pos rfl
theorem k_sSn {σ : kS} {j i : Nat} {x : Int32} (h : i ≠ j) : (k_sS σ j x).1 i = σ.1 i := if_neg h
theorem k_sS2 {σ : kS} {j : Nat} {x : Int32} : (k_sS σ j x).2 = σ.2 := rfl
theorem k_upd_s {f : Nat → Int32} {k : Nat} {x : Int32} : upd f k x k = x := if_pos rfl
theorem k_upd_n {f : Nat → Int32} {k j : Nat} {x : Int32} (h : j ≠ k) : upd f k x j = f j := if_neg h
theorem k_upd_id {f : Nat → Int32} {k : Nat} {x : Int32} (h : f k = x) : upd f k x = f := by
  funext j
  by_cases e : j = k
  · rw [e, k_upd_s, h]
  · rw [k_upd_n e]
/-- a number that is none below 0 -/
def gN (σ : kS) (j t : Nat) : Nat := (σ.2.1 j t).toNatClampNeg
theorem gN_of {σ : kS} {j t n : Nat} (h : σ.2.1 j t = nI n) (hn : n < 2 ^ 31) : gN σ j t = n := by unfold gN; rw [h]; exact nI_clamp hn
theorem nI_lt0 {n : Nat} (h : n < 2 ^ 31) : ¬ nI n < 0 := nI_pos h
theorem nI_0' : (0 : Int32) = nI 0 := nI_0.symm
theorem nI_mod (n : Nat) (h : n < 2 ^ 31) : (nI n).toInt = n := nI_toInt h
/-- every number is below 0, or small and nI -/
theorem k_ix (x : Int32) : x < 0 ∨ ∃ n : Nat, n < 2 ^ 31 ∧ x = nI n := by
  by_cases h : x < 0
  · exact Or.inl h
  · exact Or.inr (nI_of h)
theorem k_let_r {α : Type} {x : Int32} {k : Int32 → Option α} : k_let x k = k x := rfl
theorem k_set_r {α : Type} {σ : kS} {j : Nat} {x : Int32} {k : kS → Option α} : k_set σ j x k = k (k_sS σ j x) := rfl
