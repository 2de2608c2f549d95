/-- the state in which both constructors leave the cells -/
def k_s0 : kS := (fun _ => 0, fun _ _ => 0, fun _ => 0)
theorem pure_main (L : Nat) (xs : Nat → Int32) (hL : L ≤ 2048) : ∃ σo, M_La_law L xs k_fu k_s0 0 = some (1, σo) := sorry
