/-! the state of all cells that the walk moves: numbers, rows of numbers, the law's row of one long -/
abbrev kS : Type := (Nat → Int32) × (Nat → Nat → Int32) × (Nat → Int64)
def k_sS (σ : kS) (k : Nat) (x : Int32) : kS := (upd σ.1 k x, σ.2)
def k_sA (σ : kS) (k : Nat) (f : Nat → Int32) : kS := (σ.1, va_up σ.2.1 k f, σ.2.2)
def k_sL (σ : kS) (f : Nat → Int64) : kS := (σ.1, σ.2.1, f)
/-! the words that the mirrors are made of, and what follows where one of them comes to an end -/
section KM
variable {α : Type} {r : α}
def k_ld (f : Nat → Int32) (n : Nat) (i : Int32) (k : Int32 → Option α) : Option α := if i < 0 ∨ n ≤ i.toNatClampNeg then none else k (f i.toNatClampNeg)
theorem k_ld_e {f : Nat → Int32} {n : Nat} {i : Int32} {k : Int32 → Option α} (h : k_ld f n i k = some r) : ∃ x, x = f i.toNatClampNeg ∧ vp_in i n ∧ k x = some r := by
  unfold k_ld at h
  by_cases c : i < 0 ∨ n ≤ i.toNatClampNeg
  · rw [if_pos c] at h; cases h
  · rw [if_neg c] at h; exact ⟨_, rfl, c, h⟩
def k_st (σ : kS) (j n : Nat) (i x : Int32) (k : kS → Option α) : Option α := if i < 0 ∨ n ≤ i.toNatClampNeg then none else k (k_sA σ j (upd (σ.2.1 j) i.toNatClampNeg x))
theorem k_st_e {σ : kS} {j n : Nat} {i x : Int32} {k : kS → Option α} (h : k_st σ j n i x k = some r) : ∃ σ', σ' = k_sA σ j (upd (σ.2.1 j) i.toNatClampNeg x) ∧ vp_in i n ∧ k σ' = some r := by
  unfold k_st at h
  by_cases c : i < 0 ∨ n ≤ i.toNatClampNeg
  · rw [if_pos c] at h; cases h
  · rw [if_neg c] at h; exact ⟨_, rfl, c, h⟩
def k_set (σ : kS) (j : Nat) (x : Int32) (k : kS → Option α) : Option α := k (k_sS σ j x)
theorem k_set_e {σ : kS} {j : Nat} {x : Int32} {k : kS → Option α} (h : k_set σ j x k = some r) : ∃ σ', σ' = k_sS σ j x ∧ k σ' = some r := ⟨_, rfl, h⟩
def k_let (x : Int32) (k : Int32 → Option α) : Option α := k x
theorem k_let_e {x : Int32} {k : Int32 → Option α} (h : k_let x k = some r) : ∃ y, y = x ∧ k y = some r := ⟨_, rfl, h⟩
def k_z (v : Int32) (o : Option α) : Option α := if v = 0 ∨ v = 1 then o else none
theorem k_z_e {v : Int32} {o : Option α} (h : k_z v o = some r) : (v = 0 ∨ v = 1) ∧ o = some r := by
  unfold k_z at h
  by_cases c : v = 0 ∨ v = 1
  · rw [if_pos c] at h; exact ⟨c, h⟩
  · rw [if_neg c] at h; cases h
def k_call (o : Option (Int32 × kS)) (k : Int32 → kS → Option α) : Option α := match o with
  | none => none
  | some (x, σ) => k x σ
theorem k_call_e {o : Option (Int32 × kS)} {k : Int32 → kS → Option α} (h : k_call o k = some r) : ∃ x σ', o = some (x, σ') ∧ k x σ' = some r := by
  cases o with
  | none => cases h
  | some q => exact ⟨q.1, q.2, rfl, h⟩
def k_cp (σ : kS) (j0 n0 j1 n1 : Nat) (sp dp n : Int32) (k : kS → Option α) : Option α := if sp < 0 ∨ dp < 0 ∨ n < 0 ∨ n0 < sp.toNatClampNeg + n.toNatClampNeg ∨ n1 < dp.toNatClampNeg + n.toNatClampNeg then none else k (k_sA σ j1 (va_cpy (σ.2.1 j0) (σ.2.1 j1) sp.toNatClampNeg dp.toNatClampNeg n.toNatClampNeg))
theorem k_cp_e {σ : kS} {j0 n0 j1 n1 : Nat} {sp dp n : Int32} {k : kS → Option α} (h : k_cp σ j0 n0 j1 n1 sp dp n k = some r) : ∃ σ', σ' = k_sA σ j1 (va_cpy (σ.2.1 j0) (σ.2.1 j1) sp.toNatClampNeg dp.toNatClampNeg n.toNatClampNeg) ∧ ¬ sp < 0 ∧ ¬ dp < 0 ∧ ¬ n < 0 ∧ sp.toNatClampNeg + n.toNatClampNeg ≤ n0 ∧ dp.toNatClampNeg + n.toNatClampNeg ≤ n1 ∧ k σ' = some r := by
  unfold k_cp at h
  by_cases c : sp < 0 ∨ dp < 0 ∨ n < 0 ∨ n0 < sp.toNatClampNeg + n.toNatClampNeg ∨ n1 < dp.toNatClampNeg + n.toNatClampNeg
  · rw [if_pos c] at h; cases h
  · rw [if_neg c] at h
    exact ⟨_, rfl, fun q => c (Or.inl q), fun q => c (Or.inr (Or.inl q)), fun q => c (Or.inr (Or.inr (Or.inl q))), Nat.le_of_not_lt (fun q => c (Or.inr (Or.inr (Or.inr (Or.inl q))))), Nat.le_of_not_lt (fun q => c (Or.inr (Or.inr (Or.inr (Or.inr q))))), h⟩
end KM
/-- an answer of a method that may throw: 0 and what it answers, or the number of what it threw -/
abbrev kR : Type := (Nat × Int32) × kS
def k_callx (o : Option kR) (k : Int32 → kS → Option kR) : Option kR := match o with
  | none => none
  | some ((0, x), σ) => k x σ
  | some ((n + 1, _), σ) => some ((n + 1, 0), σ)
theorem k_callx_e {o : Option kR} {k : Int32 → kS → Option kR} {r : kR} (h : k_callx o k = some r) : ∃ n x σ', o = some ((n, x), σ') ∧ (n = 0 → k x σ' = some r) ∧ (n ≠ 0 → r = ((n, 0), σ')) := by
  cases o with
  | none => cases h
  | some q =>
    obtain ⟨⟨n, x⟩, σ'⟩ := q
    cases n with
    | zero => exact ⟨0, x, σ', rfl, fun _ => h, fun e => absurd rfl e⟩
    | succ n => exact ⟨n + 1, x, σ', rfl, fun e => by omega, fun _ => (Option.some.inj h).symm⟩
/-- how often a loop of a mirror may go round: far above what any run needs -/
def k_fu : Nat := 100000
/-- worlds at the same addresses are apart alike -/
theorem k_fstD {A : Nat → Prop} {w w' : va_W} (e : w.map Prod.fst = w'.map Prod.fst) (h : va_D A w) : va_D A w' := by
  have at' : ∀ (k : Nat) (q : Nat × va_E), w'[k]? = some q → ∃ p : Nat × va_E, w[k]? = some p ∧ p.1 = q.1 := by
    intro k q hq
    have h1 : (w.map Prod.fst)[k]? = some q.1 := by rw [e, List.getElem?_map, hq]; rfl
    rw [List.getElem?_map] at h1
    cases hp : w[k]? with
    | none => rw [hp] at h1; cases h1
    | some p => rw [hp] at h1; exact ⟨p, rfl, Option.some.inj h1⟩
  refine ⟨fun i j p q hp hq hpq => ?_, fun k q hq => ?_⟩
  · obtain ⟨p2, h1, e1⟩ := at' i p hp
    obtain ⟨q2, h2, e2⟩ := at' j q hq
    exact h.1 i j p2 q2 h1 h2 (e1.trans (hpq.trans e2.symm))
  · obtain ⟨p2, h1, e1⟩ := at' k q hq
    exact e1 ▸ h.2 k p2 h1
theorem k_free {A : Nat → Prop} {w : va_W} {H0 H : Heap} {locs : List Loc} (hD : va_D A w) (hS : va_S A H0 H locs) (hA : ∀ q, H0.size ≤ q → A q) : ∀ q, va_A w H.size q → A q := by
  intro q h
  rcases h with ⟨k, e, h⟩ | h
  · exact hD.2 k (q, e) h
  · exact hA q (Nat.le_trans hS.1 h)
theorem k_mvP {D : va_G} {cl : List vw_C} {H : Heap} {w w' : va_W} (e : w = w') (h : va_P D cl w H) : va_P D cl w' H := e ▸ h
theorem k_mvD {A : Nat → Prop} {w w' : va_W} (e : w = w') (h : va_D A w) : va_D A w' := e ▸ h
/-! the words of a call -/
theorem k_cons {c : Cond} (h : c ∈ kG) : ∀ w ∈ c :: kG, w ∈ kG := fun w hw => (List.mem_cons.mp hw).elim (fun e => e ▸ h) id
theorem k_goodI {ws : List Cond} (h : ∀ w ∈ ws, w ∈ kG) : GoodIn kG ws := fun w hw => ⟨h w hw, good_of_word (k_kG w (h w hw))⟩
theorem k_gV {own C : String} {idx maxL : Nat} {y : MethodName} {bytes : ByteArray} {ret : Option FieldType} (h1 : Cond.methodLink own idx y ∈ kG) (h2 : Cond.instanceMethod y ∈ kG) (h3 : Cond.selects C y y ∈ kG) (h4 : Cond.initialized C ∈ kG) (h5 : Cond.code y bytes maxL ret ∈ kG) :
    GoodIn kG (wsV own idx C y (Cond.code y bytes maxL ret :: kG)) := k_goodI (fun w hw => by
  rcases List.mem_append.mp hw with h | h
  · rcases List.mem_cons.mp h with rfl | h
    · exact h1
    · rcases List.mem_cons.mp h with rfl | h
      · exact h2
      · rcases List.mem_cons.mp h with rfl | h
        · exact h3
        · rcases List.mem_cons.mp h with rfl | h
          · exact h4
          · cases h
  · exact k_cons h5 w h)
theorem k_gS {own : String} {idx maxL : Nat} {y : MethodName} {bytes : ByteArray} {ret : Option FieldType} (h1 : Cond.methodLink own idx y ∈ kG) (h2 : Cond.static y ∈ kG) (h4 : Cond.initialized y.cls ∈ kG) (h5 : Cond.code y bytes maxL ret ∈ kG) :
    GoodIn kG (va_wsS own idx y (Cond.code y bytes maxL ret :: kG)) := k_goodI (fun w hw => by
  rcases List.mem_append.mp hw with h | h
  · rcases List.mem_cons.mp h with rfl | h
    · exact h1
    · rcases List.mem_cons.mp h with rfl | h
      · exact h2
      · rcases List.mem_cons.mp h with rfl | h
        · exact h4
        · cases h
  · exact k_cons h5 w h)
