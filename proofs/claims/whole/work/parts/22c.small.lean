/-! the law's words round a call -/
theorem lg_self (x : Int64) : lg_cmp x x = 0 := by
  unfold lg_cmp
  rw [if_neg (fun h => by
    have h1 := Int64.lt_iff_toInt_lt.mp h
    omega), if_pos rfl]
theorem k_sL_id (σ : kS) : k_sL σ σ.2.2 = σ := rfl
theorem k_sL_1 (σ : kS) (f : Nat → Int64) : (k_sL σ f).1 = σ.1 := rfl
theorem k_sL_2 (σ : kS) (f : Nat → Int64) : (k_sL σ f).2.1 = σ.2.1 := rfl
theorem Inv_L {σ : kS} (h : Inv σ) (f : Nat → Int64) : Inv (k_sL σ f) := h
theorem k_out (f : Nat → Int64) (x : Int64) : vp_updL f (0 : Int32).toNatClampNeg x (0 : Int32).toNatClampNeg = x := if_pos rfl
/-- what the model answers as 'thrown' for what the class threw -/
def k_code (e1 e2 n : Nat) : Int32 := if n = 0 then 0 else if n = e1 then 1 else 2
/-- class and model agree at a call -/
def Agree (e1 e2 : Nat) (oc : Option kR) (om : kS → Option (Int32 × kS)) : Prop :=
  ∃ n r σ1, oc = some ((n, r), σ1) ∧ (n = 0 ∨ n = e1 ∨ (n ≠ e1 ∧ n = e2)) ∧ ∀ f : Nat → Int64, ∃ b σ2, om (k_sL σ1 f) = some (b, σ2) ∧ Inv σ2 ∧ σ2.2.2 = f ∧ σ2.1 10 = k_code e1 e2 n ∧ (n = 0 → b = r)
theorem k_try0 {o : Option kR} {e1 e2 : Nat} {x : Int32} {σ : kS} {k : Int32 → kS → Option (Int32 × kS)} (h : o = some ((0, x), σ)) : k_try o e1 e2 k = k x σ := by rw [h]; rfl
theorem k_try1 {o : Option kR} {e1 e2 n : Nat} {x : Int32} {σ : kS} {k : Int32 → kS → Option (Int32 × kS)} (h : o = some ((n, x), σ)) (h0 : n ≠ 0) (hn : n = e1) : k_try o e1 e2 k = some (1, σ) := by
  rw [h]
  cases n with
  | zero => exact absurd rfl h0
  | succ n => show (if n + 1 = e1 then some ((1 : Int32), σ) else _) = _; rw [if_pos hn]
theorem k_try2 {o : Option kR} {e1 e2 n : Nat} {x : Int32} {σ : kS} {k : Int32 → kS → Option (Int32 × kS)} (h : o = some ((n, x), σ)) (h0 : n ≠ 0) (h1 : n ≠ e1) (hn : n = e2) : k_try o e1 e2 k = some (2, σ) := by
  rw [h]
  cases n with
  | zero => exact absurd rfl h0
  | succ n => show (if n + 1 = e1 then some ((1 : Int32), σ) else if n + 1 = e2 then some (2, σ) else none) = _; rw [if_neg h1, if_pos hn]
/-- a call whose answer is a number: helper, model and comparisons together -/
theorem k_askI {e1 e2 : Nat} {oc : Option kR} {om : kS → Option (Int32 × kS)} (hA : Agree e1 e2 oc om) (rec23 : kS → Int32 → Option (Int32 × kS)) (x4 : Int32) :
    ∃ σ2, Inv σ2 ∧ (k_call (k_try oc e1 e2 fun x σ1 => some (0, k_sL σ1 (vp_updL σ1.2.2 (0 : Int32).toNatClampNeg x.toInt64))) fun v2 σ3 => k_call (om σ3) fun v6 σ7 => k_call (M_Md_thrown σ7) fun v9 σ10 => if v9 = v2 then (if v2 = 0 then (if lg_cmp (σ10.2.2 (0 : Int32).toNatClampNeg) ((v6 : Int32).toInt64) = 0 then (k_let (x4 + 4) fun v16 => rec23 σ10 v16) else (some (0, σ10))) else (k_let (x4 + 4) fun v14 => rec23 σ10 v14)) else (some (0, σ10))) = rec23 σ2 (x4 + 4) := by
  obtain ⟨n, r, σ1, ho, hn, hm⟩ := hA
  by_cases h0 : n = 0
  · subst h0
    obtain ⟨b, σ2, h1, h2, h3, h4, h5⟩ := hm (vp_updL σ1.2.2 (0 : Int32).toNatClampNeg r.toInt64)
    have hb := h5 rfl
    subst hb
    refine ⟨σ2, h2, ?_⟩
    rw [k_try0 ho, k_call_s rfl, k_call_s h1, k_call_s (show M_Md_thrown σ2 = some (σ2.1 10, σ2) from rfl), h4]
    rw [if_pos rfl, show k_code e1 e2 0 = 0 from if_pos rfl, if_pos rfl, h3, k_out, lg_self, if_pos rfl]
    rfl
  · obtain ⟨b, σ2, h1, h2, h3, h4, -⟩ := hm σ1.2.2
    rw [k_sL_id] at h1
    refine ⟨σ2, h2, ?_⟩
    rcases hn with hn | hn | ⟨hn1, hn⟩
    · exact absurd hn h0
    · rw [k_try1 ho h0 hn, k_call_s rfl, k_call_s h1, k_call_s (show M_Md_thrown σ2 = some (σ2.1 10, σ2) from rfl), h4]
      rw [show k_code e1 e2 n = 1 by unfold k_code; rw [if_neg h0, if_pos hn], if_pos rfl, if_neg (by decide)]
      rfl
    · rw [k_try2 ho h0 hn1 hn, k_call_s rfl, k_call_s h1, k_call_s (show M_Md_thrown σ2 = some (σ2.1 10, σ2) from rfl), h4]
      rw [show k_code e1 e2 n = 2 by unfold k_code; rw [if_neg h0, if_neg hn1], if_pos rfl, if_neg (by decide)]
      rfl
/-- .. a truth -/
theorem k_askZ {e1 e2 : Nat} {oc : Option kR} {om : kS → Option (Int32 × kS)} (hA : Agree e1 e2 oc om) (rec23 : kS → Int32 → Option (Int32 × kS)) (x4 : Int32) :
    ∃ σ2, Inv σ2 ∧ (k_call (k_try oc e1 e2 fun x σ1 => some (0, k_sL σ1 (vp_updL σ1.2.2 (0 : Int32).toNatClampNeg (if x = 0 then 0 else 1)))) fun v3 σ4 => k_call (om σ4) fun v8 σ9 => k_call (M_Md_thrown σ9) fun v11 σ12 => if v11 = v3 then (if v3 = 0 then (if v8 = 0 then (if lg_cmp (σ12.2.2 (0 : Int32).toNatClampNeg) (0) = 0 then (k_let (x4 + 4) fun v19 => rec23 σ12 v19) else (some (0, σ12))) else (if lg_cmp (σ12.2.2 (0 : Int32).toNatClampNeg) (1) = 0 then (k_let (x4 + 4) fun v21 => rec23 σ12 v21) else (some (0, σ12)))) else (k_let (x4 + 4) fun v16 => rec23 σ12 v16)) else (some (0, σ12))) = rec23 σ2 (x4 + 4) := by
  obtain ⟨n, r, σ1, ho, hn, hm⟩ := hA
  by_cases h0 : n = 0
  · subst h0
    obtain ⟨b, σ2, h1, h2, h3, h4, h5⟩ := hm (vp_updL σ1.2.2 (0 : Int32).toNatClampNeg (if r = 0 then 0 else 1))
    have hb := h5 rfl
    subst hb
    refine ⟨σ2, h2, ?_⟩
    rw [k_try0 ho, k_call_s rfl, k_call_s h1, k_call_s (show M_Md_thrown σ2 = some (σ2.1 10, σ2) from rfl), h4]
    rw [if_pos rfl, show k_code e1 e2 0 = 0 from if_pos rfl, if_pos rfl, h3, k_out]
    by_cases hr : b = 0
    · rw [if_pos hr, if_pos hr, lg_self, if_pos rfl]; rfl
    · rw [if_neg hr, if_neg hr, lg_self, if_pos rfl]; rfl
  · obtain ⟨b, σ2, h1, h2, h3, h4, -⟩ := hm σ1.2.2
    rw [k_sL_id] at h1
    refine ⟨σ2, h2, ?_⟩
    rcases hn with hn | hn | ⟨hn1, hn⟩
    · exact absurd hn h0
    · rw [k_try1 ho h0 hn, k_call_s rfl, k_call_s h1, k_call_s (show M_Md_thrown σ2 = some (σ2.1 10, σ2) from rfl), h4]
      rw [show k_code e1 e2 n = 1 by unfold k_code; rw [if_neg h0, if_pos hn], if_pos rfl, if_neg (by decide)]
      rfl
    · rw [k_try2 ho h0 hn1 hn, k_call_s rfl, k_call_s h1, k_call_s (show M_Md_thrown σ2 = some (σ2.1 10, σ2) from rfl), h4]
      rw [show k_code e1 e2 n = 2 by unfold k_code; rw [if_neg h0, if_neg hn1], if_pos rfl, if_neg (by decide)]
      rfl
