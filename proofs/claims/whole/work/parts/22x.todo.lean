/-! what is still owed: each is to be moved to a part of its own, proved -/
theorem A_leaf {σ : kS} (h : Inv σ) (x : Int32) : Agree 1 2 (M_SM_leaf σ x) (fun s => M_Md_leaf s x) := sorry
theorem A_node {σ : kS} (h : Inv σ) (x : Int32) : Agree 1 2 (M_SM_node σ x) (fun s => M_Md_node s x) := sorry
theorem A_more {σ : kS} (h : Inv σ) (x y : Int32) : Agree 3 1 (M_SM_more σ x y) (fun s => M_Md_more s x y) := sorry
theorem A_hole {σ : kS} (h : Inv σ) (x y : Int32) : Agree 1 2 (M_SM_hole σ x y) (fun s => M_Md_hole s x y) := sorry
theorem A_test {σ : kS} (h : Inv σ) (x y z : Int32) : Agree 3 1 (M_SM_test σ x y z) (fun s => M_Md_test s x y z) := sorry
theorem A_match {σ : kS} (h : Inv σ) (x y z : Int32) : Agree 3 1 (M_SM_match σ x y z) (fun s => M_Md_match s x y z) := sorry
theorem A_bound {σ : kS} (h : Inv σ) (x y z : Int32) : Agree 3 1 (M_SM_bound σ x y z) (fun s => M_Md_bound s x y z) := sorry
theorem A_many {σ : kS} (h : Inv σ) (x y : Int32) : Agree 3 1 (M_SM_many σ x y) (fun s => M_Md_many s x y) := sorry
theorem A_rule {σ : kS} (h : Inv σ) (x : Int32) : Agree 3 2 (M_SM_rule σ x) (fun s => M_Md_rule s x) := sorry
theorem A_net {σ : kS} (h : Inv σ) (x : Int32) : Agree 3 1 (M_SM_net σ x) (fun s => M_Md_net s x) := sorry
theorem A_first {σ : kS} (h : Inv σ) (x : Int32) : Agree 3 1 (M_SM_first σ x) (fun s => M_Md_first s x) := sorry
theorem A_order {σ : kS} (h : Inv σ) (x y : Int32) : Agree 3 1 (M_SM_order σ x y) (fun s => M_Md_order s x y) := sorry
theorem A_parts {σ : kS} (h : Inv σ) (x : Int32) : Agree 3 0 (M_SM_parts σ x) (fun s => M_Md_parts s x) := sorry
theorem A_part {σ : kS} (h : Inv σ) (x y : Int32) : Agree 3 0 (M_SM_part σ x y) (fun s => M_Md_part s x y) := sorry
theorem A_tried {σ : kS} (h : Inv σ) : ∃ r σ1 σ2, M_SM_tried σ = some (r, σ1) ∧ M_Md_tried σ1 = some (r, σ2) ∧ Inv σ2 := sorry
theorem A_rules {σ : kS} (h : Inv σ) (x : Int32) : ∃ r σ1 σ2, M_SM_rules σ x = some (r, σ1) ∧ M_Md_rules σ1 x = some (r, σ2) ∧ Inv σ2 := sorry
theorem A_count {σ : kS} (h : Inv σ) (x : Int32) : ∃ r σ1 σ2, M_SM_count σ x = some (r, σ1) ∧ M_Md_count σ1 x = some (r, σ2) ∧ Inv σ2 := sorry
