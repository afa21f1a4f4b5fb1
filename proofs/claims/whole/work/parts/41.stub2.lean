/-! what the pure layer owes the law's entry -/
theorem start_k6 : k_X6_init := sorry
theorem start_k4 : k_X4_init := sorry
theorem rel_start : Rel (fun _ => 0) 0 i_X6_init_bA i_X6_init_bB i_X6_init_bZ i_X6_init_bG i_X6_init_bP i_X6_init_bQ i_X6_init_bC i_X6_init_bM i_X6_init_rK i_X6_init_rL i_X6_init_rG i_X6_init_sZ (fun _ => 0) i_X4_init_sU i_X6_init_pS (fun _ => 0) i_X6_init_pN i_X6_init_pK 0 (fun _ => 0) 0 0 i_X7_init_mN (fun _ => 0) 0 := sorry
