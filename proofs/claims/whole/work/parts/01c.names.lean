theorem wsL_ap {a b T : List Cond} (ha : ∀ w ∈ a, w ∈ T) (hb : ∀ w ∈ b, w ∈ T) : ∀ w ∈ a ++ b, w ∈ T := fun w h => (List.mem_append.mp h).elim (ha w) (hb w)
set_option maxRecDepth 20000 in
theorem wsL_q1 : ∀ w ∈ wsL_law0_r1, w ∈ lw_tbl := by decide +kernel
set_option maxRecDepth 20000 in
theorem wsL_q2 : ∀ w ∈ wsL_law0_r2, w ∈ lw_tbl := by decide +kernel
set_option maxRecDepth 20000 in
theorem wsL_q3 : ∀ w ∈ wsL_law0_r3, w ∈ lw_tbl := by decide +kernel
set_option maxRecDepth 20000 in
theorem wsL_q4 : ∀ w ∈ wsL_law0_r4, w ∈ lw_tbl := by decide +kernel
set_option maxRecDepth 20000 in
theorem wsL_q5 : ∀ w ∈ wsL_law0_r5, w ∈ lw_tbl := by decide +kernel
set_option maxRecDepth 20000 in
theorem wsL_q6 : ∀ w ∈ wsL_law0_r6, w ∈ lw_tbl := by decide +kernel
set_option maxRecDepth 20000 in
theorem wsL_q7 : ∀ w ∈ wsL_law0_r7, w ∈ lw_tbl := by decide +kernel
set_option maxRecDepth 20000 in
theorem wsL_q8 : ∀ w ∈ wsL_law0_r8, w ∈ lw_tbl := by decide +kernel
set_option maxRecDepth 20000 in
theorem wsL_q9 : ∀ w ∈ wsL_law0_r9, w ∈ lw_tbl := by decide +kernel
set_option maxRecDepth 20000 in
theorem wsL_q10 : ∀ w ∈ wsL_law0_r10, w ∈ lw_tbl := by decide +kernel
set_option maxRecDepth 20000 in
theorem wsL_q11 : ∀ w ∈ wsL_law0_r11, w ∈ lw_tbl := by decide +kernel
set_option maxRecDepth 20000 in
theorem wsL_q12 : ∀ w ∈ wsL_law0_r12, w ∈ lw_tbl := by decide +kernel
set_option maxRecDepth 20000 in
theorem wsL_q13 : ∀ w ∈ wsL_law0_r13, w ∈ lw_tbl := by decide +kernel
set_option maxRecDepth 20000 in
theorem wsL_q14 : ∀ w ∈ wsL_law0_r14, w ∈ lw_tbl := by decide +kernel
set_option maxRecDepth 20000 in
theorem wsL_q15 : ∀ w ∈ wsL_law0_r15, w ∈ lw_tbl := by decide +kernel
