/-! the tables are right, method by method (printed) -/
set_option maxRecDepth 100000 in
theorem a_ckg75 : ∀ k, k < 14 → a_ckM (k + 75) = true := by decide +kernel
set_option maxRecDepth 100000 in
theorem a_ckg89 : ∀ k, k < 11 → a_ckM (k + 89) = true := by decide +kernel
set_option maxRecDepth 100000 in
theorem a_ckg100 : ∀ k, k < 14 → a_ckM (k + 100) = true := by decide +kernel
set_option maxRecDepth 100000 in
theorem a_ckg114 : ∀ k, k < 13 → a_ckM (k + 114) = true := by decide +kernel
set_option maxRecDepth 100000 in
theorem a_ckg127 : ∀ k, k < 9 → a_ckM (k + 127) = true := by decide +kernel
set_option maxRecDepth 100000 in
theorem a_ckg136 : ∀ k, k < 3 → a_ckM (k + 136) = true := by decide +kernel
