/-! the tables are right, method by method (printed) -/
set_option maxRecDepth 100000 in
theorem a_ckg179 : ∀ k, k < 8 → a_ckM (k + 179) = true := by decide +kernel
set_option maxRecDepth 100000 in
theorem a_ckg187 : ∀ k, k < 6 → a_ckM (k + 187) = true := by decide +kernel
set_option maxRecDepth 100000 in
theorem a_ckg193 : ∀ k, k < 5 → a_ckM (k + 193) = true := by decide +kernel
set_option maxRecDepth 100000 in
theorem a_ckg198 : ∀ k, k < 3 → a_ckM (k + 198) = true := by decide +kernel
set_option maxRecDepth 100000 in
theorem a_ckg201 : ∀ k, k < 6 → a_ckM (k + 201) = true := by decide +kernel
set_option maxRecDepth 100000 in
theorem a_ckg207 : ∀ k, k < 1 → a_ckM (k + 207) = true := by decide +kernel
