/-! the tables are right, method by method (printed) -/
set_option maxRecDepth 100000 in
theorem a_ckg139 : ∀ k, k < 8 → a_ckM (k + 139) = true := by decide +kernel
set_option maxRecDepth 100000 in
theorem a_ckg147 : ∀ k, k < 7 → a_ckM (k + 147) = true := by decide +kernel
set_option maxRecDepth 100000 in
theorem a_ckg154 : ∀ k, k < 8 → a_ckM (k + 154) = true := by decide +kernel
set_option maxRecDepth 100000 in
theorem a_ckg162 : ∀ k, k < 3 → a_ckM (k + 162) = true := by decide +kernel
set_option maxRecDepth 100000 in
theorem a_ckg165 : ∀ k, k < 6 → a_ckM (k + 165) = true := by decide +kernel
set_option maxRecDepth 100000 in
theorem a_ckg171 : ∀ k, k < 8 → a_ckM (k + 171) = true := by decide +kernel
