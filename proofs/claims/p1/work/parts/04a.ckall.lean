/-! the tables are right, method by method (printed) -/
set_option maxRecDepth 100000 in
theorem a_ckg0 : ∀ k, k < 4 → a_ckM (k + 0) = true := by decide +kernel
set_option maxRecDepth 100000 in
theorem a_ckg4 : ∀ k, k < 12 → a_ckM (k + 4) = true := by decide +kernel
set_option maxRecDepth 100000 in
theorem a_ckg16 : ∀ k, k < 20 → a_ckM (k + 16) = true := by decide +kernel
set_option maxRecDepth 100000 in
theorem a_ckg36 : ∀ k, k < 12 → a_ckM (k + 36) = true := by decide +kernel
set_option maxRecDepth 100000 in
theorem a_ckg48 : ∀ k, k < 14 → a_ckM (k + 48) = true := by decide +kernel
set_option maxRecDepth 100000 in
theorem a_ckg62 : ∀ k, k < 13 → a_ckM (k + 62) = true := by decide +kernel
