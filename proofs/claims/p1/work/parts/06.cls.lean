/-! THE CLASSES' TABLES, and the steps that touch the heap -/
def aYs : List (Nat → FieldType) := [aY0, aY1, aY2, aY3, aY4, aY5, aY6, aY7, aY8, aY9, aY10, aY11, aY12, aY13]
def a_yt (c : Nat) : Nat → FieldType := aYs.getD c aY12
def a_tcode (t : FieldType) : Nat := match t with
  | .int => 0
  | .boolean => 1
  | .byte => 2
  | .char => 3
  | .short => 4
  | .long => 5
  | .object _ => 6
  | .array _ => 6
  | _ => 7
def a_clk (c : Nat) : Bool := (a_subl (u_ws (a_cn c).1 (a_cn c).2.1 (a_cn c).2.2) lw_tbl && (u_ws (a_cn c).1 (a_cn c).2.1 (a_cn c).2.2).all goodWord) && (List.range (a_cn c).2.2).all (fun k => decide (parseFieldDescriptor ((a_cn c).2.1 k).2.2.1 = some (a_yt c k)) && decide (aFt c k = a_tcode (a_yt c k)))
def a_cld (c : Nat) : Bool := (List.range (a_cn c).2.2).all (fun i => (List.range (a_cn c).2.2).all (fun j => decide (i = j) || decide (((a_cn c).2.1 i).2.1 ≠ ((a_cn c).2.1 j).2.1)))
set_option maxRecDepth 100000 in
theorem a_clk0 : a_clk 0 = true := by decide +kernel
set_option maxRecDepth 100000 in
theorem a_cld0 : a_cld 0 = true := by decide +kernel
set_option maxRecDepth 100000 in
theorem a_clk1 : a_clk 1 = true := by decide +kernel
set_option maxRecDepth 100000 in
theorem a_cld1 : a_cld 1 = true := by decide +kernel
set_option maxRecDepth 100000 in
theorem a_clk2 : a_clk 2 = true := by decide +kernel
set_option maxRecDepth 100000 in
theorem a_cld2 : a_cld 2 = true := by decide +kernel
set_option maxRecDepth 100000 in
theorem a_clk3 : a_clk 3 = true := by decide +kernel
set_option maxRecDepth 100000 in
theorem a_cld3 : a_cld 3 = true := by decide +kernel
set_option maxRecDepth 100000 in
theorem a_clk4 : a_clk 4 = true := by decide +kernel
set_option maxRecDepth 100000 in
theorem a_cld4 : a_cld 4 = true := by decide +kernel
set_option maxRecDepth 100000 in
theorem a_clk5 : a_clk 5 = true := by decide +kernel
set_option maxRecDepth 100000 in
theorem a_cld5 : a_cld 5 = true := by decide +kernel
set_option maxRecDepth 100000 in
theorem a_clk6 : a_clk 6 = true := by decide +kernel
set_option maxRecDepth 100000 in
theorem a_cld6 : a_cld 6 = true := by decide +kernel
set_option maxRecDepth 100000 in
theorem a_clk7 : a_clk 7 = true := by decide +kernel
set_option maxRecDepth 100000 in
theorem a_cld7 : a_cld 7 = true := by decide +kernel
set_option maxRecDepth 100000 in
theorem a_clk8 : a_clk 8 = true := by decide +kernel
set_option maxRecDepth 100000 in
theorem a_cld8 : a_cld 8 = true := by decide +kernel
set_option maxRecDepth 100000 in
theorem a_clk9 : a_clk 9 = true := by decide +kernel
set_option maxRecDepth 100000 in
theorem a_cld9 : a_cld 9 = true := by decide +kernel
set_option maxRecDepth 100000 in
theorem a_clk10 : a_clk 10 = true := by decide +kernel
set_option maxRecDepth 100000 in
theorem a_cld10 : a_cld 10 = true := by decide +kernel
set_option maxRecDepth 100000 in
theorem a_clk11 : a_clk 11 = true := by decide +kernel
set_option maxRecDepth 100000 in
theorem a_cld11 : a_cld 11 = true := by decide +kernel
theorem a_cl_all : ∀ c, c < 12 → a_clk c = true ∧ a_cld c = true
  | 0, _ => ⟨a_clk0, a_cld0⟩
  | 1, _ => ⟨a_clk1, a_cld1⟩
  | 2, _ => ⟨a_clk2, a_cld2⟩
  | 3, _ => ⟨a_clk3, a_cld3⟩
  | 4, _ => ⟨a_clk4, a_cld4⟩
  | 5, _ => ⟨a_clk5, a_cld5⟩
  | 6, _ => ⟨a_clk6, a_cld6⟩
  | 7, _ => ⟨a_clk7, a_cld7⟩
  | 8, _ => ⟨a_clk8, a_cld8⟩
  | 9, _ => ⟨a_clk9, a_cld9⟩
  | 10, _ => ⟨a_clk10, a_cld10⟩
  | 11, _ => ⟨a_clk11, a_cld11⟩
  | n + 12, h => absurd h (by omega)
theorem a_cl_at : ∀ c, c < 12 → aCl[c]? = some (a_cn c)
  | 0, _ => rfl
  | 1, _ => rfl
  | 2, _ => rfl
  | 3, _ => rfl
  | 4, _ => rfl
  | 5, _ => rfl
  | 6, _ => rfl
  | 7, _ => rfl
  | 8, _ => rfl
  | 9, _ => rfl
  | 10, _ => rfl
  | 11, _ => rfl
  | n + 12, h => absurd h (by omega)
theorem a_cl_in {c : Nat} (h : c < 12) : ∀ w ∈ u_ws (a_cn c).1 (a_cn c).2.1 (a_cn c).2.2, w ∈ lw_good := by
  have h1 := (a_cl_all c h).1
  unfold a_clk at h1
  rw [Bool.and_eq_true, Bool.and_eq_true] at h1
  exact fun w hw => lw_good_in (a_subl_mem _ _ h1.1.1 w hw) (List.all_eq_true.mp h1.1.2 w hw)
theorem a_cl_ty {c : Nat} (h : c < 12) : ∀ k, k < (a_cn c).2.2 → parseFieldDescriptor ((a_cn c).2.1 k).2.2.1 = some (a_yt c k) ∧ aFt c k = a_tcode (a_yt c k) := by
  intro k hk
  have h1 := (a_cl_all c h).1
  unfold a_clk at h1
  rw [Bool.and_eq_true] at h1
  have h2 := List.all_eq_true.mp h1.2 k (List.mem_range.mpr hk)
  simpa using h2
theorem a_cl_nm {c : Nat} (h : c < 12) : ∀ a, a < (a_cn c).2.2 → ∀ b, b < (a_cn c).2.2 → a ≠ b → ((a_cn c).2.1 a).2.1 ≠ ((a_cn c).2.1 b).2.1 := by
  intro a ha b hb hab
  have h1 := (a_cl_all c h).2
  unfold a_cld at h1
  have h2 := List.all_eq_true.mp (List.all_eq_true.mp h1 a (List.mem_range.mpr ha)) b (List.mem_range.mpr hb)
  simpa [hab] using h2
