/-! THE REFERENCE'S TABLES AS ITS CONSTRUCTOR LEAVES THEM -/
theorem init_l {L : Nat} {xs : Nat → Int32} {h2 : aH} (h1 : h2.1 = 105) (hc : a_ick0 h2 = true) {k j : Nat} {v : Int} (hm : (k, j, v) ∈ aLnL) (hk : k < 105) : ((a_ov L xs (a_mk 1004 1 h2)).2.2.2.2.1 k j).toInt = v := by
  unfold a_ick0 at hc
  rw [Bool.and_eq_true, List.all_eq_true] at hc
  have h3 := hc.2 _ hm
  rw [beq_iff_eq] at h3
  show (a_new h2.2.2.2.2.1 h2.1 0 k j).toInt = v
  unfold a_new
  rw [h1, if_neg (by omega)]
  exact h3
def inLn (k j : Nat) (v : Int) : Bool := aLnL.contains (k, j, v)
def lnChk (k i : Nat) (nm : List Int) : Bool := (List.range 3).all (fun q => inLn k (3 * i + q) (pkN nm q).toInt)
theorem ln_init {l : aZL} (hl : ∀ k j v, (k, j, v) ∈ aLnL → (l k j).toInt = v) {k i : Nat} {nm : List Int} (h : lnChk k i nm = true) : LN l k i nm := by
  intro q hq
  unfold lnChk at h
  rw [List.all_eq_true] at h
  have h1 := hl _ _ _ (List.contains_iff_mem.mp (h q (List.mem_range.mpr hq)))
  exact Int64.toInt_inj.mp h1
set_option maxRecDepth 100000 in
theorem ty_lchk : (lnChk 61 0 (tn0.getD 0 []) && lnChk 61 1 (tn0.getD 1 []) && lnChk 61 3 (tn0.getD 3 []) && lnChk 61 2 []) = true := by decide +kernel
theorem mty_init {s : aZ} {l : aZL} (hz : ∀ k j v, (k, j, v) ∈ aInL → zz s k j = v) (hl : ∀ k j v, (k, j, v) ∈ aLnL → (l k j).toInt = v) : MTy tn0 ta0 s l := by
  have h := ta_chk
  have g := ty_lchk
  rw [Bool.and_eq_true, Bool.and_eq_true, Bool.and_eq_true, Bool.and_eq_true, Bool.and_eq_true] at h
  rw [Bool.and_eq_true, Bool.and_eq_true, Bool.and_eq_true] at g
  obtain ⟨-, ⟨⟨⟨⟨a0, a1⟩, a3⟩, a4⟩, a5⟩⟩ := h
  obtain ⟨⟨⟨b0, b1⟩, b3⟩, b2⟩ := g
  refine ⟨hz _ _ _ (inIn_mem a4), by decide, by decide, rfl, ?_, fun i hi h2 => ?_, ln_init hl b2, rfl⟩
  · intro i j hij hj
    have hj4 : j < 4 := hj
    have hall : (List.range 4).all (fun i => (List.range 4).all (fun j => decide (i < j → tn0.getD i [] ≠ tn0.getD j []))) = true := by decide
    rw [List.all_eq_true] at hall
    have h1 := hall i (List.mem_range.mpr (by omega))
    rw [List.all_eq_true] at h1
    exact of_decide_eq_true (h1 j (List.mem_range.mpr hj4)) hij
  · have hi4 : i < 4 := hi
    match i, hi4, h2 with
    | 0, _, _ => exact ⟨⟨by decide, by decide⟩, ln_init hl b0, hz _ _ _ (inIn_mem a0)⟩
    | 1, _, _ => exact ⟨⟨by decide, by decide⟩, ln_init hl b1, hz _ _ _ (inIn_mem a1)⟩
    | 3, _, _ => exact ⟨⟨by decide, by decide⟩, ln_init hl b3, hz _ _ _ (inIn_mem a3)⟩
    | 2, _, q => exact absurd rfl q
theorem mv_init {s : aZ} {l : aZL} (hz : ∀ k j v, (k, j, v) ∈ aInL → zz s k j = v) : MV [] s l := by
  have h := ta_chk
  rw [Bool.and_eq_true, Bool.and_eq_true, Bool.and_eq_true, Bool.and_eq_true, Bool.and_eq_true] at h
  exact ⟨hz _ _ _ (inIn_mem h.2.2), by decide, fun i j _ hj => absurd hj (Nat.not_lt_zero _), fun i hi => absurd hi (Nat.not_lt_zero _)⟩
