/-! printed by wip/am/mkf2.py: may so many bytes be taken -/
theorem w22t_0 {d : Nat} {B : aH} {Q : aR → Prop} (hB : a_Can B) (x1 : Int) (s : Nat → Nat → Int32) (l : Nat → Nat → Int64) (w : (inR x1 ∧ ((x1 < 0 → Q (.inl (some (iv 0)), (mkH B s l))) ∧ (0 ≤ x1 → (((zz s 1 2) < x1 → Q (.inl (some (iv 0)), (mkH B s l))) ∧ (x1 ≤ (zz s 1 2) → Q (.inl (some (iv 1)), (mkH B s l)))))))) : a_W d 22 0 [.ref 1, iv x1] [] (mkH B s l) Q := by
  refine w_iln (p := 1) (q22 0) rfl rfl ?_
  obtain ⟨h1, w⟩ := w
  by_cases c2 : x1 < 0
  · replace w := w.1 c2
    refine w_i1t (q22 1) h1 c2 ?_
    refine w_ic (p := 17) (q22 16) rfl ?_
    exact w_ret (q22 17) rfl w
  · replace w := w.2 (Int.not_lt.mp c2)
    refine w_i1f (p := 4) (q22 1) rfl h1 c2 ?_
    refine w_iln (p := 5) (q22 4) rfl rfl ?_
    refine w_aln (p := 6) (q22 5) rfl rfl ?_
    refine w_gI (p := 9) (j := 2) (v := (zz s 1 2)) (q22 6) rfl (r1 hB) (by decide) (iv_zz s 1 2) ?_
    by_cases c3 : (zz s 1 2) < x1
    · replace w := w.1 c3
      refine w_i2t (q22 9) h1 (inR_zz _ _ _) c3 ?_
      refine w_ic (p := 17) (q22 16) rfl ?_
      exact w_ret (q22 17) rfl w
    · replace w := w.2 (Int.not_lt.mp c3)
      refine w_i2f (p := 12) (q22 9) rfl h1 (inR_zz _ _ _) c3 ?_
      refine w_ic (p := 13) (q22 12) rfl ?_
      refine w_goto (q22 13) ?_
      exact w_ret (q22 17) rfl w
