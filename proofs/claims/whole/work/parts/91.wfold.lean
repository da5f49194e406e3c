/-! ARROWS ARE FOLDED FROM THE RIGHT -/
theorem WI.high {s : aZ} {v : Nat → Int} {T : aT} {lo hi : Nat} {w : Int} (h : WI s v T false lo hi w) : 1 ≤ tyH T := by
  cases T with
  | leaf q => rw [tyH_l, if_neg (by have := h.2.1; omega)]; exact Nat.le_refl _
  | branch m a b =>
    obtain ⟨-, -, -, ⟨b1, -⟩ | ⟨b1, -⟩⟩ := h
    · rw [tyH_b, if_neg (by omega)]; omega
    · rw [tyH_b, if_neg (by omega)]; omega
def arrF (ts : List aT) (acc : aT) : aT := ts.foldl (fun acc T => .branch 3 T acc) acc
/-- one arrow -/
theorem arr_step {s s1 s2 s3 : aZ} {v : Nat → Int} {Tl Tw : aT} {c hi W x wh : Nat} (hl : WI s v Tl false c hi x) (hw : WI s v Tw false hi W wh) (hW : W ≤ 12099)
    (n1 : zz s1 75 W = 2 ∧ zz s1 77 W = -1 ∧ zz s1 79 W = 0 ∧ zz s1 80 W = 1 ∧ zz s1 81 W = 1) (n2 : ∀ k j, 75 ≤ k → k ≤ 81 → j ≠ W → (k ≠ 78 ∨ j ≠ wh) → zz s1 k j = zz s k j) (t1 : TKS W wh s1 s2) (t2 : TKS W x s2 s3) : WI s3 v (.branch 3 Tl Tw) false c (W + 1) W ∧ (∀ k j, 75 ≤ k → k ≤ 81 → j < c → zz s3 k j = zz s k j) := by
  have hx := hl.rng
  have hh := hw.rng
  obtain ⟨l80, l81⟩ := hl.wide
  obtain ⟨w80, w81⟩ := hw.wide
  rw [natc] at l80 l81 w80 w81
  have hHw := hw.high
  have eH : tyH (.branch 3 Tl Tw) = 1 + max (tyH Tl) (tyH Tw) := by rw [tyH_b, if_neg (by decide)]
  obtain ⟨a1, a2, a3, a4, a5, a6, a7, a8⟩ := t1
  obtain ⟨b1, b2, b3, b4, b5, b6, b7, b8⟩ := t2
  have same : ∀ k j, 75 ≤ k → k ≤ 81 → j ≠ W → (k ≠ 78 ∨ (j ≠ wh ∧ j ≠ x)) → zz s3 k j = zz s k j := by
    intro k j h1 h2 h3 h4
    by_cases e : k = 78
    · subst e
      rw [b6 j (by omega), a6 j (by omega)]
      exact n2 78 j h1 h2 h3 (by omega)
    · rw [b7 k j e h3, a7 k j e h3]
      exact n2 k j h1 h2 h3 (Or.inl e)
  refine ⟨⟨⟨by omega, by omega⟩, ?_, ?_, Or.inl ⟨rfl, ?_, hi, x, wh, by omega, ?_, ?_, ?_, ?_, (WI.keep Tl).1 c hi x hl (fun k j h1 h2 h3 h4 h5 => same k j h1 h2 (by omega) (by omega)), ?_⟩⟩, fun k j h1 h2 h3 => same k j h1 h2 (by omega) (by omega)⟩
  · rw [natc, b4, a4, n1.2.2.2.1, a7 80 x (by decide) (by omega), n2 80 x (by decide) (by decide) (by omega) (by omega), n2 80 wh (by decide) (by decide) (by omega) (by omega), l80, w80, tyW_b, if_neg (by decide)]
    omega
  · rw [natc, b5, a5, n1.2.2.2.2, a7 81 x (by decide) (by omega), n2 81 x (by decide) (by decide) (by omega) (by omega), n2 81 wh (by decide) (by decide) (by omega) (by omega), l81, w81, eH, if_pos (show (1 : Int) ≤ (tyH Tw : Int) by omega)]
    split <;> omega
  · rw [natc, zz_of (b8 75 (by decide) (by decide) (by decide) (by decide) (by decide)), zz_of (a8 75 (by decide) (by decide) (by decide) (by decide) (by decide))]
    exact n1.1
  · rw [natc]; omega
  · rw [natc]; exact b2
  · rw [b1]; exact a2
  · rw [b6 wh (by omega), a1]; exact n1.2.1
  · rw [natc]
    exact (WI.keep Tw).1 hi W wh hw (fun k j h1 h2 h3 h4 h5 => same k j h1 h2 (by omega) (by omega))
