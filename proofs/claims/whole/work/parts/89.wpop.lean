/-! HOW LARGE WHAT IS WRITTEN CAN BE -/
theorem tyH_le : ∀ T : aT, tyH T ≤ tyW T := by
  intro T
  induction T with
  | leaf q => unfold tyH tyW; exact Nat.le_refl _
  | branch m a b iha ihb =>
    unfold tyH tyW
    split <;> omega
theorem tyW_l (q : Nat × Nat) : tyW (.leaf q) = if q.1 = 1 then 0 else 1 := rfl
theorem tyH_l (q : Nat × Nat) : tyH (.leaf q) = if q.1 = 1 then 0 else 1 := rfl
theorem tyW_b (m : Nat) (a b : aT) : tyW (.branch m a b) = if m = 2 then tyW a + tyW b else 1 + (tyW a + tyW b) := rfl
theorem tyH_b (m : Nat) (a b : aT) : tyH (.branch m a b) = if m = 2 then max (tyH a) (tyH b) else 1 + max (tyH a) (tyH b) := rfl
theorem WI.size {s : aZ} {v : Nat → Int} : ∀ T : aT, (∀ (lo hi : Nat) (w : Int), WI s v T false lo hi w → tyW T ≤ hi - lo) ∧ (∀ (lo hi : Nat) (w : Int), WI s v T true lo hi w → tyW T ≤ hi - lo) := by
  intro T
  induction T with
  | leaf q =>
    refine ⟨fun lo hi w h => ?_, fun lo hi w h => ?_⟩
    · have := h.1
      rw [tyW_l]
      split <;> omega
    · rw [tyW_l, if_pos h.1]
      omega
  | branch m a b iha ihb =>
    refine ⟨fun lo hi w h => ?_, fun lo hi w h => ?_⟩
    · obtain ⟨a1, a2, a3, ⟨b1, b2, c, x, y, c1, c2, c3, c4, c5, c6, c7⟩ | ⟨b1, b0, b2, b3, b4, b5⟩⟩ := h
      · have h1 := iha.1 _ _ _ c6
        have h2 := ihb.1 _ _ _ c7
        rw [tyW_b, if_neg (by omega)]
        omega
      · have h1 := iha.2 _ _ _ b5
        have h2 : tyW b = 0 := by rw [b0]; rfl
        rw [tyW_b, if_neg (by omega)]
        omega
    · obtain ⟨m2, c, x, c1, c2, c3, c4, c5⟩ := h
      have h1 := iha.1 _ _ _ c4
      have h2 := ihb.2 _ _ _ c5
      rw [tyW_b, if_pos m2]
      omega
theorem WI.wide {s : aZ} {v : Nat → Int} {T : aT} {lo hi : Nat} {w : Int} (h : WI s v T false lo hi w) : zz s 80 w.toNat = min (tyW T : Int) 100000 ∧ zz s 81 w.toNat = tyH T := by
  cases T with
  | leaf q =>
    obtain ⟨a1, a2, a3, a4, a5, a6, a7, a8⟩ := h
    rw [a7, a8, tyW_l, tyH_l, if_neg (by omega)]
    exact ⟨rfl, rfl⟩
  | branch m a b => exact ⟨h.2.1, h.2.2.1⟩
