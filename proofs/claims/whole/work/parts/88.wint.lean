/-! WRITTEN TYPES IN INTERVALS OF PLACES -/
/-- place w holds this type, all its places lie in [lo, hi) (in a row: from w on these) -/
def WI (s : aZ) (v : Nat → Int) : aT → Bool → Nat → Nat → Int → Prop
  | .leaf q, false, lo, hi, w => (lo ≤ w ∧ w < hi) ∧ q.1 = 0 ∧ zz s 75 w.toNat = 0 ∧ zz s 76 w.toNat = v q.2 ∧ zz s 77 w.toNat = -1 ∧ zz s 79 w.toNat = 0 ∧ zz s 80 w.toNat = 1 ∧ zz s 81 w.toNat = 1
  | .leaf q, true, _, _, w => q.1 = 1 ∧ w = -1
  | .branch m a b, false, lo, hi, w => (lo ≤ w ∧ w < hi) ∧ zz s 80 w.toNat = min (tyW (.branch m a b) : Int) 100000 ∧ zz s 81 w.toNat = tyH (.branch m a b) ∧ ((m = 3 ∧ zz s 75 w.toNat = 2 ∧ ∃ (c x y : Nat), lo ≤ c ∧ c ≤ w.toNat ∧ zz s 77 w.toNat = x ∧ zz s 78 x = y ∧ zz s 78 y = -1 ∧ WI s v a false lo c x ∧ WI s v b false c w.toNat y) ∨ (m % 4 = 1 ∧ b = .leaf (1, 0) ∧ zz s 75 w.toNat = 1 ∧ zz s 76 w.toNat = ((m / 4 : Nat) : Int) ∧ zz s 79 w.toNat = argN a ∧ WI s v a true (w.toNat + 1) hi (zz s 77 w.toNat)))
  | .branch m a r, true, lo, hi, w => m = 2 ∧ ∃ (c x : Nat), lo ≤ c ∧ c ≤ hi ∧ w = x ∧ WI s v a false lo c x ∧ WI s v r true c hi (zz s 78 x)
theorem WI.rng {s : aZ} {v : Nat → Int} {T : aT} {lo hi : Nat} {w : Int} (h : WI s v T false lo hi w) : lo ≤ w ∧ w < hi := by
  cases T with
  | leaf q => exact h.1
  | branch m a b => exact h.1
/-- it stays where nothing of its places changes but what follows its own -/
theorem WI.keep {s s2 : aZ} {v : Nat → Int} : ∀ T : aT, (∀ (lo hi : Nat) (w : Int), WI s v T false lo hi w → (∀ k j, 75 ≤ k → k ≤ 81 → lo ≤ j → j < hi → (k ≠ 78 ∨ (j : Int) ≠ w) → zz s2 k j = zz s k j) → WI s2 v T false lo hi w) ∧ (∀ (lo hi : Nat) (w : Int), WI s v T true lo hi w → (∀ k j, 75 ≤ k → k ≤ 81 → lo ≤ j → j < hi → zz s2 k j = zz s k j) → WI s2 v T true lo hi w) := by
  intro T
  induction T with
  | leaf q =>
    refine ⟨fun lo hi w hw he => ?_, fun lo hi w hw _ => hw⟩
    obtain ⟨a1, a2, a3, a4, a5, a6, a7, a8⟩ := hw
    have z : ∀ k, 75 ≤ k → k ≤ 81 → k ≠ 78 → zz s2 k w.toNat = zz s k w.toNat := fun k h1 h2 h3 => he k w.toNat h1 h2 (by omega) (by omega) (Or.inl h3)
    refine ⟨a1, a2, ?_, ?_, ?_, ?_, ?_, ?_⟩
    · rw [z 75 (by decide) (by decide) (by decide)]; exact a3
    · rw [z 76 (by decide) (by decide) (by decide)]; exact a4
    · rw [z 77 (by decide) (by decide) (by decide)]; exact a5
    · rw [z 79 (by decide) (by decide) (by decide)]; exact a6
    · rw [z 80 (by decide) (by decide) (by decide)]; exact a7
    · rw [z 81 (by decide) (by decide) (by decide)]; exact a8
  | branch m a b iha ihb =>
    refine ⟨fun lo hi w hw he => ?_, fun lo hi w hw he => ?_⟩
    · obtain ⟨a1, a2, a3, a4⟩ := hw
      have z : ∀ k, 75 ≤ k → k ≤ 81 → k ≠ 78 → zz s2 k w.toNat = zz s k w.toNat := fun k h1 h2 h3 => he k w.toNat h1 h2 (by omega) (by omega) (Or.inl h3)
      refine ⟨a1, ?_, ?_, ?_⟩
      · rw [z 80 (by decide) (by decide) (by decide)]; exact a2
      · rw [z 81 (by decide) (by decide) (by decide)]; exact a3
      · rcases a4 with ⟨b1, b2, c, x, y, c1, c2, c3, c4, c5, c6, c7⟩ | ⟨b1, b0, b2, b3, b4, b5⟩
        · have hx := c6.rng
          have hy := c7.rng
          refine Or.inl ⟨b1, ?_, c, x, y, c1, c2, ?_, ?_, ?_, iha.1 lo c x c6 (fun k j h1 h2 h3 h4 _ => he k j h1 h2 h3 (by omega) (Or.inr (by omega))), ihb.1 c w.toNat y c7 (fun k j h1 h2 h3 h4 _ => he k j h1 h2 (by omega) (by omega) (Or.inr (by omega)))⟩
          · rw [z 75 (by decide) (by decide) (by decide)]; exact b2
          · rw [z 77 (by decide) (by decide) (by decide)]; exact c3
          · rw [he 78 x (by decide) (by decide) (by omega) (by omega) (Or.inr (by omega))]; exact c4
          · rw [he 78 y (by decide) (by decide) (by omega) (by omega) (Or.inr (by omega))]; exact c5
        · refine Or.inr ⟨b1, b0, ?_, ?_, ?_, ?_⟩
          · rw [z 75 (by decide) (by decide) (by decide)]; exact b2
          · rw [z 76 (by decide) (by decide) (by decide)]; exact b3
          · rw [z 79 (by decide) (by decide) (by decide)]; exact b4
          · rw [z 77 (by decide) (by decide) (by decide)]
            exact iha.2 _ hi _ b5 (fun k j h1 h2 h3 h4 => he k j h1 h2 (by omega) h4 (Or.inr (by omega)))
    · obtain ⟨m2, c, x, c1, c2, c3, c4, c5⟩ := hw
      have hx := c4.rng
      refine ⟨m2, c, x, c1, c2, c3, iha.1 lo c x c4 (fun k j h1 h2 h3 h4 _ => he k j h1 h2 h3 (by omega)), ?_⟩
      rw [he 78 x (by decide) (by decide) (by omega) (by omega)]
      exact ihb.2 c hi _ c5 (fun k j h1 h2 h3 h4 => he k j h1 h2 (by omega) h4)
