/-! FUEL ENOUGH; HOW THE TEXT OF A CONSTANT PARSES -/
theorem pLk_ex {t : Nat → Int} {n i : Nat} {r : aPr} (h : ftT t n i = 0 → ∃ q, r = some q) : ∃ q, pLk t n i r = some q := by
  unfold pLk
  split
  · exact ⟨_, rfl⟩
  · rename_i c
    exact h (Decidable.of_not_not c)
theorem pBd_ex {r : aPr} {k : aT → Nat → aPr} (h : ∃ q, r = some q) (hk : ∀ a j, r = some (.inr (a, j)) → ∃ q, k a j = some q) : ∃ q, pBd r k = some q := by
  obtain ⟨q, hq⟩ := h
  cases q with
  | inl e => exact ⟨.inl e, by rw [hq]; rfl⟩
  | inr p =>
    obtain ⟨q2, h2⟩ := hk p.1 p.2 hq
    exact ⟨q2, by rw [hq]; exact h2⟩
theorem pty_fuel (t : Nat → Int) (n : Nat) : ∀ (N m dep i : Nat), m ≤ 3 → (m = 2 → kdT t n i = 4) → i ≤ 6000 → 4 * (6001 - i) + (if m = 2 then 1 else if m = 0 then 3 else 2) ≤ N → ∃ q, pty t n N m dep i = some q := by
  intro N
  induction N with
  | zero => intro m dep i _ _ hi h; exact absurd h (by split <;> omega)
  | succ N ih =>
    intro m dep i hm h2 hi h
    have nx : ∀ q, ftT t n q = 0 → kdT t n q ≠ 0 → q < 6000 := fun q h0 hk => by
      have := kd_rng h0
      exact (ft0 h0 (by omega)).1
    rcases (show m = 0 ∨ m = 1 ∨ m = 2 ∨ m = 3 by omega) with rfl | rfl | rfl | rfl
    · rw [if_neg (by decide), if_pos rfl] at h
      rw [pty_0]
      refine pLk_ex (fun h0 => pBd_ex (ih 1 dep i (by decide) (fun c => absurd c (by decide)) hi (by rw [if_neg (by decide), if_neg (by decide)]; omega)) (fun a j q1 => ?_))
      have k1 := (pty_le t n N 1 dep i _ (by decide) (fun c => absurd c (by decide)) hi q1).1 a j rfl
      unfold pA
      refine pLk_ex (fun g0 => ?_)
      by_cases k8 : kdT t n j = 8
      · rw [if_pos k8]
        have hj := nx j g0 (by omega)
        exact pBd_ex (ih 0 dep (j + 1) (by decide) (fun c => absurd c (by decide)) (by omega) (by rw [if_neg (by decide), if_pos rfl]; omega)) (fun _ _ _ => ⟨_, rfl⟩)
      · rw [if_neg k8]
        exact ⟨_, rfl⟩
    · rw [if_neg (by decide), if_neg (by decide)] at h
      rw [pty_1]
      refine pLk_ex (fun h0 => ?_)
      by_cases k4 : kdT t n i = 4
      · rw [if_pos k4]
        exact ih 2 dep i (by decide) (fun _ => k4) hi (by rw [if_pos rfl]; omega)
      rw [if_neg k4]
      by_cases k2 : kdT t n i = 2
      · rw [if_pos k2]
        exact ⟨_, rfl⟩
      rw [if_neg k2]
      by_cases k1 : kdT t n i = 1
      · rw [if_pos k1]
        have := nx i h0 (by omega)
        exact pBd_ex (ih 3 dep (i + 1) (by decide) (fun c => absurd c (by decide)) (by omega) (by rw [if_neg (by decide), if_neg (by decide)]; omega)) (fun _ _ _ => ⟨_, rfl⟩)
      · rw [if_neg k1]
        exact ⟨_, rfl⟩
    · rw [if_pos rfl] at h
      rw [pty_2]
      refine pLk_ex (fun h0 => pLk_ex (fun g0 => ?_))
      have h4 := h2 rfl
      have hi2 := nx i h0 (by omega)
      by_cases h40 : 40 ≤ dep
      · rw [if_pos h40]
        exact ⟨_, rfl⟩
      rw [if_neg h40]
      refine pBd_ex (ih 0 (dep + 1) (i + 1) (by decide) (fun c => absurd c (by decide)) (by omega) (by rw [if_neg (by decide), if_pos rfl]; omega)) (fun a j _ => pLk_ex (fun _ => ?_))
      by_cases k5 : kdT t n j = 5
      · rw [if_pos k5]; exact ⟨_, rfl⟩
      · rw [if_neg k5]; exact ⟨_, rfl⟩
    · rw [if_neg (by decide), if_neg (by decide)] at h
      rw [pty_3]
      refine pLk_ex (fun h0 => ?_)
      by_cases k1 : kdT t n i = 1
      · rw [if_pos k1]
        have := nx i h0 (by omega)
        exact pBd_ex (ih 3 dep (i + 1) (by decide) (fun c => absurd c (by decide)) (by omega) (by rw [if_neg (by decide), if_neg (by decide)]; omega)) (fun _ _ _ => ⟨_, rfl⟩)
      rw [if_neg k1]
      by_cases k2 : kdT t n i = 2
      · rw [if_pos k2]
        have := nx i h0 (by omega)
        exact pBd_ex (ih 3 dep (i + 1) (by decide) (fun c => absurd c (by decide)) (by omega) (by rw [if_neg (by decide), if_neg (by decide)]; omega)) (fun _ _ _ => ⟨_, rfl⟩)
      rw [if_neg k2]
      by_cases k4 : kdT t n i = 4
      · rw [if_pos k4]
        refine pBd_ex (ih 2 dep i (by decide) (fun _ => k4) hi (by rw [if_pos rfl]; omega)) (fun a j q1 => ?_)
        have p1 := (pty_le t n N 2 dep i _ (by decide) (fun _ => k4) hi q1).1 a j rfl
        have p2 := pty_pos t n N 2 dep i a j (by decide) q1
        exact pBd_ex (ih 3 dep j (by decide) (fun c => absurd c (by decide)) p1.2 (by rw [if_neg (by decide), if_neg (by decide)]; omega)) (fun _ _ _ => ⟨_, rfl⟩)
      · rw [if_neg k4]
        exact ⟨_, rfl⟩
/-- a constant's text: what may be declared, a colon, a type, the end -/
def coP (t : Nat → Int) (n : Nat) : aPr := pLk t n 0 (if z122 (kdT t n 0) ≠ 0 then pLk t n 1 (if kdT t n 1 = 6 then pBd (pty t n 30000 0 0 2) (fun T j => if kdT t n j = 0 then some (.inr (T, j)) else some (.inl (2, j))) else some (.inl (2, 1))) else some (.inl (2, 0)))
/-- what it comes to -/
def coR (t : Nat → Int) (n : Nat) (tn : List (List Int)) (ta : List Int) (cn : List (List Int)) : (Int × Nat) ⊕ aT := match coP t n with
  | some (.inl q) => .inl q
  | some (.inr (T, _)) => if 0 ≤ fd cn (nmW t n (stT t n 0)) cn.length then .inl (4, 0) else if 112 ≤ cn.length ∨ 40 < tyW T ∨ 12 < tyH T then .inl (8, 0) else if tyBad t n tn ta T = true then .inl (3, 0) else .inr T
  | none => .inl (0, 0)
/-- how many tokens are read -/
def coN (t : Nat → Int) (n : Nat) : Nat := match coP t n with
  | some (.inl q) => q.2 + 1
  | some (.inr (_, j)) => j + 1
  | none => 0
