/-! WHAT IS WRITTEN OF TYPES IN A TERM takes no more than its tokens -/
theorem pty_sz (t : Nat → Int) (n N dep i : Nat) (T : aT) (j : Nat) (h : pty t n N 0 dep i = some (.inr (T, j))) : i + tyW T ≤ j := by
  by_cases hi : i ≤ 6000
  · exact ((pty_le t n N 0 dep i _ (by decide) (fun c => absurd c (by decide)) hi h).1 T j rfl).1
  · exfalso
    have nx : ∀ q, ftT t n q = 0 → kdT t n q ≠ 0 → q < 6000 := fun q h0 hk => by
      have := kd_rng h0
      exact (ft0 h0 (by omega)).1
    cases N with
    | zero => exact absurd (show (none : aPr) = some _ from h) (by intro h; cases h)
    | succ N =>
      rw [pty_0] at h
      rcases pLk_some h with ⟨c, e⟩ | ⟨h0, h⟩
      · cases e
      have hk : kdT t n i = 0 := Decidable.byContradiction (fun c => by have := nx i h0 c; omega)
      rcases pBd_some h with ⟨e, q1, q2⟩ | ⟨a, j1, q1, q2⟩
      · cases q2
      · cases N with
        | zero => exact absurd (show (none : aPr) = some _ from q1) (by intro h; cases h)
        | succ N =>
          rw [pty_1] at q1
          rcases pLk_some q1 with ⟨c, e⟩ | ⟨h0, q1⟩
          · cases e
          rw [if_neg (by omega), if_neg (by omega), if_neg (by omega)] at q1
          cases q1
def wsT : aT → Nat
  | .leaf _ => 0
  | .branch m a b => if m = 0 then wsT a + wsT b else if m = 2 then wsT a + tyW b else tyW a + wsT b
def ssT : aSt → Nat
  | [] => 0
  | q :: st => wsT q.2 + ssT st
def svT : aSt → Nat
  | [] => 0
  | q :: st => tyW q.2 + svT st
theorem wsT_op (o : Nat) (a x : aT) : wsT (opT o a x) = wsT a + wsT x := by
  show (0 + wsT a) + wsT x = _
  omega
theorem wsT_ab (i : Nat) (ty b : aT) : wsT (abT i ty b) = tyW ty + wsT b := by show (if _ then _ else if _ then _ else _) = _; rw [if_neg (ab_m i).1, if_neg (ab_m i).2]
theorem ssT_stl (g : Int) : ∀ (st : aSt) (x : aT), ssT (stl g st x).1 + wsT (stl g st x).2 = ssT st + wsT x := by
  intro st
  induction st with
  | nil => intro x; rfl
  | cons q st ih =>
    intro x
    rw [stl_c]
    split
    · rw [ih, wsT_op]
      show _ = wsT q.2 + ssT st + wsT x
      omega
    · rfl
theorem wsT_b1 (k i : Nat) (ty x : aT) : wsT (b1T k i ty x) = tyW ty + wsT x := by
  unfold b1T
  split
  · exact wsT_ab i ty x
  · show 0 + wsT (abT i ty x) = _
    rw [wsT_ab]
    omega
theorem wsT_bd (k : Nat) : ∀ (vs : aSt) (x : aT), wsT (bdT k vs x) = svT vs + wsT x := by
  intro vs
  induction vs with
  | nil => intro x; show wsT x = 0 + wsT x; omega
  | cons q vs ih =>
    intro x
    show wsT (bdT k vs (b1T k q.1 q.2 x)) = (tyW q.2 + svT vs) + wsT x
    rw [ih, wsT_b1]
    omega
def sIn (m : Nat) (st : aSt) (x : aT) : Nat := if m = 0 then ssT st else if m = 1 then ssT st + wsT x else if m = 3 then wsT x else if 5 ≤ m then svT st else 0
theorem ptm_S (t : Nat → Int) (n : Nat) : ∀ (N m dep : Nat) (st : aSt) (x : aT) (i : Nat) (T : aT) (j : Nat), m ≤ 6 → ptm t n N m dep st x i = some (.inr (T, j)) → wsT T + i ≤ j + sIn m st x := by
  intro N
  induction N with
  | zero => intro m dep st x i T j _ h; exact absurd (show (none : aPr) = some _ from h) (by intro h; cases h)
  | succ N ih =>
    intro m dep st x i T j hm h
    rcases (show m = 0 ∨ m = 1 ∨ m = 2 ∨ m = 3 ∨ m = 4 ∨ m = 5 ∨ m = 6 by omega) with rfl | rfl | rfl | rfl | rfl | rfl | rfl
    · rw [ptm_0] at h
      rcases pLk_some h with ⟨c, e⟩ | ⟨h0, h⟩
      · cases e
      rcases pBd_some h with ⟨e, q1, q2⟩ | ⟨a, j1, q1, q2⟩
      · cases q2
      have e1 : wsT a + i ≤ j1 + 0 := ih 2 dep [] noT i a j1 (by decide) q1
      have e2 : wsT T + j1 ≤ j + (ssT st + wsT a) := ih 1 dep st a j1 T j (by decide) q2
      show wsT T + i ≤ j + ssT st
      omega
    · rw [ptm_1] at h
      rcases pLk_some h with ⟨c, e⟩ | ⟨h0, h⟩
      · cases e
      show wsT T + i ≤ j + (ssT st + wsT x)
      split at h
      · cases h
        have := ssT_stl 0 st x
        omega
      · split at h
        · cases h
        · have e1 : wsT T + (i + 1) ≤ j + (wsT (stl (z96 (kdT t n i)) st x).2 + ssT (stl (z96 (kdT t n i)) st x).1) := ih 0 dep _ noT (i + 1) T j (by decide) h
          have := ssT_stl (z96 (kdT t n i)) st x
          omega
    · rw [ptm_2] at h
      rcases pLk_some h with ⟨c, e⟩ | ⟨h0, h⟩
      · cases e
      show wsT T + i ≤ j + 0
      split at h
      · rcases pBd_some h with ⟨e, q1, q2⟩ | ⟨a, j1, q1, q2⟩
        · cases q2
        have e1 : wsT a + (i + 1) ≤ j1 + 0 := ih 2 dep [] noT (i + 1) a j1 (by decide) q1
        cases q2
        show (0 + wsT a) + i ≤ j + 0
        omega
      · split at h
        · rcases pLk_some h with ⟨c, e⟩ | ⟨h1, h⟩
          · cases e
          split at h
          · cases h
          · have e1 : wsT T + (i + 1) ≤ j + 0 := ih 5 (dep + 1) [] _ (i + 1) T j (by decide) h
            omega
        · rcases pBd_some h with ⟨e, q1, q2⟩ | ⟨a, j1, q1, q2⟩
          · cases q2
          have e1 : wsT a + i ≤ j1 + 0 := ih 4 dep [] noT i a j1 (by decide) q1
          have e2 : wsT T + j1 ≤ j + wsT a := ih 3 dep [] a j1 T j (by decide) q2
          omega
    · rw [ptm_3] at h
      rcases pLk_some h with ⟨c, e⟩ | ⟨h0, h⟩
      · cases e
      show wsT T + i ≤ j + wsT x
      split at h
      · rcases pBd_some h with ⟨e, q1, q2⟩ | ⟨a, j1, q1, q2⟩
        · cases q2
        have e1 : wsT a + i ≤ j1 + 0 := ih 4 dep [] noT i a j1 (by decide) q1
        have e2 : wsT T + j1 ≤ j + (wsT x + wsT a) := ih 3 dep [] (apT x a) j1 T j (by decide) q2
        omega
      · cases h
        omega
    · rw [ptm_4] at h
      rcases pLk_some h with ⟨c, e⟩ | ⟨h0, h⟩
      · cases e
      show wsT T + i ≤ j + 0
      split at h
      · rcases pLk_some h with ⟨c, e⟩ | ⟨h1, h⟩
        · cases e
        split at h
        · rcases pLk_some h with ⟨c, e⟩ | ⟨h2, h⟩
          · cases e
          split at h
          · cases h
            show 0 + i ≤ _
            omega
          · cases h
        · split at h
          · cases h
          · rcases pBd_some h with ⟨e, q1, q2⟩ | ⟨a, j1, q1, q2⟩
            · cases q2
            have e1 : wsT a + (i + 1) ≤ j1 + 0 := ih 0 (dep + 1) [] noT (i + 1) a j1 (by decide) q1
            unfold pIn at q2
            split at q2
            · rcases pBd_some q2 with ⟨e, r1, r2⟩ | ⟨T2, k, r1, r2⟩
              · cases r2
              have e2 := pty_sz t n N (dep + 1) (j1 + 1) T2 k r1
              split at r2
              · cases r2
                show (wsT a + tyW T2) + i ≤ _
                omega
              · cases r2
            · split at q2
              · cases q2
                omega
              · cases q2
      · split at h
        · cases h
          show 0 + i ≤ _
          omega
        · split at h
          · cases h
            show 0 + i ≤ _
            omega
          · cases h
    · rw [ptm_5] at h
      rcases pLk_some h with ⟨c, e⟩ | ⟨h0, h⟩
      · cases e
      show wsT T + i ≤ j + svT st
      split at h
      · rcases pLk_some h with ⟨c, e⟩ | ⟨h1, h⟩
        · cases e
        split at h
        · rcases pLk_some h with ⟨c, e⟩ | ⟨h2, h⟩
          · cases e
          split at h
          · rcases pBd_some h with ⟨e, r1, r2⟩ | ⟨T2, k, r1, r2⟩
            · cases r2
            have e2 := pty_sz t n N dep (i + 3) T2 k r1
            split at r2
            · have e1 : wsT T + (k + 1) ≤ j + (tyW T2 + svT st) := ih 6 dep _ x (k + 1) T j (by decide) r2
              omega
            · cases r2
          · cases h
        · cases h
      · split at h
        · have e1 : wsT T + (i + 1) ≤ j + (tyW noT + svT st) := ih 6 dep _ x (i + 1) T j (by decide) h
          have : tyW noT = 1 := rfl
          omega
        · cases h
    · rw [ptm_6] at h
      rcases pLk_some h with ⟨c, e⟩ | ⟨h0, h⟩
      · cases e
      show wsT T + i ≤ j + svT st
      split at h
      · exact ih 5 dep st x i T j (by decide) h
      · split at h
        · rcases pBd_some h with ⟨e, q1, q2⟩ | ⟨a, j1, q1, q2⟩
          · cases q2
          have e1 : wsT a + (i + 1) ≤ j1 + 0 := ih 0 dep [] noT (i + 1) a j1 (by decide) q1
          cases q2
          rw [wsT_bd]
          omega
        · cases h
/-- how many nodes the reference makes of a term, at most -/
def mcT : aT → Nat
  | .leaf q => if q.1 = 2 then q.2 + 1 else 41
  | .branch m a b => if m = 0 then 2 + (mcT a + mcT b) else if m = 2 then mcT a + tyW b else tyW a + 1 + mcT b
theorem mcT_le : ∀ T : aT, mcT T ≤ csT T + tmW T + wsT T := by
  intro T
  induction T with
  | leaf q =>
    show (if q.1 = 2 then q.2 + 1 else 41) ≤ (if q.1 = 2 then 42 * q.2 + 40 else 40) + (if q.1 = 2 then 2 * q.2 + 1 else 1) + 0
    split <;> omega
  | branch m a b iha ihb =>
    show (if m = 0 then 2 + (mcT a + mcT b) else if m = 2 then mcT a + tyW b else tyW a + 1 + mcT b) ≤ (if m = 0 then 2 + (csT a + csT b) else if m = 2 then csT a else 2 + csT b) + (if m = 0 then 1 + (tmW a + tmW b) else if m = 2 then tmW a else 1 + tmW b) + (if m = 0 then wsT a + wsT b else if m = 2 then wsT a + tyW b else tyW a + wsT b)
    split
    · omega
    · split <;> omega
