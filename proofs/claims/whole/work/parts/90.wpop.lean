/-! A NAME TAKES ITS ROW -/
/-- a row linked from its last to its first -/
def RC (s : aZ) (v : Nat → Int) : List aT → Nat → Nat → Int → Prop
  | [], _, _, r => r = -1
  | T :: ts, lo, hi, r => ∃ c x : Nat, lo ≤ c ∧ c ≤ hi ∧ r = x ∧ WI s v T false c hi x ∧ RC s v ts lo c (zz s 78 x)
theorem RC.keep {s s2 : aZ} {v : Nat → Int} : ∀ (ts : List aT) (lo hi : Nat) (r : Int), RC s v ts lo hi r → (∀ k j, 75 ≤ k → k ≤ 81 → lo ≤ j → j < hi → zz s2 k j = zz s k j) → RC s2 v ts lo hi r := by
  intro ts
  induction ts with
  | nil => intro lo hi r h _; exact h
  | cons T ts ih =>
    intro lo hi r h he
    obtain ⟨c, x, c1, c2, c3, c4, c5⟩ := h
    have hx := c4.rng
    refine ⟨c, x, c1, c2, c3, (WI.keep T).1 c hi x c4 (fun k j h1 h2 h3 h4 _ => he k j h1 h2 (by omega) h4), ?_⟩
    rw [he 78 x (by decide) (by decide) (by omega) (by omega)]
    exact ih lo c _ c5 (fun k j h1 h2 h3 h4 => he k j h1 h2 h3 (by omega))
def accF (ts : List aT) (acc : aT) : aT := ts.foldl (fun acc T => .branch 2 T acc) acc
theorem argN_le {s : aZ} {v : Nat → Int} : ∀ (T : aT) (lo hi : Nat) (w : Int), WI s v T true lo hi w → argN T ≤ hi - lo := by
  intro T
  induction T with
  | leaf q => intro lo hi w _; exact Nat.zero_le _
  | branch m a r iha ihr =>
    intro lo hi w h
    obtain ⟨m2, c, x, c1, c2, c3, c4, c5⟩ := h
    have hx := c4.rng
    have := ihr c hi _ c5
    show argN r + 1 ≤ _
    omega
theorem m_pop {d : Nat} {B : aH} (hB : a_Can B) (hd : 1 ≤ d) {v : Nat → Int} (l : aZL) (w : Nat) (x1 x4 : Int) (hi2 : Nat) (h12 : hi2 ≤ 12100) : ∀ (ts : List aT) (acc : aT) (lo hi : Nat) (r : Int) (u5 u6 : Value) (s : aZ), w < lo → lo ≤ hi → hi ≤ hi2 → RC s v ts lo hi r → WI s v acc true hi hi2 (zz s 77 w) → zz s 79 w = argN acc → zz s 80 w = min (1 + tyW acc : Int) 100000 → zz s 81 w = 1 + (tyH acc : Int) → a_W d 168 257 [.ref 56, iv x1, iv (w : Int), iv r, iv x4, u5, u6] [] (mkH B s l) (fun q => ∃ s2 lo2, q = (.inl (some (iv (w : Int))), mkH B s2 l) ∧ lo ≤ lo2 ∧ WI s2 v (accF ts acc) true lo2 hi2 (zz s2 77 w) ∧ zz s2 79 w = argN (accF ts acc) ∧ zz s2 80 w = min (1 + tyW (accF ts acc) : Int) 100000 ∧ zz s2 81 w = 1 + (tyH (accF ts acc) : Int) ∧ (∀ k j, j < lo → j ≠ w → zz s2 k j = zz s k j) ∧ (∀ j, zz s2 75 j = zz s 75 j ∧ zz s2 76 j = zz s 76 j) ∧ zz s2 78 w = zz s 78 w ∧ ∀ k, k ≠ 77 → k ≠ 78 → k ≠ 79 → k ≠ 80 → k ≠ 81 → s2 k = s k) := by
  intro ts
  induction ts with
  | nil =>
    intro acc lo hi r u5 u6 s hw hlh hh hR hA h79 h80 h81
    have hr : r = -1 := hR
    subst hr
    exact w168_257 hB (by omega) x1 _ _ x4 u5 u6 s l ⟨by decide, fun _ => ⟨s, hi, rfl, hlh, hA, h79, h80, h81, fun _ _ _ _ => rfl, fun _ => ⟨rfl, rfl⟩, rfl, fun _ _ _ _ _ _ => rfl⟩, fun h => absurd rfl h⟩
  | cons T ts ih =>
    intro acc lo hi r u5 u6 s hw hlh hh hR hA h79 h80 h81
    obtain ⟨c, x, c1, c2, c3, c4, c5⟩ := hR
    subst c3
    have hx := c4.rng
    have hsz := (WI.size T).1 _ _ _ c4
    have hsa := (WI.size acc).2 _ _ _ hA
    have hH := tyH_le T
    obtain ⟨w80, w81⟩ := c4.wide
    rw [natc] at w80 w81
    have hN := argN_le acc _ _ _ hA
    refine w168_257 hB (by omega) x1 _ _ x4 u5 u6 s l ⟨⟨by omega, by omega⟩, fun h => absurd h (by omega), fun _ => ⟨⟨by omega, by omega⟩, ?_⟩⟩
    rw [natc]
    refine a_W.imp (m_takes hB s l w x (by omega) (by omega) ⟨by omega, by omega⟩ ⟨by omega, by omega⟩ ⟨by omega, by omega⟩ ⟨by omega, by omega⟩) ?_
    rintro _ ⟨s2, rfl, k1, k2, k3, k4, k5, k6, k7, k8⟩
    refine ⟨s2, l, rfl, ?_⟩
    have same : ∀ k j, 75 ≤ k → k ≤ 81 → j ≠ w → (k ≠ 78 ∨ j ≠ x) → zz s2 k j = zz s k j := by
      intro k j _ _ hj hq
      by_cases e : k = 78
      · subst e
        exact k6 j (by omega)
      · exact k7 k j e hj
    have hA2 : WI s2 v (.branch 2 T acc) true c hi2 (zz s2 77 w) := by
      rw [k2]
      refine ⟨rfl, hi, x, c2, hh, rfl, (WI.keep T).1 c hi x c4 (fun k j h1 h2 h3 h4 hq => same k j h1 h2 (by omega) (by omega)), ?_⟩
      rw [k1]
      exact (WI.keep acc).2 hi hi2 _ hA (fun k j h1 h2 h3 h4 => same k j h1 h2 (by omega) (by omega))
    have e80 : zz s2 80 w = min (1 + tyW (.branch 2 T acc) : Int) 100000 := by
      rw [k4, h80, w80, tyW_b, if_pos rfl]
      omega
    have e81 : zz s2 81 w = 1 + (tyH (.branch 2 T acc) : Int) := by
      rw [k5, h81, w81, tyH_b, if_pos rfl]
      split <;> omega
    have e79 : zz s2 79 w = argN (.branch 2 T acc) := by
      rw [k3, h79]
      show _ = ((argN acc + 1 : Nat) : Int)
      omega
    have hR2 := RC.keep ts lo c _ c5 (s2 := s2) (fun k j h1 h2 h3 h4 => same k j h1 h2 (by omega) (by omega))
    refine a_W.imp (ih (.branch 2 T acc) lo c (zz s 78 x) _ _ s2 hw c1 (by omega) hR2 hA2 e79 e80 e81) ?_
    rintro _ ⟨s3, lo2, rfl, g1, g2, g3, g4, g5, g6, g7, g8, g9⟩
    refine ⟨s3, lo2, rfl, g1, g2, g3, g4, g5, fun k j hj hjw => (g6 k j hj hjw).trans ?_, fun j => ⟨(g7 j).1.trans (zz_of (k8 75 (by decide) (by decide) (by decide) (by decide) (by decide)) j), (g7 j).2.trans (zz_of (k8 76 (by decide) (by decide) (by decide) (by decide) (by decide)) j)⟩, g8.trans (k6 w (by omega)), fun k q1 q2 q3 q4 q5 => (g9 k q1 q2 q3 q4 q5).trans (k8 k q1 q2 q3 q4 q5)⟩
    by_cases e : k = 78
    · subst e
      exact k6 j (by omega)
    · exact k7 k j e hjw
