/-! A CONSTANT'S TYPE WITH NEW UNKNOWN TYPES -/
/-- what it touches -/
def FrNt (s s2 : aZ) : Prop := (∀ k, (k < 17 ∨ 23 < k) → k ≠ 34 → k ≠ 35 → s2 k = s k) ∧ ∀ j, j ≠ 8 → j ≠ 11 → zz s2 17 j = zz s 17 j
theorem FrNt.rf (s : aZ) : FrNt s s := ⟨fun _ _ _ _ => rfl, fun _ _ _ => rfl⟩
theorem FrNt.tr {s1 s2 s3 : aZ} (a : FrNt s1 s2) (b : FrNt s2 s3) : FrNt s1 s3 := ⟨fun k h1 h2 h3 => (b.1 k h1 h2 h3).trans (a.1 k h1 h2 h3), fun j h1 h2 => (b.2 j h1 h2).trans (a.2 j h1 h2)⟩
theorem PG.nt {P w P2 : Nat} {c one other : Int} {s s2 : aZ} (hc : inR c) (h1 : -1 ≤ one ∧ one < P) (h2 : -1 ≤ other ∧ other < P) (hS : PS P s) (h : PG P c one other s s2 w P2) (hF : c = 2 → 0 ≤ one ∧ 0 ≤ other := by omega) : FrNt s s2 ∧ s2 34 = s 34 ∧ s2 35 = s 35 ∧ P2 ≤ P + 1 := by
  rcases h with ⟨g1, rfl, rfl, hN⟩ | ⟨g1, rfl, rfl, rfl⟩
  · obtain ⟨k1, k2, k3, k4, k5⟩ := hN.facts g1 hc h1 h2 hS hF
    exact ⟨⟨fun k q1 _ _ => k2 k (by omega) (by omega), fun j q _ => k3 j q⟩, k2 34 (by decide) (by decide), k2 35 (by decide) (by decide), Nat.le_refl _⟩
  · exact ⟨⟨fun k q1 _ _ => zu_ne _ _ _ _ _ (by omega), fun j _ q => zz_ne _ _ _ _ _ _ (by omega)⟩, zu_ne _ _ _ _ _ (by decide), zu_ne _ _ _ _ _ (by decide), by omega⟩
section
variable {ta : List Int} {st en : Nat} {R : Nat → Int} {P0 : Nat} {s0 : aZ}
/-- the processed places from p on: their nodes -/
def NtI (ta : List Int) (st en : Nat) (R : Nat → Int) (P0 : Nat) (s0 : aZ) (p m P : Nat) (s : aZ) : Prop := PS P s ∧ P ≤ 17000 ∧ P0 ≤ P ∧ P ≤ P0 + (en - p) ∧ m + p ≤ en ∧ st ≤ p ∧ en ≤ st + 40 ∧ FrNt s0 s ∧ (∀ j, j < m → 0 ≤ zz s 35 j ∧ zz s 35 j < P) ∧ (∀ j, p ≤ j → j < en → 0 ≤ zz s 34 (j - st) ∧ zz s 34 (j - st) < P) ∧ (P0 + 40 ≤ 17000 → zz s 17 11 = zz s0 17 11 ∧ PFr P0 s0 s ∧ NwO ta P0 P s ∧ (∀ j, p ≤ j → j < en → R j < 0 → P0 ≤ zz s 34 (j - st) ∧ zz s 18 (zz s 34 (j - st)).toNat = unX) ∧ ∀ j i, p ≤ j → j < en → p ≤ i → i < en → R j < 0 → R i < 0 → (R j = R i ↔ zz s 34 (j - st) = zz s 34 (i - st)))
/-- a tree stands at place p with node w -/
def NVp (st P0 P : Nat) (s : aZ) : aT → Nat → Int → Prop
  | .leaf _, _, w => w = -1
  | .branch e x y, p, w => zz s 34 (p - st) = w ∧ (P0 ≤ w ∧ w < P) ∧ (dec e < 0 → zz s 18 w.toNat = unX) ∧ (0 ≤ dec e → zz s 18 w.toNat = dec e ∧ NVp st P0 P s x (p + 1) (zz s 19 w.toNat) ∧ NVp st P0 P s y (p + 1 + (pre x).length) (zz s 20 w.toNat))
theorem NVp.keep {P P2 : Nat} {s s2 : aZ} (hP : P ≤ P2) (hf : PFr P s s2) : ∀ (C : aT) (p : Nat) (w : Int), (∀ j, p ≤ j → j < p + (pre C).length → zz s2 34 (j - st) = zz s 34 (j - st)) → NVp st P0 P s C p w → NVp st P0 P2 s2 C p w := by
  intro C
  induction C with
  | leaf q => intro p w _ h; exact h
  | branch e x y ihx ihy =>
    intro p w h34 h
    have ep : (pre (.branch e x y)).length = 1 + ((pre x).length + (pre y).length) := by rw [pre_b, List.length_cons, List.length_append]; omega
    rw [ep] at h34
    obtain ⟨a1, a2, a3, a4⟩ := h
    have z : ∀ k, 18 ≤ k → k ≤ 23 → zz s2 k w.toNat = zz s k w.toNat := fun k g1 g2 => hf k g1 g2 w.toNat (by omega)
    refine ⟨(h34 p (Nat.le_refl _) (by omega)).trans a1, ⟨a2.1, by omega⟩, fun hc => (z 18 (by decide) (by decide)).trans (a3 hc), fun hc => ?_⟩
    obtain ⟨b1, b2, b3⟩ := a4 hc
    refine ⟨(z 18 (by decide) (by decide)).trans b1, ?_, ?_⟩
    · rw [z 19 (by decide) (by decide)]; exact ihx _ _ (fun j g1 g2 => h34 j (by omega) (by omega)) b2
    · rw [z 20 (by decide) (by decide)]; exact ihy _ _ (fun j g1 g2 => h34 j (by omega) (by omega)) b3
/-- the place is given its node -/
theorem NtI.put {tn : List (List Int)} {p m m2 P P2 w : Nat} {c one other : Int} {s s2 : aZ} (h : NtI ta st en R P0 s0 (p + 1) m P s) (hp : st ≤ p) (hpe : p < en) (hm2 : m2 ≤ m) (hG : (0 ≤ c ∧ R p = c ∧ c < 40 ∧ (-1 ≤ one ∧ one < P) ∧ (-1 ≤ other ∧ other < P) ∧ (PG P c one other s s2 w P2 ∧ (c = 2 → 0 ≤ one ∧ 0 ≤ other)) ∧ (P0 + 40 ≤ 17000 → ((0 ≤ one ↔ 1 ≤ arT ta c) ∧ (0 ≤ other ↔ 2 ≤ arT ta c)) ∧ (0 ≤ one → P0 ≤ one) ∧ (0 ≤ other → P0 ≤ other))) ∨ (c < 0 ∧ R p = c ∧ PG P unX (-1) (-1) s s2 w P2 ∧ (∀ j, p + 1 ≤ j → j < en → R j ≠ R p)) ∨ (c < 0 ∧ R p = c ∧ s2 = s ∧ P2 = P ∧ ∃ j, p + 1 ≤ j ∧ j < en ∧ R j = R p ∧ zz s 34 (j - st) = w)) : ∀ s3, s3 = zu (zu s2 34 (p - st) (w : Int)) 35 m2 (w : Int) → NtI ta st en R P0 s0 p (m2 + 1) P2 s3 ∧ P ≤ P2 ∧ w < P2 ∧ zz s3 34 (p - st) = w ∧ zz s3 35 m2 = w ∧ (∀ j, j < m2 → zz s3 35 j = zz s 35 j) ∧ (∀ j, p + 1 ≤ j → j < en → zz s3 34 (j - st) = zz s 34 (j - st)) ∧ (P0 + 40 ≤ 17000 → PFr P s s3 ∧ P0 ≤ w ∧ (0 ≤ c → zz s3 18 w = c ∧ zz s3 19 w = one ∧ zz s3 20 w = other) ∧ (c < 0 → zz s3 18 w = unX)) := by
  rintro s3 rfl
  obtain ⟨i1, i2, i3, i4, i5, i6, i7, i8, i9, i10, i11⟩ := h
  have hPl : P0 + 40 ≤ 17000 → P < 17000 := fun g => by omega
  -- the pool's part
  have pool : FrNt s s2 ∧ s2 34 = s 34 ∧ s2 35 = s 35 ∧ P2 ≤ P + 1 ∧ P ≤ P2 ∧ P2 ≤ 17000 ∧ w < P2 ∧ PS P2 s2 := by
    rcases hG with ⟨g1, g2, g3, g4, g5, g6, g7⟩ | ⟨g1, g2, g3, g4⟩ | ⟨g1, g2, rfl, rfl, j, g3, g4, g5, g6⟩
    · obtain ⟨a1, a2, a3, a4⟩ := g6.1.nt ⟨by omega, by omega⟩ g4 g5 i1 g6.2
      obtain ⟨z1, z2, z3, z4, -⟩ := g6.1.safe ⟨by omega, by omega⟩ g4 g5 i1 g6.2
      exact ⟨a1, a2, a3, a4, z2, z3, z4, z1⟩
    · obtain ⟨a1, a2, a3, a4⟩ := g3.nt (by decide) ⟨by omega, by omega⟩ ⟨by omega, by omega⟩ i1 (fun e => absurd e (by decide))
      obtain ⟨z1, z2, z3, z4, -⟩ := g3.safe (by decide) ⟨by omega, by omega⟩ ⟨by omega, by omega⟩ i1 (fun e => absurd e (by decide))
      exact ⟨a1, a2, a3, a4, z2, z3, z4, z1⟩
    · have := i10 j (by omega) g4
      exact ⟨FrNt.rf _, rfl, rfl, by omega, Nat.le_refl _, i2, by omega, i1⟩
  obtain ⟨q1, q2, q3, q4, q5, q6, q7, q8⟩ := pool
  have fz : FrNt s2 (zu (zu s2 34 (p - st) (w : Int)) 35 m2 (w : Int)) := ⟨fun k _ h2 h3 => by rw [zu_ne _ _ _ _ _ h3, zu_ne _ _ _ _ _ h2], fun j _ _ => by rw [zz_ne _ _ _ _ _ _ (by omega), zz_ne _ _ _ _ _ _ (by omega)]⟩
  have zk : ∀ k j, k ≠ 34 → k ≠ 35 → zz (zu (zu s2 34 (p - st) (w : Int)) 35 m2 (w : Int)) k j = zz s2 k j := fun k j h1 h2 => by rw [zz_ne _ _ _ _ _ _ (by omega), zz_ne _ _ _ _ _ _ (by omega)]
  have e34 : zz (zu (zu s2 34 (p - st) (w : Int)) 35 m2 (w : Int)) 34 (p - st) = w := by rw [zz_ne _ _ _ _ _ _ (by omega), zz_same _ _ _ ⟨by omega, by omega⟩]
  have e35 : zz (zu (zu s2 34 (p - st) (w : Int)) 35 m2 (w : Int)) 35 m2 = w := zz_same _ _ _ ⟨by omega, by omega⟩
  have o34 : ∀ j, p + 1 ≤ j → j < en → zz (zu (zu s2 34 (p - st) (w : Int)) 35 m2 (w : Int)) 34 (j - st) = zz s 34 (j - st) := fun j h1 h2 => by rw [zz_ne _ _ _ _ _ _ (by omega), zz_ne _ _ _ _ _ _ (by omega), zz_of q2]
  have o35 : ∀ j, j ≠ m2 → zz (zu (zu s2 34 (p - st) (w : Int)) 35 m2 (w : Int)) 35 j = zz s 35 j := fun j h1 => by rw [zz_ne _ _ _ _ _ _ (by omega), zz_ne _ _ _ _ _ _ (by omega), zz_of q3]
  have c18 : ∀ k j, 18 ≤ k → k ≤ 23 → zz (zu (zu s2 34 (p - st) (w : Int)) 35 m2 (w : Int)) k j = zz s2 k j := fun k j h1 h2 => zk k j (by omega) (by omega)
  have c11 : zz (zu (zu s2 34 (p - st) (w : Int)) 35 m2 (w : Int)) 17 11 = zz s2 17 11 := zk 17 11 (by decide) (by decide)
  have hS3 : PS P2 (zu (zu s2 34 (p - st) (w : Int)) 35 m2 (w : Int)) := q8.z (zk 17 8 (by decide) (by decide)) (fun k h1 h2 j => zk k j (by omega) (by omega))
  generalize zu (zu s2 34 (p - st) (w : Int)) 35 m2 (w : Int) = s3 at *
  -- where there is room
  have room : P0 + 40 ≤ 17000 → zz s2 17 11 = zz s 17 11 ∧ PFr P s s2 ∧ NwO ta P P2 s2 ∧ P0 ≤ w ∧ (0 ≤ c → zz s2 18 w = c ∧ zz s2 19 w = one ∧ zz s2 20 w = other) ∧ (c < 0 → zz s2 18 w = unX) := by
    intro g
    have hl := hPl g
    rcases hG with ⟨g1, g2, g3, g4, g5, g6, g7⟩ | ⟨g1, g2, g3, g4⟩ | ⟨g1, g2, rfl, rfl, j, g3, g4, g5, g6⟩
    · obtain ⟨g6, hg2⟩ := g6
      obtain ⟨rfl, rfl, hN⟩ := g6.pn hl
      obtain ⟨k1, k2, k3, k4, k5⟩ := hN.facts hl ⟨by omega, by omega⟩ g4 g5 i1 hg2
      obtain ⟨r1, r2, r3, r4, r5⟩ := i11 g
      obtain ⟨g8, g9, g10⟩ := g7 g
      have rtp : ∀ x : Int, -1 ≤ x → x < w → (0 ≤ x → P0 ≤ x) → rtP s x := fun x h1 h2 h3 => by
        by_cases e : x < 0
        · exact Or.inl e
        · right
          have := (r3 x.toNat (by have := h3 (by omega); omega) (by omega)).1
          omega
      have hN21 : ∀ j, j < w → zz s2 21 j = zz s 21 j := fun j hj => hN.same (rtp one g4.1 g4.2 g9) (rtp other g5.1 g5.2 g10) j (by omega)
      refine ⟨k3 11 (by decide), fun k h1 h2 j hj => ?_, NwO.one k4 (by omega) (by omega) (by omega) (fun _ => g8), i3, fun _ => ⟨k4.1, k4.2.1, k4.2.2.1⟩, fun h => absurd h (by omega)⟩
      by_cases e : k = 21
      · subst e; exact hN21 j hj
      · exact k5 k j h1 h2 e (by omega)
    · obtain ⟨rfl, rfl, hN⟩ := g3.pn hl
      obtain ⟨k1, k2, k3, k4, k5⟩ := hN.facts hl (by decide) ⟨by omega, by omega⟩ ⟨by omega, by omega⟩ i1 (fun e => absurd e (by decide))
      have e21 := hN.same (Or.inl (by decide)) (Or.inl (by decide))
      refine ⟨k3 11 (by decide), fun k h1 h2 j hj => ?_, NwO.one k4 (by omega) (by omega) (by decide) (fun h => absurd rfl h), i3, fun h => absurd h (by omega), fun _ => k4.1⟩
      by_cases e : k = 21
      · subst e; exact e21 j (by omega)
      · exact k5 k j h1 h2 e (by omega)
    · obtain ⟨r1, r2, r3, r4, r5⟩ := i11 g
      obtain ⟨t1, t2⟩ := r4 j g3 g4 (by omega)
      rw [g6] at t1 t2
      rw [natc] at t2
      exact ⟨rfl, PFr.rf _ _, NwO.nil _ _ _, by omega, fun h => absurd h (by omega), fun _ => t2⟩
  refine ⟨⟨hS3, q6, by omega, by omega, by omega, hp, i7, i8.tr (q1.tr fz), fun j hj => ?_, fun j h1 h2 => ?_, fun g => ?_⟩, q5, q7, e34, e35, fun j hj => o35 j (by omega), o34, fun g => ?_⟩
  · by_cases e : j = m2
    · rw [e, e35]; omega
    · rw [o35 j e]
      have := i9 j (by omega)
      omega
  · by_cases e : j = p
    · rw [e, e34]; omega
    · rw [o34 j (by omega) h2]
      have := i10 j (by omega) h2
      omega
  · obtain ⟨r1, r2, r3, r4, r5⟩ := i11 g
    obtain ⟨t1, t2, t3, t4, t5, t6⟩ := room g
    refine ⟨c11.trans (t1.trans r1), r2.tr (fun k h1 h2 j hj => (c18 k j h1 h2).trans (t2 k h1 h2 j (by omega))) (Nat.le_refl _), ((r3.keep (fun k j h1 h2 h3 h4 => t2 k h1 (by omega) j h4)).cat t3).keep (fun k j h1 h2 _ _ => c18 k j h1 (by omega)), fun j h1 h2 hR => ?_, ?_⟩
    · by_cases e : j = p
      · rw [e, e34, natc, c18 18 w (by decide) (by decide)]
        refine ⟨by omega, t6 ?_⟩
        rcases hG with ⟨g1, g2, -⟩ | ⟨g1, g2, -⟩ | ⟨g1, g2, -⟩
        · rw [e] at hR; omega
        · exact g1
        · exact g1
      · rw [o34 j (by omega) h2, c18 18 _ (by decide) (by decide)]
        obtain ⟨a1, a2⟩ := r4 j (by omega) h2 hR
        have a3 := i10 j (by omega) h2
        exact ⟨a1, (t2 18 (by decide) (by decide) _ (by omega)).trans a2⟩
    · have one1 : ∀ i, p + 1 ≤ i → i < en → R p < 0 → R i < 0 → (R p = R i ↔ (w : Int) = zz s 34 (i - st)) := by
        intro i h1 h2 hp0 hi0
        rcases hG with ⟨g1, g2, -⟩ | ⟨g1, g2, g3, g4⟩ | ⟨g1, g2, e1, e2, j, g3, g4, g5, g6⟩
        · omega
        · obtain ⟨e1, e2, -⟩ := g3.pn (hPl g)
          have a3 := i10 i h1 h2
          refine ⟨fun e => absurd e.symm (g4 i h1 h2), fun e => ?_⟩
          omega
        · rw [← g5, ← g6]
          exact r5 j i g3 g4 h1 h2 (by omega) hi0
      intro j i h1 h2 h3 h4 hj hi
      by_cases e1 : j = p
      · by_cases e2 : i = p
        · rw [e1, e2]; exact ⟨fun _ => rfl, fun _ => rfl⟩
        · rw [e1] at hj
          rw [e1, e34, o34 i (by omega) h4]
          exact one1 i (by omega) h4 hj hi
      · by_cases e2 : i = p
        · rw [e2] at hi
          rw [e2, e34, o34 j (by omega) h2]
          have := one1 j (by omega) h2 hi hj
          exact ⟨fun e => (this.mp e.symm).symm, fun e => (this.mpr e.symm).symm⟩
        · rw [o34 j (by omega) h2, o34 i (by omega) h4]
          exact r5 j i (by omega) h2 (by omega) h4 hj hi
  · obtain ⟨t1, t2, t3, t4, t5, t6⟩ := room g
    refine ⟨fun k h1 h2 j hj => (c18 k j h1 h2).trans (t2 k h1 h2 j hj), t4, fun h => ?_, fun h => (c18 18 w (by decide) (by decide)).trans (t6 h)⟩
    rw [c18 18 w (by decide) (by decide), c18 19 w (by decide) (by decide), c18 20 w (by decide) (by decide)]
    exact t5 h
end
