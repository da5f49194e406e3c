/-! THE READER MAKES TYPES EQUAL: the loop -/
/-- a join, whatever the pool is like -/
theorem x_joinS {d : Nat} {B : aH} (hB : a_Can B) (hd : 1 ≤ d) (l : aZL) (P : Nat) (hP : P ≤ 17000) (one other : Nat) (h1 : one < P) (h2 : other < P) (s : aZ) (hS : PS P s) (hW : StR P s) : a_W d 90 0 [.ref 17, iv (one : Int), iv (other : Int), .retAddr 0, .retAddr 0] [] (mkH B s l) (fun q => ∃ s2, q = (.inl none, mkH B s2 l) ∧ FrJ s s2 ∧ PS P s2 ∧ StR P s2 ∧ (zz s2 17 10 = 1 ∨ zz s2 17 10 = zz s 17 10)) := by
  refine w90_0 hB (by omega) _ _ s l ⟨⟨by omega, by omega⟩, fun g => absurd g (by omega), fun _ => ⟨⟨by omega, by omega⟩, fun _ => (a_W.imp (x_find hB l P hP one s h1 hS.2.2.1) ?_), fun g => absurd g (by omega)⟩⟩
  rintro _ ⟨s1, a, rfl, f1, f2, -⟩
  have hS1 := f2.ps hS
  refine ⟨_, s1, l, rfl, a_W.imp (x_find hB l P hP other s1 h2 hS1.2.2.1) ?_⟩
  rintro _ ⟨s4, b, rfl, g1, g2, -⟩
  have hS4 := g2.ps hS1
  have vv := f2.tr g2
  have fj : FrJ s s4 := vv.j
  have z : ∀ k j, k ≠ 21 → zz s4 k j = zz s k j := fun k j hk => zz_of (vv.k k hk) j
  obtain ⟨w1, w2, w3⟩ := hW
  have hW4 : StR P s4 := ⟨by rw [z 17 7 (by decide)]; exact w1, by rw [z 17 7 (by decide)]; exact w2, fun j hj => by rw [z 24 j (by decide)]; exact w3 j (by rw [← z 17 7 (by decide)]; exact hj)⟩
  obtain ⟨y1, y2, y3⟩ := hW4
  have lk : ∀ (x y : Nat) (s5 : aZ), x < P → y < P → s5 = zu s4 21 x (y : Int) → ∃ s2, ((.inl none, mkH B s5 l) : aR) = (.inl none, mkH B s2 l) ∧ FrJ s s2 ∧ PS P s2 ∧ StR P s2 ∧ (zz s2 17 10 = 1 ∨ zz s2 17 10 = zz s 17 10) := by
    rintro x y s5 hx hy rfl
    refine ⟨_, rfl, ⟨fun k q1 q2 q3 => (zu_ne _ _ _ _ _ q2).trans (fj.1 k q1 q2 q3), fun j q1 q2 => (zz_ne _ _ _ _ _ _ (by omega)).trans (fj.2 j q1 q2)⟩, ?_, ⟨by rw [zz_ne _ _ _ _ _ _ (by omega)]; exact y1, by rw [zz_ne _ _ _ _ _ _ (by omega)]; exact y2, fun j hj => by rw [zz_ne _ _ _ _ _ _ (by omega)]; exact y3 j (by rw [zz_ne _ _ _ _ _ _ (by omega)] at hj; exact hj)⟩, Or.inr ((zz_ne _ _ _ _ _ _ (by omega)).trans (z 17 10 (by decide)))⟩
    obtain ⟨p0, p1, p2, p3⟩ := hS4
    refine ⟨p0, (zz_ne _ _ _ _ _ _ (by omega)).trans p1, fun j hj => ?_, fun j hj => ?_⟩
    · by_cases e : j = x
      · rw [e, zz_same _ _ _ ⟨by omega, by omega⟩]; omega
      · rw [zz_ne _ _ _ _ _ _ (by omega)]; exact p2 j hj
    · rw [zz_ne _ _ _ _ _ _ (by omega), zz_ne _ _ _ _ _ _ (by omega), zz_ne _ _ _ _ _ _ (by omega)]; exact p3 j hj
  refine ⟨_, s4, l, rfl, ⟨by omega, by omega⟩, ⟨by omega, by omega⟩, fun hne => ?_, fun _ => ⟨s4, rfl, fj, hS4, ⟨y1, y2, y3⟩, Or.inr (z 17 10 (by decide))⟩⟩
  rw [natc, natc]
  refine ⟨⟨by omega, by omega⟩, fun ca => ⟨⟨by omega, by omega⟩, fun cb => ⟨fun cab => ⟨fun f0 => w90_145 hB _ _ _ _ _ l (lk a b _ f1 g1 rfl), fun f0 => ⟨fun g => w90_145 hB _ _ _ _ _ l (lk a b _ f1 g1 rfl), fun glt => ⟨⟨by omega, by omega⟩, ?_⟩⟩⟩, fun cne => ?_⟩, fun cb => w90_145 hB _ _ _ _ _ l (lk b a _ g1 f1 rfl)⟩, fun ca => w90_145 hB _ _ _ _ _ l (lk a b _ f1 g1 rfl)⟩
  · obtain ⟨s5, e5, p1, p2, p3, p4⟩ := lk a b _ f1 g1 rfl
    obtain ⟨m, em⟩ : ∃ m : Nat, zz s4 17 7 = m := ⟨(zz s4 17 7).toNat, by omega⟩
    rw [em, natc]
    have k24 : ∀ k j, k ≠ 17 → (k ≠ 24 ∨ j ≠ m) → zz (zu (zu (zu s4 21 a (b : Int)) 24 m (a : Int)) 17 7 ((m : Int) + 1)) k j = zz (zu s4 21 a (b : Int)) k j := fun k j q1 q2 => by rw [zz_ne _ _ _ _ _ _ (by omega), zz_ne _ _ _ _ _ _ (by omega)]
    have k17 : ∀ j, j ≠ 7 → zz (zu (zu (zu s4 21 a (b : Int)) 24 m (a : Int)) 17 7 ((m : Int) + 1)) 17 j = zz s4 17 j := fun j q => by rw [zz_ne _ _ _ _ _ _ (by omega), zz_ne _ _ _ _ _ _ (by omega), zz_ne _ _ _ _ _ _ (by omega)]
    have v7 : zz (zu (zu (zu s4 21 a (b : Int)) 24 m (a : Int)) 17 7 ((m : Int) + 1)) 17 7 = (m : Int) + 1 := zz_same _ _ _ ⟨by omega, by omega⟩
    refine w90_145 hB _ _ _ _ _ l ⟨_, rfl, ⟨fun k q1 q2 q3 => ?_, fun j q1 q2 => (k17 j q1).trans (fj.2 j q1 q2)⟩, ?_, ⟨by omega, by omega, fun j hj => ?_⟩, Or.inr ((k17 10 (by decide)).trans (z 17 10 (by decide)))⟩
    · rw [zu_ne _ _ _ _ _ q1, zu_ne _ _ _ _ _ q3, zu_ne _ _ _ _ _ q2]; exact fj.1 k q1 q2 q3
    · obtain ⟨o0, o1, o2, o3⟩ := hS4
      refine ⟨o0, (k17 8 (by decide)).trans o1, fun j hj => ?_, fun j hj => ?_⟩
      · rw [k24 21 j (by decide) (by omega)]
        by_cases e : j = a
        · rw [e, zz_same _ _ _ ⟨by omega, by omega⟩]; omega
        · rw [zz_ne _ _ _ _ _ _ (by omega)]; exact o2 j hj
      · rw [k24 19 j (by decide) (by omega), k24 20 j (by decide) (by omega), zz_ne _ _ _ _ _ _ (by omega), zz_ne _ _ _ _ _ _ (by omega)]
        exact o3 j hj
    · rw [v7] at hj
      by_cases e : j = m
      · rw [e, zz_ne _ _ _ _ _ _ (by omega), zz_same _ _ _ ⟨by omega, by omega⟩]; omega
      · rw [k24 24 j (by decide) (by omega), zz_ne _ _ _ _ _ _ (by omega)]
        exact y3 j (by omega)
  · refine w90_145 hB _ _ _ _ _ l ⟨_, rfl, ⟨fun k q1 q2 q3 => (zu_ne _ _ _ _ _ q1).trans (fj.1 k q1 q2 q3), fun j q1 q2 => (zz_ne _ _ _ _ _ _ (by omega)).trans (fj.2 j q1 q2)⟩, hS4.z (zz_ne _ _ _ _ _ _ (by omega)) (fun k _ _ j => zz_ne _ _ _ _ _ _ (by omega)), ⟨by rw [zz_ne _ _ _ _ _ _ (by omega)]; exact y1, by rw [zz_ne _ _ _ _ _ _ (by omega)]; exact y2, fun j hj => by rw [zz_ne _ _ _ _ _ _ (by omega)]; exact y3 j (by rw [zz_ne _ _ _ _ _ _ (by omega)] at hj; exact hj)⟩, Or.inl (zz_same _ _ _ (by decide))⟩
/-- parts are joined where both are there -/
theorem x_partsS {d : Nat} {B : aH} (hB : a_Can B) (hd : 2 ≤ d) (l : aZL) (P : Nat) (hP : P ≤ 17000) (x y : Int) (h1 : -1 ≤ x ∧ x < P) (h2 : -1 ≤ y ∧ y < P) (s : aZ) (hS : PS P s) (hW : StR P s) : a_W d 90 0 [.ref 17, iv x, iv y, .retAddr 0, .retAddr 0] [] (mkH B s l) (fun q => ∃ s2, q = (.inl none, mkH B s2 l) ∧ FrJ s s2 ∧ PS P s2 ∧ StR P s2 ∧ (zz s2 17 10 = 1 ∨ zz s2 17 10 = zz s 17 10)) := by
  have no : ∃ s2, ((.inl none, mkH B s l) : aR) = (.inl none, mkH B s2 l) ∧ FrJ s s2 ∧ PS P s2 ∧ StR P s2 ∧ (zz s2 17 10 = 1 ∨ zz s2 17 10 = zz s 17 10) := ⟨s, rfl, FrJ.rf s, hS, hW, Or.inr rfl⟩
  by_cases hx : x < 0
  · exact w90_0 hB (by omega) x y s l ⟨⟨by omega, by omega⟩, fun _ => w90_8 hB x y s l no, fun g => absurd g (by omega)⟩
  by_cases hy : y < 0
  · exact w90_0 hB (by omega) x y s l ⟨⟨by omega, by omega⟩, fun g => absurd g hx, fun _ => ⟨⟨by omega, by omega⟩, fun g => absurd g (by omega), fun _ => w90_8 hB x y s l no⟩⟩
  obtain ⟨a, ea⟩ : ∃ a : Nat, x = a := ⟨x.toNat, by omega⟩
  obtain ⟨b, eb⟩ : ∃ b : Nat, y = b := ⟨y.toNat, by omega⟩
  subst ea
  subst eb
  exact x_joinS hB (by omega) l P hP a b (by omega) (by omega) s hS hW
theorem x_eqS_loop {d : Nat} {B : aH} (hB : a_Can B) (hd : 3 ≤ d) (l : aZL) (P : Nat) (hP : P ≤ 17000) (x1 x2 : Int) (s0 : aZ) : ∀ (m : Nat) (x3 : Int) (u4 u5 : Value) (s : aZ), x3 + m = 17000 → 0 ≤ x3 → PS P s → StR P s → FrJ s0 s → (zz s 17 10 = 1 ∨ zz s 17 10 = zz s0 17 10) → a_W d 89 13 [.ref 17, iv x1, iv x2, iv x3, u4, u5] [] (mkH B s l) (fun q => ∃ s2, q = (.inl none, mkH B s2 l) ∧ FrJ s0 s2 ∧ PS P s2 ∧ (zz s2 17 10 = 1 ∨ zz s2 17 10 = zz s0 17 10)) := by
  intro m
  induction m with
  | zero =>
    intro x3 u4 u5 s h3 h0 hS hW hf hc
    exact w89_13 hB (by omega) x1 x2 x3 u4 u5 s l ⟨⟨by omega, by omega⟩, fun _ => w89_105 hB _ _ _ _ _ s l ⟨s, rfl, hf, hS, hc⟩, fun h => absurd h (by omega)⟩
  | succ m ih =>
    intro x3 u4 u5 s h3 h0 hS hW hf hc
    have ex : a_W d 89 105 [.ref 17, iv x1, iv x2, iv x3, u4, u5] [] (mkH B s l) (fun q => ∃ s2, q = (.inl none, mkH B s2 l) ∧ FrJ s0 s2 ∧ PS P s2 ∧ (zz s2 17 10 = 1 ∨ zz s2 17 10 = zz s0 17 10)) := w89_105 hB _ _ _ _ _ s l ⟨s, rfl, hf, hS, hc⟩
    obtain ⟨w1, w2, w3⟩ := hW
    refine w89_13 hB (by omega) x1 x2 x3 u4 u5 s l ⟨⟨by omega, by omega⟩, fun _ => ex, fun _ => ⟨fun _ => ex, fun hpos => ⟨fun _ => ex, fun c0 => ⟨⟨by omega, by omega⟩, ?_⟩⟩⟩⟩
    obtain ⟨n, en⟩ : ∃ n : Nat, zz s 17 7 - 1 = n := ⟨(zz s 17 7 - 1).toNat, by omega⟩
    rw [en, natc]
    have hj := w3 n (by omega)
    obtain ⟨j, ej⟩ : ∃ j : Nat, zz s 24 n = j := ⟨(zz s 24 n).toNat, by omega⟩
    rw [ej]
    have hS1 : PS P (zu s 17 7 (n : Int)) := hS.z (zz_ne _ _ _ _ _ _ (by omega)) (fun k _ _ q => zz_ne _ _ _ _ _ _ (by omega))
    have v7 : zz (zu s 17 7 (n : Int)) 17 7 = n := zz_same _ _ _ ⟨by omega, by omega⟩
    have hW1 : StR P (zu s 17 7 (n : Int)) := ⟨by omega, by omega, fun q hq => by rw [zz_ne _ _ _ _ _ _ (by omega)]; exact w3 q (by omega)⟩
    have hf1 : FrJ s (zu s 17 7 (n : Int)) := ⟨fun k q1 _ _ => zu_ne _ _ _ _ _ q1, fun q q1 _ => zz_ne _ _ _ _ _ _ (by omega)⟩
    have hc1 : zz (zu s 17 7 (n : Int)) 17 10 = zz s 17 10 := zz_ne _ _ _ _ _ _ (by omega)
    generalize zu s 17 7 (n : Int) = s1 at *
    refine a_W.imp (x_find hB l P hP j s1 (by omega) hS1.2.2.1) ?_
    rintro _ ⟨s6, r, rfl, f1, f2, -⟩
    have hS6 := f2.ps hS1
    have z6 : ∀ k q, k ≠ 21 → zz s6 k q = zz s1 k q := fun k q hk => zz_of (f2.k k hk) q
    have hW6 : StR P s6 := ⟨by rw [z6 17 7 (by decide)]; exact hW1.1, by rw [z6 17 7 (by decide)]; exact hW1.2.1, fun q hq => by rw [z6 24 q (by decide)]; exact hW1.2.2 q (by rw [← z6 17 7 (by decide)]; exact hq)⟩
    obtain ⟨o0, o1, o2, o3⟩ := hS6
    refine ⟨_, s6, l, rfl, ⟨by omega, by omega⟩, ⟨by omega, by omega⟩, ?_⟩
    rw [natc, natc]
    refine a_W.imp (x_partsS hB (by omega) l P hP _ _ (o3 j (by omega)).1 (o3 r f1).1 s6 ⟨o0, o1, o2, o3⟩ hW6) ?_
    rintro _ ⟨s7, rfl, p1, p2, p3, p4⟩
    refine ⟨s7, l, rfl, ?_⟩
    refine a_W.imp (x_partsS hB (by omega) l P hP _ _ (p2.2.2.2 j (by omega)).2.1 (p2.2.2.2 r f1).2.1 s7 p2 p3) ?_
    rintro _ ⟨s8, rfl, r1, r2, r3, r4⟩
    refine ⟨s8, l, rfl, ih (x3 + 1) _ _ s8 (by omega) (by omega) r2 r3 (hf.tr (hf1.tr (f2.j.tr (p1.tr r1)))) ?_⟩
    have e6 : zz s6 17 10 = zz s 17 10 := (z6 17 10 (by decide)).trans hc1
    rcases r4 with e | e
    · exact Or.inl e
    · rw [e]
      rcases p4 with e | e
      · exact Or.inl e
      · rw [e, e6]; exact hc
/-- two types are made equal, whatever the pool is like -/
theorem x_equateS {d : Nat} {B : aH} (hB : a_Can B) (hd : 3 ≤ d) (l : aZL) (P : Nat) (hP : P ≤ 17000) (one other : Nat) (h1 : one < P) (h2 : other < P) (s : aZ) (hS : PS P s) : a_W d 89 0 [.ref 17, iv (one : Int), iv (other : Int), .retAddr 0, .retAddr 0, .retAddr 0] [] (mkH B s l) (fun q => ∃ s2, q = (.inl none, mkH B s2 l) ∧ FrJ s s2 ∧ PS P s2 ∧ (zz s2 17 10 = 1 ∨ zz s2 17 10 = zz s 17 10)) := by
  have hS1 : PS P (zu s 17 7 0) := hS.z (zz_ne _ _ _ _ _ _ (by omega)) (fun k _ _ q => zz_ne _ _ _ _ _ _ (by omega))
  have v7 : zz (zu s 17 7 0) 17 7 = 0 := zz_same _ _ _ (by decide)
  have hf1 : FrJ s (zu s 17 7 0) := ⟨fun k q1 _ _ => zu_ne _ _ _ _ _ q1, fun q q1 _ => zz_ne _ _ _ _ _ _ (by omega)⟩
  have hc1 : zz (zu s 17 7 0) 17 10 = zz s 17 10 := zz_ne _ _ _ _ _ _ (by omega)
  refine w89_0 hB (by omega) _ _ s l (a_W.imp (x_joinS hB (by omega) l P hP one other h1 h2 (zu s 17 7 0) hS1 ⟨by omega, by omega, fun j hj => by omega⟩) ?_)
  rintro _ ⟨s2, rfl, p1, p2, p3, p4⟩
  refine ⟨s2, l, rfl, x_eqS_loop hB hd l P hP _ _ s 17000 0 _ _ s2 (by decide) (by decide) p2 p3 (hf1.tr p1) ?_⟩
  rcases p4 with e | e
  · exact Or.inl e
  · exact Or.inr (e.trans hc1)
