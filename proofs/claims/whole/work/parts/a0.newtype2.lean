/-! A CONSTANT'S TYPE WITH NEW UNKNOWN TYPES: the row from its end -/
section
variable {d : Nat} {B : aH} {tn : List (List Int)} {ta : List Int} {st en : Nat} {R : Nat → Int} {P0 : Nat} {s0 : aZ} {l : aZL} {c : Nat} {Q : aR → Prop}
/-- a variable: the node of its other place, or a new one -/
theorem x_var (hB : a_Can B) (hd : 6 ≤ d) (hen : en ≤ st + 40) (h44 : en ≤ 4480) (P : Nat) (hP : P ≤ 17000) (s : aZ) (hS : PS P s) (p : Nat) (hp : st ≤ p) (hpe : p < en) (hR : ∀ j, st ≤ j → j < en → zz s 32 j = R j) : a_W d 85 0 [.ref 25, iv (st : Int), iv (p : Int), iv (en : Int), .retAddr 0] [] (mkH B s l) (fun q => (∃ j, p + 1 ≤ j ∧ j < en ∧ R j = R p ∧ q = (.inl (some (iv (zz s 34 (j - st)))), mkH B s l)) ∨ ((∀ j, p + 1 ≤ j → j < en → R j ≠ R p) ∧ q = (.inl (some (iv (-1))), mkH B s l))) := by
  have loop : ∀ k i, i + k = en → p + 1 ≤ i → (∀ j, p + 1 ≤ j → j < i → R j ≠ R p) → a_W d 85 5 [.ref 25, iv (st : Int), iv (p : Int), iv (en : Int), iv (i : Int)] [] (mkH B s l) (fun q => (∃ j, p + 1 ≤ j ∧ j < en ∧ R j = R p ∧ q = (.inl (some (iv (zz s 34 (j - st)))), mkH B s l)) ∨ ((∀ j, p + 1 ≤ j → j < en → R j ≠ R p) ∧ q = (.inl (some (iv (-1))), mkH B s l))) := by
    intro k
    induction k with
    | zero =>
      intro i hi h1 hno
      exact w85_5 hB _ _ _ _ s l ⟨⟨by omega, by omega⟩, ⟨by omega, by omega⟩, fun _ => Or.inr ⟨fun j g1 g2 => hno j g1 (by omega), rfl⟩, fun h => absurd h (by omega)⟩
    | succ k ih =>
      intro i hi h1 hno
      refine w85_5 hB _ _ _ _ s l ⟨⟨by omega, by omega⟩, ⟨by omega, by omega⟩, fun h => absurd h (by omega), fun _ => ⟨⟨by omega, by omega⟩, ⟨by omega, by omega⟩, fun ne => ?_, fun eq => ⟨⟨by omega, by omega⟩, ?_⟩⟩⟩
      · rw [natc, natc, hR i (by omega) (by omega), hR p hp hpe] at ne
        rw [show (i : Int) + 1 = ((i + 1 : Nat) : Int) by omega]
        refine ih (i + 1) (by omega) (by omega) (fun j g1 g2 => ?_)
        by_cases e : j = i
        · rw [e]; exact ne
        · exact hno j g1 (by omega)
      · rw [natc, natc, hR i (by omega) (by omega), hR p hp hpe] at eq
        refine Or.inl ⟨i, h1, by omega, eq, ?_⟩
        rw [show ((i : Int) - (st : Int)).toNat = i - st by omega]
  refine w85_0 hB _ _ _ s l ?_
  rw [show (p : Int) + 1 = ((p + 1 : Nat) : Int) by omega]
  exact loop (en - (p + 1)) (p + 1) (by omega) (Nat.le_refl _) (fun j g1 g2 => absurd g2 (by omega))
/-- what a tree of the row comes to: the loop goes on before it -/
def NtK (ta : List Int) (st en : Nat) (R : Nat → Int) (P0 : Nat) (s0 : aZ) (d : Nat) (B : aH) (l : aZL) (c : Nat) (Q : aR → Prop) (C : aT) (p m P : Nat) (s : aZ) : Prop := ∀ (s' : aZ) (P' w : Nat) (u5 u6 u7 u8 u9 : Value), NtI ta st en R P0 s0 p (m + 1) P' s' → P ≤ P' → zz s' 35 m = w → (∀ j, j < m → zz s' 35 j = zz s 35 j) → (∀ j, p + (pre C).length ≤ j → j < en → zz s' 34 (j - st) = zz s 34 (j - st)) → (P0 + 40 ≤ 17000 → PFr P s s' ∧ NVp st P0 P' s' C p w) → a_W d 84 17 [.ref 25, iv (c : Int), iv (st : Int), iv ((m + 1 : Nat) : Int), iv ((p : Int) - 1), u5, u6, u7, u8, u9] [] (mkH B s' l) Q
/-- one symbol of the row -/
theorem x_ntN (hB : a_Can B) (hd : 7 ≤ d) (hc : c < 112) (hst : st = 40 * c) (h44 : en ≤ 4480) (hT : XTy tn ta s0) (h2a : ta.getD 2 0 = 2) (hs0 : zz s0 33 c = (en : Nat)) (hR : ∀ j, st ≤ j → j < en → zz s0 32 j = R j) (p m k P : Nat) (s : aZ) (u5 u6 u7 u8 u9 : Value) (hp : st ≤ p) (hpe : p < en) (hI : NtI ta st en R P0 s0 (p + 1) (m + k) P s) (hk : (k = 0 ∧ R p < 0) ∨ (0 ≤ R p ∧ R p < tn.length ∧ ta.getD (R p).toNat 0 = (k : Nat) ∧ k ≤ 2)) (hroom : P0 + 40 ≤ 17000 → (1 ≤ k → P0 ≤ zz s 35 (m + k - 1)) ∧ (2 ≤ k → P0 ≤ zz s 35 (m + k - 2))) (hK : ∀ (s' : aZ) (P' w : Nat) (u5 u6 u7 u8 u9 : Value), NtI ta st en R P0 s0 p (m + 1) P' s' → P ≤ P' → zz s' 34 (p - st) = w → zz s' 35 m = w → (∀ j, j < m → zz s' 35 j = zz s 35 j) → (∀ j, p + 1 ≤ j → j < en → zz s' 34 (j - st) = zz s 34 (j - st)) → (P0 + 40 ≤ 17000 → PFr P s s' ∧ (P0 ≤ w ∧ w < P') ∧ (0 ≤ R p → zz s' 18 w = R p ∧ zz s' 19 w = (if 1 ≤ k then zz s 35 (m + k - 1) else -1) ∧ zz s' 20 w = (if 2 ≤ k then zz s 35 (m + k - 2) else -1)) ∧ (R p < 0 → zz s' 18 w = unX)) → a_W d 84 17 [.ref 25, iv (c : Int), iv (st : Int), iv ((m + 1 : Nat) : Int), iv ((p : Int) - 1), u5, u6, u7, u8, u9] [] (mkH B s' l) Q) : a_W d 84 17 [.ref 25, iv (c : Int), iv (st : Int), iv ((m + k : Nat) : Int), iv (p : Int), u5, u6, u7, u8, u9] [] (mkH B s l) Q := by
  have hI' := hI
  obtain ⟨i1, i2, i3, i4, i5, i6, i7, i8, i9, i10, i11⟩ := hI
  have z32 : ∀ j, st ≤ j → j < en → zz s 32 j = R j := fun j h1 h2 => (zz_of (i8.1 32 (by decide) (by decide) (by decide)) j).trans (hR j h1 h2)
  have z33 : zz s 33 c = (en : Nat) := (zz_of (i8.1 33 (by decide) (by decide) (by decide)) c).trans hs0
  have tl := hT.1.2.2.2.1
  have t16 : ∀ j, j < tn.length → zz s 16 j = ta.getD j 0 := fun j hj => (zz_of (i8.1 16 (by decide) (by decide) (by decide)) j).trans (hT.2.2.1 j hj)
  have rR : inR (R p) := by rw [← z32 p hp hpe]; exact inR_zz _ _ _
  -- the node is put at its place
  have go : ∀ (s2 : aZ) (w P2 : Nat) (one other : Int) (v5 v6 v7 v8 v9 : Value), (0 ≤ R p → one = (if 1 ≤ k then zz s 35 (m + k - 1) else -1) ∧ other = (if 2 ≤ k then zz s 35 (m + k - 2) else -1)) → ((0 ≤ R p ∧ R p = R p ∧ R p < 40 ∧ (-1 ≤ one ∧ one < P) ∧ (-1 ≤ other ∧ other < P) ∧ (PG P (R p) one other s s2 w P2 ∧ (R p = 2 → 0 ≤ one ∧ 0 ≤ other)) ∧ (P0 + 40 ≤ 17000 → ((0 ≤ one ↔ 1 ≤ arT ta (R p)) ∧ (0 ≤ other ↔ 2 ≤ arT ta (R p))) ∧ (0 ≤ one → P0 ≤ one) ∧ (0 ≤ other → P0 ≤ other))) ∨ (R p < 0 ∧ R p = R p ∧ PG P unX (-1) (-1) s s2 w P2 ∧ (∀ j, p + 1 ≤ j → j < en → R j ≠ R p)) ∨ (R p < 0 ∧ R p = R p ∧ s2 = s ∧ P2 = P ∧ ∃ j, p + 1 ≤ j ∧ j < en ∧ R j = R p ∧ zz s 34 (j - st) = w)) → a_W d 84 17 [.ref 25, iv (c : Int), iv (st : Int), iv ((m : Int) + 1), iv ((p : Int) + (-1)), v5, v6, v7, v8, v9] [] (mkH B (zu (zu s2 34 (p - st) (w : Int)) 35 m (w : Int)) l) Q := by
    intro s2 w P2 one other v5 v6 v7 v8 v9 hoo hG
    obtain ⟨a1, a2, a3, a4, a5, a6, a7, a8⟩ := NtI.put (tn := tn) hI' hp hpe (m2 := m) (by omega) hG _ rfl
    generalize zu (zu s2 34 (p - st) (w : Int)) 35 m (w : Int) = s3 at *
    rw [show (m : Int) + 1 = ((m + 1 : Nat) : Int) by omega, show (p : Int) + (-1) = (p : Int) - 1 by omega]
    refine hK s3 P2 w _ _ _ _ _ a1 a2 a4 a5 a6 a7 (fun g => ?_)
    obtain ⟨b1, b2, b3, b4⟩ := a8 g
    refine ⟨b1, ⟨b2, a3⟩, fun h => ?_, b4⟩
    obtain ⟨o1, o2⟩ := hoo h
    obtain ⟨c1, c2, c3⟩ := b3 h
    exact ⟨c1, c2.trans o1, c3.trans o2⟩
  have rg : (0 : Int) ≤ (p : Int) - (st : Int) ∧ (p : Int) - (st : Int) < 40 := ⟨by omega, by omega⟩
  have tp : ((p : Int) - (st : Int)).toNat = p - st := by omega
  have g145 : ∀ (s2 : aZ) (w P2 : Nat) (one other x6 x7 x8 : Int), x6 = (k : Int) → (0 ≤ R p → one = (if 1 ≤ k then zz s 35 (m + k - 1) else -1) ∧ other = (if 2 ≤ k then zz s 35 (m + k - 2) else -1)) → ((0 ≤ R p ∧ R p = R p ∧ R p < 40 ∧ (-1 ≤ one ∧ one < P) ∧ (-1 ≤ other ∧ other < P) ∧ (PG P (R p) one other s s2 w P2 ∧ (R p = 2 → 0 ≤ one ∧ 0 ≤ other)) ∧ (P0 + 40 ≤ 17000 → ((0 ≤ one ↔ 1 ≤ arT ta (R p)) ∧ (0 ≤ other ↔ 2 ≤ arT ta (R p))) ∧ (0 ≤ one → P0 ≤ one) ∧ (0 ≤ other → P0 ≤ other))) ∨ (R p < 0 ∧ R p = R p ∧ PG P unX (-1) (-1) s s2 w P2 ∧ (∀ j, p + 1 ≤ j → j < en → R j ≠ R p)) ∨ (R p < 0 ∧ R p = R p ∧ s2 = s ∧ P2 = P ∧ ∃ j, p + 1 ≤ j ∧ j < en ∧ R j = R p ∧ zz s 34 (j - st) = w)) → a_W d 84 145 [.ref 25, iv (c : Int), iv (st : Int), iv ((m + k : Nat) : Int), iv (p : Int), iv (R p), iv x6, iv x7, iv x8, iv (w : Int)] [] (mkH B s2 l) Q := by
    intro s2 w P2 one other x6 x7 x8 h6 hoo hG
    have mx : max (((m + k : Nat) : Int) - x6) 0 = (m : Int) := by omega
    refine w84_145 hB (by omega) _ _ _ _ _ _ _ _ _ s2 l ⟨rg, ⟨by omega, by omega⟩, ⟨by omega, by omega⟩, ?_⟩
    rw [tp, mx, natc]
    exact go s2 w P2 one other _ _ _ _ _ hoo hG
  -- a variable
  have var : R p < 0 → ∀ x6 x7 : Int, x6 = (k : Int) → x7 = -1 → a_W (d - 1) 85 0 [.ref 25, iv (st : Int), iv (p : Int), iv (zz s 33 c), .retAddr 0] [] (mkH B s l) (fun r => ∃ (v9 : Int) (s7 : Nat → Nat → Int32) (l8 : Nat → Nat → Int64), r = (.inl (some (iv v9)), mkH B s7 l8) ∧ (inR v9 ∧ ((0 ≤ v9 → a_W d 84 145 [.ref 25, iv (c : Int), iv (st : Int), iv ((m + k : Nat) : Int), iv (p : Int), iv (R p), iv x6, iv x7, iv (-1), iv v9] [] (mkH B s7 l8) Q) ∧ (v9 < 0 → a_W (d - 1) 48 0 [.ref 17, iv (-1000000), iv x7, iv (-1)] [] (mkH B s7 l8) (fun r => ∃ (v14 : Int) (s12 : Nat → Nat → Int32) (l13 : Nat → Nat → Int64), r = (.inl (some (iv v14)), mkH B s12 l13) ∧ a_W d 84 145 [.ref 25, iv (c : Int), iv (st : Int), iv ((m + k : Nat) : Int), iv (p : Int), iv (R p), iv x6, iv x7, iv (-1), iv v14] [] (mkH B s12 l13) Q))))) := by
    intro h x6 x7 h6 h7
    rw [z33, h7]
    refine a_W.imp (x_var (l := l) hB (by omega) i7 h44 P i2 s i1 p hp hpe z32) ?_
    rintro _ (⟨j, g1, g2, g3, rfl⟩ | ⟨g1, rfl⟩)
    · have := i10 j g1 g2
      have e : zz s 34 (j - st) = (((zz s 34 (j - st)).toNat : Nat) : Int) := by omega
      have k1 := g145 s (zz s 34 (j - st)).toNat P 0 0 x6 (-1) (-1) h6 (fun q => absurd q (by omega)) (Or.inr (Or.inr ⟨h, rfl, rfl, rfl, j, g1, g2, g3, by omega⟩))
      rw [← e] at k1
      exact ⟨_, s, l, rfl, inR_zz _ _ _, fun _ => k1, fun c => absurd c (by omega)⟩
    · refine ⟨_, s, l, rfl, by decide, fun c => absurd c (by decide), fun _ => ?_⟩
      refine a_W.imp (x_addG hB (by omega) l P i2 s i1 (-1000000) (-1) (-1) (by decide) ⟨by omega, by have := i1.1; omega⟩ ⟨by omega, by have := i1.1; omega⟩) ?_
      rintro _ ⟨s2, w, P2, rfl, g2⟩
      exact ⟨_, s2, l, rfl, g145 s2 w P2 0 0 x6 (-1) (-1) h6 (fun q => absurd q (by omega)) (Or.inr (Or.inl ⟨h, rfl, g2, g1⟩))⟩
  -- without a second part
  have at88 : ∀ (x6 x7 : Int) (v8 v9 : Value), x6 = (k : Int) → k ≤ 1 → x7 = (if 1 ≤ k then zz s 35 (m + k - 1) else -1) → a_W d 84 88 [.ref 25, iv (c : Int), iv (st : Int), iv ((m + k : Nat) : Int), iv (p : Int), iv (R p), iv x6, iv x7, v8, v9] [] (mkH B s l) Q := by
    intro x6 x7 v8 v9 h6 hk1 h7
    have x7r : -1 ≤ x7 ∧ x7 < P := by
      rw [h7]
      split
      · have := i9 (m + k - 1) (by omega); omega
      · have := i1.1; omega
    refine w84_88 hB (by omega) _ _ _ _ _ _ _ _ _ s l ⟨rR, fun h0 => ?_, fun h0 => ⟨⟨by omega, by omega⟩, var h0 x6 x7 h6 ?_⟩⟩
    · rcases hk with ⟨-, hneg⟩ | ⟨hk1', hk2, hk3, hk4⟩
      · omega
      refine a_W.imp (x_addG hB (by omega) l P i2 s i1 (R p) x7 (-1) rR x7r ⟨by omega, by have := i1.1; omega⟩) ?_
      rintro _ ⟨s2, w, P2, rfl, h⟩
      refine ⟨_, s2, l, rfl, g145 s2 w P2 x7 (-1) x6 x7 (-1) h6 (fun _ => ⟨h7, by rw [if_neg (by omega)]⟩) (Or.inl ⟨h0, rfl, by omega, x7r, ⟨by omega, by have := i1.1; omega⟩, ⟨h, fun e => by rw [e, show (2 : Int).toNat = 2 from rfl, h2a] at hk3; omega⟩, fun g => ?_⟩)⟩
      have har : arT ta (R p) = k := by unfold arT; rw [if_neg (by omega), hk3]; rfl
      rw [har]
      obtain ⟨r1, r2⟩ := hroom g
      rw [h7]
      by_cases e : 1 ≤ k
      · rw [if_pos e]
        have := r1 e
        exact ⟨⟨⟨fun _ => e, fun _ => by omega⟩, ⟨fun q => absurd q (by decide), fun q => absurd q (by omega)⟩⟩, fun _ => this, fun q => absurd q (by decide)⟩
      · rw [if_neg e]
        exact ⟨⟨⟨fun q => absurd q (by decide), fun q => absurd q e⟩, ⟨fun q => absurd q (by decide), fun q => absurd q (by omega)⟩⟩, fun q => absurd q (by decide), fun q => absurd q (by decide)⟩
    · rw [h7, if_neg (by omega)]
  refine w84_17 hB (by omega) _ _ _ _ u5 u6 u7 u8 u9 s l ⟨⟨by omega, by omega⟩, ⟨by omega, by omega⟩, fun h => absurd h (by omega), fun _ => ⟨⟨by omega, by omega⟩, ?_⟩⟩
  rw [natc, z32 p hp hpe]
  refine w70_0 hB _ s l ⟨rR, fun h0 => ?_, fun h0 => ⟨fun h34 => ?_, fun h34 => ⟨⟨h0, h34⟩, ?_⟩⟩⟩
  · have k0 : k = 0 := by
      rcases hk with ⟨e, -⟩ | ⟨e, -⟩
      · exact e
      · omega
    refine ⟨0, s, l, rfl, by decide, fun _ => ?_, fun h => absurd h (by decide)⟩
    exact w84_63 hB (by omega) _ _ _ _ _ _ _ _ _ s l ⟨by decide, fun _ => at88 0 (-1) _ _ (by omega) (by omega) (by rw [if_neg (by omega)]), fun h => absurd h (by decide)⟩
  · rcases hk with ⟨-, e⟩ | ⟨-, e, -⟩ <;> omega
  · rcases hk with ⟨-, hneg⟩ | ⟨hk1, hk2, hk3, hk4⟩
    · omega
    have e16 : zz s 16 (R p).toNat = (k : Nat) := (t16 _ (by omega)).trans hk3
    rw [e16]
    refine ⟨_, s, l, rfl, ⟨by omega, by omega⟩, fun hz => ?_, fun hz => ⟨⟨by omega, by omega⟩, fun h => absurd h (by omega), fun _ => ⟨⟨by omega, by omega⟩, fun h1 => ?_, fun h1 => ⟨fun h => absurd h (by omega), fun _ => ⟨⟨by omega, by omega⟩, fun _ => ?_, fun h => absurd h (by omega)⟩⟩⟩⟩⟩
    · exact w84_63 hB (by omega) _ _ _ _ _ _ _ _ _ s l ⟨⟨by omega, by omega⟩, fun _ => at88 _ (-1) _ _ rfl (by omega) (by rw [if_neg (by omega)]), fun h => absurd h (by omega)⟩
    · rw [show (((m + k : Nat) : Int) - 1).toNat = m + k - 1 by omega]
      exact at88 _ _ _ _ rfl (by omega) (by rw [if_pos (by omega)])
    · rw [show (((m + k : Nat) : Int) - 1).toNat = m + k - 1 by omega, show (((m + k : Nat) : Int) - 2).toNat = m + k - 2 by omega]
      have a1 := i9 (m + k - 1) (by omega)
      have a2 := i9 (m + k - 2) (by omega)
      refine a_W.imp (x_addG hB (by omega) l P i2 s i1 (R p) (zz s 35 (m + k - 1)) (zz s 35 (m + k - 2)) rR ⟨by omega, by omega⟩ ⟨by omega, by omega⟩) ?_
      rintro _ ⟨s2, w, P2, rfl, h⟩
      refine ⟨_, s2, l, rfl, g145 s2 w P2 (zz s 35 (m + k - 1)) (zz s 35 (m + k - 2)) _ _ _ rfl (fun _ => ⟨by rw [if_pos (by omega)], by rw [if_pos (by omega)]⟩) (Or.inl ⟨h0, rfl, by omega, ⟨by omega, by omega⟩, ⟨by omega, by omega⟩, ⟨h, fun _ => ⟨a1.1, a2.1⟩⟩, fun g => ?_⟩)⟩
      have har : arT ta (R p) = k := by unfold arT; rw [if_neg (by omega), hk3]; rfl
      rw [har]
      obtain ⟨r1, r2⟩ := hroom g
      have := r1 (by omega)
      have := r2 (by omega)
      exact ⟨⟨⟨fun _ => by omega, fun _ => by omega⟩, ⟨fun _ => by omega, fun _ => by omega⟩⟩, fun _ => by omega, fun _ => by omega⟩
end
