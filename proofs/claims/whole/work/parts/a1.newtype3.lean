/-! A CONSTANT'S TYPE WITH NEW UNKNOWN TYPES: the whole row -/
section
variable {d : Nat} {B : aH} {tn : List (List Int)} {ta : List Int} {st en : Nat} {R : Nat → Int} {P0 : Nat} {s0 : aZ} {l : aZL} {c : Nat} {Q : aR → Prop}
theorem pre_len (e : Nat) (x y : aT) : (pre (.branch e x y)).length = 1 + ((pre x).length + (pre y).length) := by rw [pre_b, List.length_cons, List.length_append]; omega
theorem gD_l {α : Type} (a b : List α) (e : α) (m : Nat) (h : m < a.length) : (a ++ b).getD m e = a.getD m e := by
  rw [List.getD_eq_getElem?_getD, List.getD_eq_getElem?_getD, List.getElem?_append_left h]
theorem gD_r {α : Type} (a b : List α) (e : α) (m : Nat) (h : a.length ≤ m) : (a ++ b).getD m e = b.getD (m - a.length) e := by
  rw [List.getD_eq_getElem?_getD, List.getD_eq_getElem?_getD, List.getElem?_append_right h]
theorem isB_1 {C : aT} (h : isB C = 1) : ∃ e x y, C = .branch e x y := by
  cases C with
  | leaf q => exact absurd h (show ¬ ((0 : Nat) = 1) by decide)
  | branch e x y => exact ⟨e, x, y, rfl⟩
theorem isB_le (C : aT) : isB C = 0 ∨ isB C = 1 := by
  cases C with
  | leaf q => exact Or.inl rfl
  | branch e x y => exact Or.inr rfl
theorem NVp.z {P : Nat} {s : aZ} {C : aT} {p : Nat} (h : isB C = 0) : NVp st P0 P s C p (-1) := by
  cases C with
  | leaf q => rfl
  | branch e x y => exact absurd h (show ¬ ((1 : Nat) = 0) by decide)
theorem NVp.lo {P : Nat} {s : aZ} {C : aT} {p : Nat} {w : Int} (h : isB C = 1) (hv : NVp st P0 P s C p w) : (P0 : Int) ≤ w ∧ w < P := by
  obtain ⟨e, x, y, rfl⟩ := isB_1 h
  exact hv.2.1
/-- the places of a tree in the row -/
def RwC (R : Nat → Int) (C : aT) (p : Nat) : Prop := ∀ j, j < (pre C).length → R (p + j) = (pre C).getD j 0
theorem RwC.b {e : Nat} {x y : aT} {p : Nat} (h : RwC R (.branch e x y) p) : R p = dec e ∧ RwC R x (p + 1) ∧ RwC R y (p + 1 + (pre x).length) := by
  have hl := pre_len e x y
  refine ⟨?_, fun j hj => ?_, fun j hj => ?_⟩
  · have := h 0 (by omega)
    exact this
  · have := h (j + 1) (by omega)
    rw [show p + (j + 1) = p + 1 + j by omega, pre_b, List.getD_cons_succ, gD_l _ _ _ _ hj] at this
    exact this
  · have := h (j + (pre x).length + 1) (by omega)
    rw [show p + (j + (pre x).length + 1) = p + 1 + (pre x).length + j by omega, pre_b, List.getD_cons_succ, gD_r _ _ _ _ (by omega), show j + (pre x).length - (pre x).length = j by omega] at this
    exact this
theorem x_ntC (hB : a_Can B) (hd : 7 ≤ d) (hc : c < 112) (hst : st = 40 * c) (h44 : en ≤ 4480) (hT : XTy tn ta s0) (h2a : ta.getD 2 0 = 2) (hs0 : zz s0 33 c = (en : Nat)) (hR : ∀ j, st ≤ j → j < en → zz s0 32 j = R j) : ∀ (C : aT) (p m P : Nat) (s : aZ) (u5 u6 u7 u8 u9 : Value), isB C = 1 → wfC tn.length ta C → st ≤ p → p + (pre C).length ≤ en → RwC R C p → NtI ta st en R P0 s0 (p + (pre C).length) m P s → NtK ta st en R P0 s0 d B l c Q C p m P s → a_W d 84 17 [.ref 25, iv (c : Int), iv (st : Int), iv (m : Int), iv (((p + (pre C).length : Nat) : Int) - 1), u5, u6, u7, u8, u9] [] (mkH B s l) Q := by
  intro C
  induction C with
  | leaf q => intro p m P s _ _ _ _ _ h; exact absurd h (show ¬ ((0 : Nat) = 1) by decide)
  | branch e x y ihx ihy =>
    intro p m P s u5 u6 u7 u8 u9 _ hw hp hpe hr hI hK
    have hl := pre_len e x y
    obtain ⟨r0, rx, ry⟩ := hr.b
    obtain ⟨w1, w2, w3, w4⟩ := hw
    -- the symbol of the node
    have kk : ∀ k, k = isB x + isB y → (k = 0 ∧ R p < 0) ∨ (0 ≤ R p ∧ R p < tn.length ∧ ta.getD (R p).toNat 0 = (k : Nat) ∧ k ≤ 2) := by
      rintro k rfl
      rw [r0]
      rcases w1 with ⟨a1, a2, a3, a4⟩ | ⟨a1, a2, a3⟩
      · exact Or.inl ⟨by omega, by omega⟩
      · refine Or.inr ⟨a1, a2, a3, ?_⟩
        have := isB_le x
        have := isB_le y
        omega
    rcases isB_le y with y0 | y1
    · have ly : (pre y).length = 0 := by rw [isB_0 y0]; rfl
      rcases isB_le x with x0 | x1
      · -- no parts
        have lx : (pre x).length = 0 := by rw [isB_0 x0]; rfl
        have el : p + (pre (.branch e x y)).length = p + 1 := by omega
        rw [el] at hI ⊢
        rw [show ((p + 1 : Nat) : Int) - 1 = (p : Int) by omega]
        refine x_ntN (k := 0) hB hd hc hst h44 hT h2a hs0 hR p m P s u5 u6 u7 u8 u9 hp (by omega) hI (kk 0 (by omega)) (fun _ => ⟨fun h => absurd h (by omega), fun h => absurd h (by omega)⟩) ?_
        intro s' P' w v5 v6 v7 v8 v9 h1 h2 h3 h4 h5 h6 h7
        refine hK s' P' w v5 v6 v7 v8 v9 h1 h2 h4 h5 (fun j g1 g2 => h6 j (by omega) g2) (fun g => ?_)
        obtain ⟨b1, b2, b3, b4⟩ := h7 g
        refine ⟨b1, h3, ⟨by omega, by omega⟩, fun hn => ?_, fun hn => ?_⟩
        · rw [natc]; exact b4 (by omega)
        · obtain ⟨c1, c2, c3⟩ := b3 (by omega)
          rw [natc, c1, c2, c3, if_neg (by omega), if_neg (by omega)]
          exact ⟨r0, NVp.z x0, NVp.z y0⟩
      · -- one part
        have el : p + (pre (.branch e x y)).length = p + 1 + (pre x).length := by omega
        rw [el] at hI ⊢
        refine ihx (p + 1) m P s u5 u6 u7 u8 u9 x1 w3 (by omega) (by omega) rx hI ?_
        intro s1 P1 wx t5 t6 t7 t8 t9 g1 g2 g3 g4 g5 g6
        rw [show ((p + 1 : Nat) : Int) - 1 = (p : Int) by omega]
        refine x_ntN (k := 1) hB hd hc hst h44 hT h2a hs0 hR p m P1 s1 t5 t6 t7 t8 t9 hp (by omega) g1 (kk 1 (by omega)) (fun g => ⟨fun _ => ?_, fun h => absurd h (by omega)⟩) ?_
        · rw [show m + 1 - 1 = m by omega, g3]
          exact (NVp.lo x1 (g6 g).2).1
        intro s' P' w v5 v6 v7 v8 v9 h1 h2 h3 h4 h5 h6 h7
        refine hK s' P' w v5 v6 v7 v8 v9 h1 (by omega) h4 (fun j q => (h5 j q).trans (g4 j q)) (fun j q1 q2 => (h6 j (by omega) q2).trans (g5 j (by omega) q2)) (fun g => ?_)
        obtain ⟨b1, b2, b3, b4⟩ := h7 g
        obtain ⟨k1, k2⟩ := g6 g
        refine ⟨k1.tr b1 g2, h3, ⟨by omega, by omega⟩, fun hn => ?_, fun hn => ?_⟩
        · rw [natc]; exact b4 (by omega)
        · obtain ⟨c1, c2, c3⟩ := b3 (by omega)
          rw [natc, c1, c2, c3, if_pos (by omega), if_neg (by omega), show m + 1 - 1 = m by omega, g3]
          exact ⟨r0, NVp.keep h2 b1 x (p + 1) wx (fun j q1 q2 => h6 j q1 (by omega)) k2, NVp.z y0⟩
    · -- two parts
      have x1 : isB x = 1 := by have := isB_le x; omega
      have el : p + (pre (.branch e x y)).length = p + 1 + (pre x).length + (pre y).length := by omega
      rw [el] at hI ⊢
      refine ihy (p + 1 + (pre x).length) m P s u5 u6 u7 u8 u9 y1 w4 (by omega) (by omega) ry hI ?_
      intro s1 P1 wy t5 t6 t7 t8 t9 g1 g2 g3 g4 g5 g6
      refine ihx (p + 1) (m + 1) P1 s1 t5 t6 t7 t8 t9 x1 w3 (by omega) (by omega) rx g1 ?_
      intro s2 P2 wx q5 q6 q7 q8 q9 f1 f2 f3 f4 f5 f6
      rw [show ((p + 1 : Nat) : Int) - 1 = (p : Int) by omega]
      refine x_ntN (k := 2) hB hd hc hst h44 hT h2a hs0 hR p m P2 s2 q5 q6 q7 q8 q9 hp (by omega) f1 (kk 2 (by omega)) (fun g => ⟨fun _ => ?_, fun _ => ?_⟩) ?_
      · rw [show m + 2 - 1 = m + 1 by omega, f3]
        exact (NVp.lo x1 (f6 g).2).1
      · rw [show m + 2 - 2 = m by omega, f4 m (by omega), g3]
        exact (NVp.lo y1 (g6 g).2).1
      intro s' P' w v5 v6 v7 v8 v9 h1 h2 h3 h4 h5 h6 h7
      refine hK s' P' w v5 v6 v7 v8 v9 h1 (by omega) h4 (fun j q => (h5 j q).trans ((f4 j (by omega)).trans (g4 j q))) (fun j q1 q2 => (h6 j (by omega) q2).trans ((f5 j (by omega) q2).trans (g5 j (by omega) q2))) (fun g => ?_)
      obtain ⟨b1, b2, b3, b4⟩ := h7 g
      obtain ⟨k1, k2⟩ := g6 g
      obtain ⟨j1, j2⟩ := f6 g
      refine ⟨(k1.tr j1 g2).tr b1 (by omega), h3, ⟨by omega, by omega⟩, fun hn => ?_, fun hn => ?_⟩
      · rw [natc]; exact b4 (by omega)
      · obtain ⟨c1, c2, c3⟩ := b3 (by omega)
        rw [natc, c1, c2, c3, if_pos (by omega), if_pos (by omega), show m + 2 - 1 = m + 1 by omega, show m + 2 - 2 = m by omega, f3, f4 m (by omega), g3]
        exact ⟨r0, NVp.keep h2 b1 x (p + 1) wx (fun j q1 q2 => h6 j q1 (by omega)) j2, NVp.keep h2 b1 y _ wy (fun j q1 q2 => h6 j (by omega) (by omega)) (NVp.keep f2 j1 y _ wy (fun j q1 q2 => f5 j (by omega) (by omega)) k2)⟩
/-- what newType comes to -/
def XNt (ta : List Int) (C : aT) (c P0 : Nat) (s0 : aZ) (s2 : aZ) (w P2 : Nat) : Prop := FrNt s0 s2 ∧ PS P2 s2 ∧ P0 ≤ P2 ∧ P2 ≤ P0 + (pre C).length ∧ P2 ≤ 17000 ∧ w < P2 ∧ (P0 + 40 ≤ 17000 → zz s2 17 11 = zz s0 17 11 ∧ PFr P0 s0 s2 ∧ NwO ta P0 P2 s2 ∧ NVp (40 * c) P0 P2 s2 C (40 * c) w ∧ (∀ j, j < (pre C).length → (pre C).getD j 0 < 0 → P0 ≤ zz s2 34 j ∧ zz s2 34 j < P2 ∧ zz s2 18 (zz s2 34 j).toNat = unX) ∧ ∀ j i, j < (pre C).length → i < (pre C).length → (pre C).getD j 0 < 0 → (pre C).getD i 0 < 0 → ((pre C).getD j 0 = (pre C).getD i 0 ↔ zz s2 34 j = zz s2 34 i))
theorem x_newType (hB : a_Can B) (hd : 7 ≤ d) {cn : List (List Int)} {ct : List aT} (hT : XTy tn ta s0) (h2a : ta.getD 2 0 = 2) (hCo : XCo cn ct s0) (hc : c < cn.length) (hw : wfC tn.length ta (ct.getD c cNo)) (hP : P0 ≤ 17000) (hS : PS P0 s0) : a_W d 84 0 [.ref 25, iv (c : Int), .retAddr 0, .retAddr 0, .retAddr 0, .retAddr 0, .retAddr 0, .retAddr 0, .retAddr 0, .retAddr 0] [] (mkH B s0 l) (fun q => ∃ (s2 : aZ) (w P2 : Nat), q = (.inl (some (iv (w : Int))), mkH B s2 l) ∧ XNt ta (ct.getD c cNo) c P0 s0 s2 w P2) := by
  have hc112 : c < 112 := by have := hCo.1.2.2.2.1; omega
  obtain ⟨c1, c2, c3, c4⟩ := hCo.2.2.2 c hc
  generalize ct.getD c cNo = C at *
  have b1 : isB C = 1 := by
    rcases isB_le C with h | h
    · rw [isB_0 h] at c1; exact absurd c1 (by decide)
    · exact h
  refine w84_0 hB _ s0 l ⟨⟨by omega, by omega⟩, ?_⟩
  rw [natc, c3, show (c : Int) * 40 = ((40 * c : Nat) : Int) by omega]
  have hI : NtI ta (40 * c) (40 * c + (pre C).length) (fun j => (pre C).getD (j - 40 * c) 0) P0 s0 (40 * c + (pre C).length) 0 P0 s0 := ⟨hS, hP, Nat.le_refl _, by omega, by omega, by omega, by omega, FrNt.rf _, fun j h => absurd h (by omega), fun j h1 h2 => absurd h2 (by omega), fun _ => ⟨rfl, PFr.rf _ _, NwO.nil _ _ _, fun j h1 h2 => absurd h2 (by omega), fun j i h1 h2 => absurd h2 (by omega)⟩⟩
  refine x_ntC (R := fun j => (pre C).getD (j - 40 * c) 0) hB hd hc112 rfl (by omega) hT h2a c3 (fun j h1 h2 => ?_) C (40 * c) 0 P0 s0 _ _ _ _ _ b1 hw (Nat.le_refl _) (Nat.le_refl _) (fun j hj => ?_) hI ?_
  · have := c4 (j - 40 * c) (by omega)
    rw [show 40 * c + (j - 40 * c) = j by omega] at this
    exact this
  · show (pre C).getD (40 * c + j - 40 * c) 0 = _
    rw [show 40 * c + j - 40 * c = j by omega]
  · intro s' P' w v5 v6 v7 v8 v9 h1 h2 h3 h4 h5 h6
    refine w84_17 hB (by omega) _ _ _ _ _ _ _ _ _ s' l ⟨⟨by omega, by omega⟩, ⟨by omega, by omega⟩, fun _ => ?_, fun h => absurd h (by omega)⟩
    obtain ⟨i1, i2, i3, i4, i5, i6, i7, i8, i9, i10, i11⟩ := h1
    have iw := i9 0 (by omega)
    rw [h3] at iw ⊢
    refine ⟨s', w, P', rfl, i8, i1, i3, by omega, i2, by omega, fun g => ?_⟩
    obtain ⟨r1, r2, r3, r4, r5⟩ := i11 g
    refine ⟨r1, r2, r3, (h6 g).2, fun j hj hn => ?_, fun j i hj hi nj ni => ?_⟩
    · have a1 := i10 (40 * c + j) (by omega) (by omega)
      have a2 := r4 (40 * c + j) (by omega) (by omega)
      simp only [show 40 * c + j - 40 * c = j by omega] at a1 a2
      obtain ⟨a3, a4⟩ := a2 hn
      exact ⟨a3, a1.2, a4⟩
    · have a2 := r5 (40 * c + j) (40 * c + i) (by omega) (by omega) (by omega) (by omega)
      simp only [show 40 * c + j - 40 * c = j by omega, show 40 * c + i - 40 * c = i by omega] at a2
      exact a2 nj ni
end
