/-! WHAT READING TYPES TOUCHES OF THE READER; TYPES IN THE POOL -/
def FrY (s s2 : aZ) : Prop := (∀ k, k ≠ 1 → k ≠ 3 → k ≠ 4 → k ≠ 5 → k ≠ 6 → k ≠ 7 → (k < 17 ∨ 23 < k) → k ≠ 36 → k ≠ 37 → s2 k = s k) ∧ (∀ j, j ∉ [4, 6, 7, 8, 9, 10, 11] → zz s2 1 j = zz s 1 j) ∧ (∀ j, j ≠ 8 → j ≠ 11 → zz s2 17 j = zz s 17 j) ∧ ∀ j, j ≠ 4 → j ≠ 5 → j ≠ 6 → zz s2 36 j = zz s 36 j
theorem FrY.rf (s : aZ) : FrY s s := ⟨fun _ _ _ _ _ _ _ _ _ _ => rfl, fun _ _ => rfl, fun _ _ _ => rfl, fun _ _ _ _ => rfl⟩
theorem FrY.tr {s1 s2 s3 : aZ} (a : FrY s1 s2) (b : FrY s2 s3) : FrY s1 s3 := ⟨fun k h1 h2 h3 h4 h5 h6 h7 h8 h9 => (b.1 k h1 h2 h3 h4 h5 h6 h7 h8 h9).trans (a.1 k h1 h2 h3 h4 h5 h6 h7 h8 h9), fun j h => (b.2.1 j h).trans (a.2.1 j h), fun j h h2 => (b.2.2.1 j h h2).trans (a.2.2.1 j h h2), fun j h h2 h3 => (b.2.2.2 j h h2 h3).trans (a.2.2.2 j h h2 h3)⟩
theorem FrX.y {s s2 : aZ} (h : FrX s s2) : FrY s s2 := ⟨fun k h1 h2 h3 h4 h5 h6 _ _ _ => h.1 k h1 h2 h3 h4 h5 h6, h.2, fun j _ _ => zz_of (h.hi 17 (by decide)) j, fun j _ _ _ => zz_of (h.hi 36 (by decide)) j⟩
theorem FrY.ty {s s2 : aZ} (h : FrY s s2) {tn : List (List Int)} {ta : List Int} (hT : XTy tn ta s) : XTy tn ta s2 := hT.fr (fun k h1 h2 => h.1 k (by omega) (by omega) (by omega) (by omega) (by omega) (by omega) (by omega) (by omega) (by omega))
/-- old nodes of the pool stay; what waits below w stays -/
def PFr (P : Nat) (s s2 : aZ) : Prop := ∀ k, 18 ≤ k → k ≤ 23 → ∀ j, j < P → zz s2 k j = zz s k j
def WtF (w : Nat) (s s2 : aZ) : Prop := ∀ j, j < w → zz s2 37 j = zz s 37 j
theorem PFr.rf (P : Nat) (s : aZ) : PFr P s s := fun _ _ _ _ _ => rfl
theorem PFr.tr {P P2 : Nat} {s1 s2 s3 : aZ} (a : PFr P s1 s2) (b : PFr P2 s2 s3) (h : P ≤ P2) : PFr P s1 s3 := fun k h1 h2 j hj => (b k h1 h2 j (by omega)).trans (a k h1 h2 j hj)
theorem WtF.rf (w : Nat) (s : aZ) : WtF w s s := fun _ _ => rfl
theorem WtF.tr {w w2 : Nat} {s1 s2 s3 : aZ} (a : WtF w s1 s2) (b : WtF w2 s2 s3) (h : w ≤ w2) : WtF w s1 s3 := fun j hj => (b j (by omega)).trans (a j hj)
theorem FrX.p {s s2 : aZ} (h : FrX s s2) (P : Nat) : PFr P s s2 := fun k h1 _ j _ => zz_of (h.hi k (by omega)) j
theorem FrX.wt {s s2 : aZ} (h : FrX s s2) (w : Nat) : WtF w s s2 := fun j _ => zz_of (h.hi 37 (by decide)) j
theorem FrX.ps {s s2 : aZ} (h : FrX s s2) {P : Nat} (hS : PS P s) : PS P s2 := by
  obtain ⟨p0, p1, p2, p3⟩ := hS
  refine ⟨p0, (zz_of (h.hi 17 (by decide)) 8).trans p1, fun j hj => ?_, fun j hj => ?_⟩
  · rw [zz_of (h.hi 21 (by decide))]; exact p2 j hj
  · rw [zz_of (h.hi 18 (by decide)), zz_of (h.hi 19 (by decide)), zz_of (h.hi 20 (by decide))]; exact p3 j hj
/-- the text is not touched -/
theorem XT.keep {t : Nat → Int} {n : Nat} {s s2 : aZ} (h : XT t n s) (e : ∀ k, k ≤ 7 → s2 k = s k) : XT t n s2 := ⟨(zz_of (e 1 (by decide)) 3).trans h.1, h.2.1, fun j hj => ⟨(zz_of (e 2 (by decide)) j).trans (h.2.2 j hj).1, (h.2.2 j hj).2⟩⟩
theorem NT3.keep {ns : List (List Int)} {s s2 : aZ} (h : NT 3 5 6 7 4 10240 3000 ns s) (e : ∀ k, k ≤ 7 → s2 k = s k) : NT 3 5 6 7 4 10240 3000 ns s2 := h.fr (zz_of (e 3 (by decide)) 4) (e 5 (by decide)) (e 6 (by decide)) (e 7 (by decide)) (e 4 (by decide))
theorem XC.keep {t : Nat → Int} {n : Nat} {ns : List (List Int)} {i : Nat} {s s2 : aZ} (h : XC t n ns i s) (e : ∀ k, k ≤ 7 → s2 k = s k) : XC t n ns i s2 := by
  obtain ⟨x1, x2, x3, x4, x5, x6, x7, x8, x9, x10⟩ := h
  have z : ∀ j, zz s2 1 j = zz s 1 j := fun j => zz_of (e 1 (by decide)) j
  exact ⟨x1.keep e, (z 10).trans x2, (z 11).trans x3, (z 7).trans x4, (z 6).trans x5, fun q => ⟨(z 8).trans (x6 q).1, (z 4).trans (x6 q).2⟩, fun q => ⟨(z 8).trans (x7 q).1, (z 4).trans (x7 q).2⟩, NT3.keep x8 e, fun q => (z 9).trans (x9 q), fun q => (z 9).trans (x10 q)⟩
theorem XF.keep {t : Nat → Int} {n : Nat} {f p : Int} {ns : List (List Int)} {s s2 : aZ} (h : XF t n f p ns s) (e : ∀ k, k ≤ 7 → s2 k = s k) : XF t n f p ns s2 := by
  obtain ⟨x1, x2, x3, x4, x5, x6⟩ := h
  have z : ∀ j, zz s2 1 j = zz s 1 j := fun j => zz_of (e 1 (by decide)) j
  exact ⟨x1.keep e, x2, (z 10).trans x3, (z 11).trans x4, (z 6).trans x5, NT3.keep x6 e⟩
theorem XAt.keep {t : Nat → Int} {n : Nat} {ns : List (List Int)} {i : Nat} {s s2 : aZ} (h : XAt t n ns i s) (e : ∀ k, k ≤ 7 → s2 k = s k) : XAt t n ns i s2 := ⟨fun q => (h.1 q).keep e, fun q => (h.2 q).keep e⟩
theorem XAt.k0 {t : Nat → Int} {n : Nat} {ns : List (List Int)} {i : Nat} {s : aZ} (h : XAt t n ns i s) (h0 : ftT t n i ≠ 0) : zz s 1 6 = 0 := (h.2 h0).2.2.2.2.1
theorem XAt.k6 {t : Nat → Int} {n : Nat} {ns : List (List Int)} {i : Nat} {s : aZ} (h : XAt t n ns i s) (h0 : ftT t n i = 0) : zz s 1 6 = kdT t n i := (h.1 h0).2.2.2.2.1
theorem XFt.k0 {t : Nat → Int} {n : Nat} {ns : List (List Int)} {f : Int} {i : Nat} {s : aZ} (h : XFt t n ns f i s) : zz s 1 6 = 0 := h.2.2.2.2.1
/-- how many a code takes -/
def arT (ta : List Int) (c : Int) : Nat := if c < 0 then 0 else (ta.getD c.toNat 0).toNat
/-- new nodes: each speaks for itself, names what came before, has as many parts as its code takes -/
def NwO (ta : List Int) (P0 P2 : Nat) (s : aZ) : Prop := ∀ k, P0 ≤ k → k < P2 → zz s 21 k = k ∧ zz s 19 k < k ∧ zz s 20 k < k ∧ -1000000 ≤ zz s 18 k ∧ (zz s 18 k ≠ -1000000 → (0 ≤ zz s 19 k ↔ 1 ≤ arT ta (zz s 18 k)) ∧ (0 ≤ zz s 20 k ↔ 2 ≤ arT ta (zz s 18 k))) ∧ (zz s 18 k = -1000000 → zz s 19 k < 0 ∧ zz s 20 k < 0)
theorem NwO.nil (ta : List Int) (P : Nat) (s : aZ) : NwO ta P P s := fun k h1 h2 => by omega
theorem NwO.keep {ta : List Int} {P0 P2 : Nat} {s s2 : aZ} (h : NwO ta P0 P2 s) (e : ∀ k j, 18 ≤ k → k ≤ 21 → P0 ≤ j → j < P2 → zz s2 k j = zz s k j) : NwO ta P0 P2 s2 := fun k h1 h2 => by
  rw [e 21 k (by decide) (by decide) h1 h2, e 19 k (by decide) (by decide) h1 h2, e 20 k (by decide) (by decide) h1 h2, e 18 k (by decide) (by decide) h1 h2]
  exact h k h1 h2
theorem NwO.cat {ta : List Int} {P0 P P2 : Nat} {s : aZ} (h : NwO ta P0 P s) (g : NwO ta P P2 s) : NwO ta P0 P2 s := fun k h1 h2 => by
  by_cases e : k < P
  · exact h k h1 e
  · exact g k (by omega) h2
theorem NwO.one {ta : List Int} {P : Nat} {s : aZ} {c x y : Int} (h : zz s 18 P = c ∧ zz s 19 P = x ∧ zz s 20 P = y ∧ zz s 21 P = P) (hx : x < P) (hy : y < P) (hc : -1000000 ≤ c) (ha : c ≠ -1000000 → (0 ≤ x ↔ 1 ≤ arT ta c) ∧ (0 ≤ y ↔ 2 ≤ arT ta c)) (hu : c = -1000000 → x < 0 ∧ y < 0 := by omega) : NwO ta P (P + 1) s := fun k h1 h2 => by
  have e : k = P := by omega
  subst e
  rw [h.1, h.2.1, h.2.2.1, h.2.2.2]
  exact ⟨rfl, hx, hy, hc, ha, hu⟩
theorem arT_n {ta : List Int} {c : Int} (h : c < 0) : arT ta c = 0 := if_pos h
/-- a name that is known and takes as many -/
def gdN (t : Nat → Int) (n : Nat) (tn : List (List Int)) (ta : List Int) (i c : Nat) : Bool := decide (0 ≤ fd tn (nmW t n (stT t n i)) tn.length) && decide (ta.getD (fd tn (nmW t n (stT t n i)) tn.length).toNat 0 = (c : Int))
/-- a wrong name in a type -/
def tyBad (t : Nat → Int) (n : Nat) (tn : List (List Int)) (ta : List Int) : aT → Bool
  | .leaf _ => false
  | .branch m a b => (decide (m % 4 = 1) && !gdN t n tn ta (m / 4) (argN a)) || tyBad t n tn ta a || tyBad t n tn ta b
def bF (b : Bool) (w : Int) : Int := if b = true then 1 else w
theorem bF_or (a b : Bool) (w : Int) : bF b (bF a w) = bF (a || b) w := by cases a <;> cases b <;> rfl
/-- node w of the pool holds this type, all its nodes in [lo, hi); of a row: two slots hold it -/
def PI (t : Nat → Int) (n : Nat) (ns tn : List (List Int)) (ta : List Int) (s : aZ) (lo hi : Nat) : aT → Bool → Int → Int → Prop
  | .leaf q, false, w, _ => (lo ≤ w ∧ w < hi) ∧ zz s 21 w.toNat = w ∧ zz s 22 w.toNat = 1 ∧ zz s 23 w.toNat = 1 ∧ q.1 = 0 ∧ zz s 18 w.toNat = -1000 - vT t n ns q.2 ∧ zz s 19 w.toNat = -1 ∧ zz s 20 w.toNat = -1
  | .leaf q, true, x, y => q.1 = 1 ∧ x = -1 ∧ y = -1
  | .branch m a b, false, w, _ => (lo ≤ w ∧ w < hi) ∧ zz s 21 w.toNat = w ∧ zz s 22 w.toNat = tyW (.branch m a b) ∧ zz s 23 w.toNat = tyH (.branch m a b) ∧ ((m = 3 ∧ zz s 18 w.toNat = 2 ∧ PI t n ns tn ta s lo hi a false (zz s 19 w.toNat) 0 ∧ PI t n ns tn ta s lo hi b false (zz s 20 w.toNat) 0) ∨ (m % 4 = 1 ∧ b = .leaf (1, 0) ∧ gdN t n tn ta (m / 4) (argN a) = true ∧ zz s 18 w.toNat = fd tn (nmW t n (stT t n (m / 4))) tn.length ∧ PI t n ns tn ta s lo hi a true (zz s 19 w.toNat) (zz s 20 w.toNat)) ∨ (m % 4 = 1 ∧ b = .leaf (1, 0) ∧ gdN t n tn ta (m / 4) (argN a) = false ∧ zz s 18 w.toNat = -1000000 ∧ zz s 19 w.toNat = -1 ∧ zz s 20 w.toNat = -1))
  | .branch m a r, true, x, y => m = 2 ∧ PI t n ns tn ta s lo hi a false x 0 ∧ PI t n ns tn ta s lo hi r true y (-1)
section
variable {t : Nat → Int} {n : Nat} {ns tn : List (List Int)} {ta : List Int}
theorem PI.node {s : aZ} {lo hi : Nat} {T : aT} {w y : Int} (h : PI t n ns tn ta s lo hi T false w y) : (lo ≤ w ∧ w < hi) ∧ zz s 21 w.toNat = w ∧ zz s 22 w.toNat = tyW T ∧ zz s 23 w.toNat = tyH T ∧ 1 ≤ tyW T := by
  cases T with
  | leaf q =>
    obtain ⟨a1, a2, a3, a4, a5, a6⟩ := h
    have e1 : tyW (.leaf q) = 1 := by rw [tyW_l, if_neg (by omega)]
    have e2 : tyH (.leaf q) = 1 := by rw [tyH_l, if_neg (by omega)]
    rw [e1, e2]
    exact ⟨a1, a2, a3, a4, Nat.le_refl _⟩
  | branch m a b =>
    obtain ⟨a1, a2, a3, a4, a5⟩ := h
    refine ⟨a1, a2, a3, a4, ?_⟩
    rw [tyW_b, if_neg (by omega)]
    omega
theorem PI.keep {s s2 : aZ} {lo hi lo2 hi2 : Nat} (he : ∀ k j, 18 ≤ k → k ≤ 23 → lo ≤ j → j < hi → zz s2 k j = zz s k j) (h1 : lo2 ≤ lo) (h2 : hi ≤ hi2) : ∀ (T : aT) (b : Bool) (w y : Int), PI t n ns tn ta s lo hi T b w y → PI t n ns tn ta s2 lo2 hi2 T b w y := by
  intro T
  induction T with
  | leaf q =>
    intro b w y h
    cases b with
    | true => exact h
    | false =>
      obtain ⟨a1, a2, a3, a4, a5, a6, a7, a8⟩ := h
      have z : ∀ k, 18 ≤ k → k ≤ 23 → zz s2 k w.toNat = zz s k w.toNat := fun k g1 g2 => he k w.toNat g1 g2 (by omega) (by omega)
      exact ⟨⟨by omega, by omega⟩, (z 21 (by decide) (by decide)).trans a2, (z 22 (by decide) (by decide)).trans a3, (z 23 (by decide) (by decide)).trans a4, a5, (z 18 (by decide) (by decide)).trans a6, (z 19 (by decide) (by decide)).trans a7, (z 20 (by decide) (by decide)).trans a8⟩
  | branch m a r iha ihr =>
    intro b w y h
    cases b with
    | true =>
      obtain ⟨m2, c1, c2⟩ := h
      exact ⟨m2, iha _ _ _ c1, ihr _ _ _ c2⟩
    | false =>
      obtain ⟨a1, a2, a3, a4, a5⟩ := h
      have z : ∀ k, 18 ≤ k → k ≤ 23 → zz s2 k w.toNat = zz s k w.toNat := fun k g1 g2 => he k w.toNat g1 g2 (by omega) (by omega)
      have z18 := z 18 (by decide) (by decide)
      have z19 := z 19 (by decide) (by decide)
      have z20 := z 20 (by decide) (by decide)
      refine ⟨⟨by omega, by omega⟩, (z 21 (by decide) (by decide)).trans a2, (z 22 (by decide) (by decide)).trans a3, (z 23 (by decide) (by decide)).trans a4, ?_⟩
      rw [z18, z19, z20]
      rcases a5 with ⟨b1, b2, b3, b4⟩ | ⟨b1, b0, b2, b3, b4⟩ | ⟨b1, b0, b2, b3, b4, b5⟩
      · exact Or.inl ⟨b1, b2, iha _ _ _ b3, ihr _ _ _ b4⟩
      · exact Or.inr (Or.inl ⟨b1, b0, b2, b3, iha _ _ _ b4⟩)
      · exact Or.inr (Or.inr ⟨b1, b0, b2, b3, b4, b5⟩)
/-- too large a written type -/
def LgT (T : aT) : Prop := 40 < tyW T ∨ 12 < tyH T
/-- what is told of large types while one is read; top: the whole has been looked at -/
def LgC (top : Prop) (T : aT) (s s2 : aZ) : Prop := (zz s 36 5 ≠ 0 → zz s2 36 5 ≠ 0) ∧ (zz s2 36 5 ≠ 0 → zz s 36 5 ≠ 0 ∨ LgT T) ∧ (top → LgT T → zz s2 36 5 ≠ 0)
theorem LgC.same {T : aT} {s s2 : aZ} (e : zz s2 36 5 = zz s 36 5) : LgC False T s s2 := ⟨fun c => by rw [e]; exact c, fun c => Or.inl (by rw [← e]; exact c), fun c => c.elim⟩
theorem LgC.cp {top top2 : Prop} {T : aT} {s s1 s2 s3 : aZ} (h : LgC top T s1 s2) (e1 : zz s1 36 5 = zz s 36 5) (e2 : zz s3 36 5 = zz s2 36 5) (ht : top2 → top) : LgC top2 T s s3 := by
  unfold LgC at *
  rw [e1] at h
  rw [e2]
  exact ⟨h.1, h.2.1, fun c => h.2.2 (ht c)⟩
/-- what a read type comes to with the reader: P nodes before, wc types wait; G: there is room -/
def XPo (t : Nat → Int) (n : Nat) (ns tn : List (List Int)) (ta : List Int) (top G : Prop) (P0 wc K : Nat) (r : (Int × Nat) ⊕ (aT × Nat)) (B : aH) (s : aZ) (l : aZL) (q : aR) : Prop := ∃ (s2 : aZ) (w P2 : Nat), q = (.inl (some (iv (w : Int))), mkH B s2 l) ∧ FrY s s2 ∧ P0 ≤ P2 ∧ P2 ≤ 17000 ∧ w < P2 ∧ PS P2 s2 ∧ zz s2 36 4 = (wc : Nat) ∧ WtF wc s s2 ∧ (top → zz s2 36 5 = 0 ∨ zz s2 36 5 = 1) ∧ ((∃ T j, r = .inr (T, j) ∧ XAt t n ns j s2 ∧ (G → zz s2 17 11 = zz s 17 11 ∧ P2 + K ≤ j + 10999 ∧ PFr P0 s s2 ∧ PI t n ns tn ta s2 P0 P2 T false w 0 ∧ zz s2 36 6 = bF (tyBad t n tn ta T) (zz s 36 6) ∧ LgC top T s s2 ∧ NwO ta P0 P2 s2)) ∨ (∃ f j, r = .inl (f, j) ∧ XFt t n ns f j s2))
end
/-- how far a type reaches -/
theorem pty_le (t : Nat → Int) (n : Nat) : ∀ (N m dep i : Nat) (res : (Int × Nat) ⊕ (aT × Nat)), m ≤ 3 → (m = 2 → kdT t n i = 4) → i ≤ 6000 → pty t n N m dep i = some res → (∀ T j, res = .inr (T, j) → i + tyW T ≤ j ∧ j ≤ 6000) ∧ (∀ f j, res = .inl (f, j) → i ≤ j ∧ j ≤ 6000) := by
  intro N
  induction N with
  | zero => intro m dep i res _ _ _ h; exact absurd (show (none : aPr) = some res from h) (by intro h; cases h)
  | succ N ih =>
    intro m dep i res hm h2 hi h
    have bad : ∀ (f : Int) (q : Nat), i ≤ q → q ≤ 6000 → res = .inl (f, q) → (∀ T j, res = .inr (T, j) → i + tyW T ≤ j ∧ j ≤ 6000) ∧ (∀ f j, res = .inl (f, j) → i ≤ j ∧ j ≤ 6000) := by
      rintro f q h1 h2 rfl
      refine ⟨fun T j h => (by cases h), fun f j h => ?_⟩
      cases h
      exact ⟨h1, h2⟩
    have good : ∀ (T : aT) (q : Nat), i + tyW T ≤ q → q ≤ 6000 → res = .inr (T, q) → (∀ T j, res = .inr (T, j) → i + tyW T ≤ j ∧ j ≤ 6000) ∧ (∀ f j, res = .inl (f, j) → i ≤ j ∧ j ≤ 6000) := by
      rintro T q h1 h2 rfl
      refine ⟨fun T j h => ?_, fun f j h => (by cases h)⟩
      cases h
      exact ⟨h1, h2⟩
    have nx : ∀ q, ftT t n q = 0 → kdT t n q ≠ 0 → q < 6000 := fun q h0 hk => by
      have := kd_rng h0
      exact (ft0 h0 (by omega)).1
    rcases (show m = 0 ∨ m = 1 ∨ m = 2 ∨ m = 3 by omega) with rfl | rfl | rfl | rfl
    · rw [pty_0] at h
      rcases pLk_some h with ⟨c, e⟩ | ⟨h0, h⟩
      · exact bad _ i (Nat.le_refl _) hi e
      rcases pBd_some h with ⟨e, q1, q2⟩ | ⟨a, j, q1, q2⟩
      · have := (ih 1 dep i _ (by decide) (fun c => absurd c (by decide)) hi q1).2 e.1 e.2 rfl
        exact bad e.1 e.2 this.1 this.2 q2
      have k1 := (ih 1 dep i _ (by decide) (fun c => absurd c (by decide)) hi q1).1 a j rfl
      unfold pA at q2
      rcases pLk_some q2 with ⟨c, e⟩ | ⟨g0, q2⟩
      · exact bad _ j (by omega) k1.2 e
      by_cases k8 : kdT t n j = 8
      · rw [if_pos k8] at q2
        have hj := nx j g0 (by omega)
        rcases pBd_some q2 with ⟨e, r1, r2⟩ | ⟨b, j2, r1, r2⟩
        · have := (ih 0 dep (j + 1) _ (by decide) (fun c => absurd c (by decide)) (by omega) r1).2 e.1 e.2 rfl
          exact bad e.1 e.2 (by omega) this.2 r2
        · have := (ih 0 dep (j + 1) _ (by decide) (fun c => absurd c (by decide)) (by omega) r1).1 b j2 rfl
          cases r2
          refine good (.branch 3 a b) j2 ?_ this.2 rfl
          rw [tyW_b, if_neg (by decide)]
          omega
      · rw [if_neg k8] at q2
        cases q2
        exact good a j k1.1 k1.2 rfl
    · rw [pty_1] at h
      rcases pLk_some h with ⟨c, e⟩ | ⟨h0, h⟩
      · exact bad _ i (Nat.le_refl _) hi e
      by_cases k4 : kdT t n i = 4
      · rw [if_pos k4] at h
        exact ih 2 dep i res (by decide) (fun _ => k4) hi h
      rw [if_neg k4] at h
      by_cases k2 : kdT t n i = 2
      · rw [if_pos k2] at h
        have := nx i h0 (by omega)
        cases h
        refine good (.leaf (0, i)) (i + 1) ?_ (by omega) rfl
        rw [tyW_l, if_neg (show ¬ ((0 : Nat) = 1) by decide)]
        exact Nat.le_refl _
      rw [if_neg k2] at h
      by_cases k1 : kdT t n i = 1
      · rw [if_pos k1] at h
        have := nx i h0 (by omega)
        rcases pBd_some h with ⟨e, r1, r2⟩ | ⟨b, j2, r1, r2⟩
        · have := (ih 3 dep (i + 1) _ (by decide) (fun c => absurd c (by decide)) (by omega) r1).2 e.1 e.2 rfl
          exact bad e.1 e.2 (by omega) this.2 r2
        · have := (ih 3 dep (i + 1) _ (by decide) (fun c => absurd c (by decide)) (by omega) r1).1 b j2 rfl
          cases r2
          refine good (.branch (4 * i + 1) b (.leaf (1, 0))) j2 ?_ this.2 rfl
          rw [tyW_b, if_neg (by omega), tyW_l, if_pos rfl]
          omega
      · rw [if_neg k1] at h
        cases h
        exact bad 2 i (Nat.le_refl _) hi rfl
    · rw [pty_2] at h
      rcases pLk_some h with ⟨c, e⟩ | ⟨h0, h⟩
      · exact bad _ i (Nat.le_refl _) hi e
      have h4 := h2 rfl
      have hi2 := nx i h0 (by omega)
      rcases pLk_some h with ⟨c, e⟩ | ⟨g0, h⟩
      · exact bad _ (i + 1) (by omega) (by omega) e
      by_cases h40 : 40 ≤ dep
      · rw [if_pos h40] at h
        cases h
        exact bad 8 (i + 1) (by omega) (by omega) rfl
      rw [if_neg h40] at h
      rcases pBd_some h with ⟨e, r1, r2⟩ | ⟨a, j, r1, r2⟩
      · have := (ih 0 (dep + 1) (i + 1) _ (by decide) (fun c => absurd c (by decide)) (by omega) r1).2 e.1 e.2 rfl
        exact bad e.1 e.2 (by omega) this.2 r2
      · have k1 := (ih 0 (dep + 1) (i + 1) _ (by decide) (fun c => absurd c (by decide)) (by omega) r1).1 a j rfl
        rcases pLk_some r2 with ⟨c, e⟩ | ⟨j0, r2⟩
        · exact bad _ j (by omega) k1.2 e
        by_cases k5 : kdT t n j = 5
        · rw [if_pos k5] at r2
          have := nx j j0 (by omega)
          cases r2
          exact good a (j + 1) (by omega) (by omega) rfl
        · rw [if_neg k5] at r2
          cases r2
          exact bad 2 j (by omega) k1.2 rfl
    · rw [pty_3] at h
      rcases pLk_some h with ⟨c, e⟩ | ⟨h0, h⟩
      · exact bad _ i (Nat.le_refl _) hi e
      by_cases k1 : kdT t n i = 1
      · rw [if_pos k1] at h
        have := nx i h0 (by omega)
        rcases pBd_some h with ⟨e, r1, r2⟩ | ⟨b, j2, r1, r2⟩
        · have := (ih 3 dep (i + 1) _ (by decide) (fun c => absurd c (by decide)) (by omega) r1).2 e.1 e.2 rfl
          exact bad e.1 e.2 (by omega) this.2 r2
        · have := (ih 3 dep (i + 1) _ (by decide) (fun c => absurd c (by decide)) (by omega) r1).1 b j2 rfl
          cases r2
          refine good (.branch 2 (.branch (4 * i + 1) (.leaf (1, 0)) (.leaf (1, 0))) b) j2 ?_ this.2 rfl
          rw [tyW_b, if_pos rfl, tyW_b, if_neg (by omega), tyW_l, if_pos rfl]
          omega
      rw [if_neg k1] at h
      by_cases k2 : kdT t n i = 2
      · rw [if_pos k2] at h
        have := nx i h0 (by omega)
        rcases pBd_some h with ⟨e, r1, r2⟩ | ⟨b, j2, r1, r2⟩
        · have := (ih 3 dep (i + 1) _ (by decide) (fun c => absurd c (by decide)) (by omega) r1).2 e.1 e.2 rfl
          exact bad e.1 e.2 (by omega) this.2 r2
        · have := (ih 3 dep (i + 1) _ (by decide) (fun c => absurd c (by decide)) (by omega) r1).1 b j2 rfl
          cases r2
          refine good (.branch 2 (.leaf (0, i)) b) j2 ?_ this.2 rfl
          rw [tyW_b, if_pos rfl, tyW_l, if_neg (show ¬ ((0 : Nat) = 1) by decide)]
          omega
      rw [if_neg k2] at h
      by_cases k4 : kdT t n i = 4
      · rw [if_pos k4] at h
        rcases pBd_some h with ⟨e, r1, r2⟩ | ⟨a, j, r1, r2⟩
        · have := (ih 2 dep i _ (by decide) (fun _ => k4) hi r1).2 e.1 e.2 rfl
          exact bad e.1 e.2 (by omega) this.2 r2
        · have p1 := (ih 2 dep i _ (by decide) (fun _ => k4) hi r1).1 a j rfl
          rcases pBd_some r2 with ⟨e, r3, r4⟩ | ⟨b, j2, r3, r4⟩
          · have := (ih 3 dep j _ (by decide) (fun c => absurd c (by decide)) p1.2 r3).2 e.1 e.2 rfl
            exact bad e.1 e.2 (by omega) this.2 r4
          · have := (ih 3 dep j _ (by decide) (fun c => absurd c (by decide)) p1.2 r3).1 b j2 rfl
            cases r4
            refine good (.branch 2 a b) j2 ?_ this.2 rfl
            rw [tyW_b, if_pos rfl]
            omega
      · rw [if_neg k4] at h
        cases h
        refine good (.leaf (1, 0)) i ?_ hi rfl
        rw [tyW_l, if_pos rfl]
        omega
theorem pty_pos (t : Nat → Int) (n : Nat) : ∀ (N m dep i : Nat) (T : aT) (j : Nat), m ≤ 2 → pty t n N m dep i = some (.inr (T, j)) → 1 ≤ tyW T := by
  intro N
  induction N with
  | zero => intro m dep i T j _ h; exact absurd (show (none : aPr) = some _ from h) (by intro h; cases h)
  | succ N ih =>
    intro m dep i T j hm h
    rcases (show m = 0 ∨ m = 1 ∨ m = 2 by omega) with rfl | rfl | rfl
    · rw [pty_0] at h
      rcases pLk_some h with ⟨c, e⟩ | ⟨h0, h⟩
      · cases e
      rcases pBd_some h with ⟨e, q1, q2⟩ | ⟨a, j1, q1, q2⟩
      · cases q2
      unfold pA at q2
      rcases pLk_some q2 with ⟨c, e⟩ | ⟨g0, q2⟩
      · cases e
      by_cases k8 : kdT t n j1 = 8
      · rw [if_pos k8] at q2
        rcases pBd_some q2 with ⟨e, r1, r2⟩ | ⟨b, j2, r1, r2⟩
        · cases r2
        · cases r2
          rw [tyW_b, if_neg (by decide)]
          omega
      · rw [if_neg k8] at q2
        cases q2
        exact ih 1 dep i _ _ (by decide) q1
    · rw [pty_1] at h
      rcases pLk_some h with ⟨c, e⟩ | ⟨h0, h⟩
      · cases e
      by_cases k4 : kdT t n i = 4
      · rw [if_pos k4] at h
        exact ih 2 dep i T j (by decide) h
      rw [if_neg k4] at h
      by_cases k2 : kdT t n i = 2
      · rw [if_pos k2] at h
        cases h
        rw [tyW_l, if_neg (show ¬ ((0 : Nat) = 1) by decide)]
        exact Nat.le_refl _
      rw [if_neg k2] at h
      by_cases k1 : kdT t n i = 1
      · rw [if_pos k1] at h
        rcases pBd_some h with ⟨e, r1, r2⟩ | ⟨b, j2, r1, r2⟩
        · cases r2
        · cases r2
          rw [tyW_b, if_neg (by omega)]
          omega
      · rw [if_neg k1] at h
        cases h
    · rw [pty_2] at h
      rcases pLk_some h with ⟨c, e⟩ | ⟨h0, h⟩
      · cases e
      rcases pLk_some h with ⟨c, e⟩ | ⟨g0, h⟩
      · cases e
      by_cases h40 : 40 ≤ dep
      · rw [if_pos h40] at h
        cases h
      rw [if_neg h40] at h
      rcases pBd_some h with ⟨e, r1, r2⟩ | ⟨a, j1, r1, r2⟩
      · cases r2
      · rcases pLk_some r2 with ⟨c, e⟩ | ⟨j0, r2⟩
        · cases e
        by_cases k5 : kdT t n j1 = 5
        · rw [if_pos k5] at r2
          cases r2
          exact ih 0 (dep + 1) (i + 1) _ _ (by decide) r1
        · rw [if_neg k5] at r2
          cases r2
