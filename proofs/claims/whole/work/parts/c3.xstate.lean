/-! THE READER'S STATE WHILE IT READS A TERM -/
/-- the types of the variables, the innermost first -/
def scT (s : aZ) : Nat → List Nat
  | 0 => []
  | k + 1 => (zz s 42 k).toNat :: scT s k
/-- the tokens of the variables, the innermost first -/
def XSc (t : Nat → Int) (n : Nat) (s : aZ) : List Nat → Nat → Prop
  | [], k => k = 0
  | _ :: _, 0 => False
  | e :: es, k + 1 => (tkN t n 6001 e ∧ zz s 40 k = stT t n e ∧ zz s 41 k = tkE t n (stT t n e)) ∧ XSc t n s es k
theorem scT.keep {s s2 : aZ} : ∀ k, (∀ j, j < k → zz s2 42 j = zz s 42 j) → scT s2 k = scT s k := by
  intro k
  induction k with
  | zero => intro _; rfl
  | succ k ih =>
    intro h
    show (zz s2 42 k).toNat :: scT s2 k = (zz s 42 k).toNat :: scT s k
    rw [h k (Nat.lt_succ_self _), ih (fun j hj => h j (by omega))]
theorem XSc.keep {t : Nat → Int} {n : Nat} {s s2 : aZ} : ∀ (es : List Nat) (k : Nat), (∀ j, j < k → zz s2 40 j = zz s 40 j ∧ zz s2 41 j = zz s 41 j) → XSc t n s es k → XSc t n s2 es k := by
  intro es
  induction es with
  | nil => intro k _ h; exact h
  | cons e es ih =>
    intro k he h
    cases k with
    | zero => exact h
    | succ k =>
      obtain ⟨⟨h1, h2, h3⟩, h4⟩ := h
      obtain ⟨e1, e2⟩ := he k (Nat.lt_succ_self _)
      exact ⟨⟨h1, e1.trans h2, e2.trans h3⟩, ih k (fun j hj => he j (by omega)) h4⟩
theorem XSc.len {t : Nat → Int} {n : Nat} {s : aZ} : ∀ (es : List Nat) (k : Nat), XSc t n s es k → es.length = k := by
  intro es
  induction es with
  | nil => intro k h; exact h.symm
  | cons e es ih =>
    intro k h
    cases k with
    | zero => exact absurd h (by intro h; exact h)
    | succ k => rw [List.length_cons, ih k h.2]
/-- the pool has P nodes, the tree c, the scope sc, wc nodes wait -/
def XRs (tn : List (List Int)) (ta : List Int) (cn : List (List Int)) (ct : List aT) (P c sc wc : Nat) (s : aZ) : Prop := PS P s ∧ P ≤ 17000 ∧ XTy tn ta s ∧ XCo cn ct s ∧ (zz s 45 6 = (c : Nat) ∧ 1 ≤ c ∧ c ≤ 501) ∧ (zz s 39 3 = (sc : Nat) ∧ sc ≤ 500) ∧ (zz s 38 8 = (wc : Nat) ∧ wc ≤ 3001) ∧ (zz s 36 4 = 0 ∧ zz s 50 0 = 0) ∧ (∀ j, j < c → (0 ≤ zz s 47 j ∧ zz s 47 j < c) ∧ (0 ≤ zz s 48 j ∧ zz s 48 j < c) ∧ (0 ≤ zz s 49 j ∧ zz s 49 j < P)) ∧ (∀ j, j < sc → 0 ≤ zz s 42 j ∧ zz s 42 j < P) ∧ (∀ j, j < wc → 0 ≤ zz s 43 j ∧ zz s 43 j < c)
/-- what reading a term may touch of the reader, and what it leaves -/
def XFr (c sc wc : Nat) (s s2 : aZ) : Prop := (∀ k, (k = 0 ∨ k = 2 ∨ (8 ≤ k ∧ k ≤ 16) ∨ (25 ≤ k ∧ k ≤ 33) ∨ 51 ≤ k) → s2 k = s k) ∧ (∀ j, j ∉ [4, 6, 7, 8, 9, 10, 11] → zz s2 1 j = zz s 1 j) ∧ zz s2 17 9 = zz s 17 9 ∧ (∀ k j, 46 ≤ k → k ≤ 50 → j < c → zz s2 k j = zz s k j) ∧ (∀ k j, 40 ≤ k → k ≤ 42 → j < sc → zz s2 k j = zz s k j) ∧ (∀ k j, 43 ≤ k → k ≤ 44 → j < wc → zz s2 k j = zz s k j)
theorem XFr.rf (c sc wc : Nat) (s : aZ) : XFr c sc wc s s := ⟨fun _ _ => rfl, fun _ _ => rfl, rfl, fun _ _ _ _ _ => rfl, fun _ _ _ _ _ => rfl, fun _ _ _ _ _ => rfl⟩
theorem XFr.tr {c sc wc c2 sc2 wc2 : Nat} {s1 s2 s3 : aZ} (a : XFr c sc wc s1 s2) (b : XFr c2 sc2 wc2 s2 s3) (h : c ≤ c2 ∧ sc ≤ sc2 ∧ wc ≤ wc2) : XFr c sc wc s1 s3 := ⟨fun k hk => (b.1 k hk).trans (a.1 k hk), fun j hj => (b.2.1 j hj).trans (a.2.1 j hj), b.2.2.1.trans a.2.2.1, fun k j h1 h2 hj => (b.2.2.2.1 k j h1 h2 (by omega)).trans (a.2.2.2.1 k j h1 h2 hj), fun k j h1 h2 hj => (b.2.2.2.2.1 k j h1 h2 (by omega)).trans (a.2.2.2.2.1 k j h1 h2 hj), fun k j h1 h2 hj => (b.2.2.2.2.2 k j h1 h2 (by omega)).trans (a.2.2.2.2.2 k j h1 h2 hj)⟩
theorem XFrr : ∀ {a b c : Nat}, a ≤ a ∧ b ≤ b ∧ c ≤ c := ⟨Nat.le_refl _, Nat.le_refl _, Nat.le_refl _⟩
/-- only these are touched: text, pool, constants' rows, the reader of types -/
def XLo (s s2 : aZ) : Prop := (∀ k, (k = 0 ∨ k = 2 ∨ (8 ≤ k ∧ k ≤ 16) ∨ (25 ≤ k ∧ k ≤ 33) ∨ 38 ≤ k) → s2 k = s k) ∧ (∀ j, j ∉ [4, 6, 7, 8, 9, 10, 11] → zz s2 1 j = zz s 1 j) ∧ zz s2 17 9 = zz s 17 9 ∧ zz s2 36 4 = zz s 36 4
theorem XLo.tr {s1 s2 s3 : aZ} (a : XLo s1 s2) (b : XLo s2 s3) : XLo s1 s3 := ⟨fun k hk => (b.1 k hk).trans (a.1 k hk), fun j hj => (b.2.1 j hj).trans (a.2.1 j hj), b.2.2.1.trans a.2.2.1, b.2.2.2.trans a.2.2.2⟩
theorem XLo.rf (s : aZ) : XLo s s := ⟨fun _ _ => rfl, fun _ _ => rfl, rfl, rfl⟩
theorem XLo.fr {s s2 : aZ} (a : XLo s s2) (c sc wc : Nat) : XFr c sc wc s s2 := ⟨fun k hk => a.1 k (by omega), a.2.1, a.2.2.1, fun k j h1 h2 _ => zz_of (a.1 k (by omega)) j, fun k j h1 h2 _ => zz_of (a.1 k (by omega)) j, fun k j h1 h2 _ => zz_of (a.1 k (by omega)) j⟩
theorem FrA.lo {s s2 : aZ} (a : FrA s s2) : XLo s s2 := ⟨fun k hk => a.1 k (by omega), fun j _ => zz_of (a.1 1 (by decide)) j, a.2, zz_of (a.1 36 (by decide)) 4⟩
theorem FrX.lo {s s2 : aZ} (a : FrX s s2) : XLo s s2 := ⟨fun k hk => a.1 k (by omega) (by omega) (by omega) (by omega) (by omega) (by omega), a.2, zz_of (a.hi 17 (by decide)) 9, zz_of (a.hi 36 (by decide)) 4⟩
theorem FrNt.lo {s s2 : aZ} (a : FrNt s s2) : XLo s s2 := ⟨fun k hk => a.1 k (by omega) (by omega) (by omega), fun j _ => zz_of (a.1 1 (by decide) (by decide) (by decide)) j, a.2 9 (by decide) (by decide), zz_of (a.1 36 (by decide) (by decide) (by decide)) 4⟩
theorem FrY.lo {s s2 : aZ} (a : FrY s s2) (h : zz s2 36 4 = zz s 36 4) : XLo s s2 := ⟨fun k hk => a.1 k (by omega) (by omega) (by omega) (by omega) (by omega) (by omega) (by omega) (by omega) (by omega), a.2.1, a.2.2.1 9 (by decide) (by decide), h⟩
section
variable {tn : List (List Int)} {ta : List Int} {cn : List (List Int)} {ct : List aT}
theorem XRs.lo {P P2 c sc wc : Nat} {s s2 : aZ} (h : XRs tn ta cn ct P c sc wc s) (a : XLo s s2) (hS : PS P2 s2) (hP : P ≤ P2) (hP2 : P2 ≤ 17000) : XRs tn ta cn ct P2 c sc wc s2 := by
  obtain ⟨h1, h2, h3, h4, h5, h6, h7, h8, h9, h10, h11⟩ := h
  have z : ∀ k j, 38 ≤ k → zz s2 k j = zz s k j := fun k j hk => zz_of (a.1 k (by omega)) j
  refine ⟨hS, hP2, h3.fr (fun k k1 k2 => a.1 k (by omega)), h4.fr (fun k k1 k2 => a.1 k (by omega)), ⟨(z 45 6 (by decide)).trans h5.1, h5.2⟩, ⟨(z 39 3 (by decide)).trans h6.1, h6.2⟩, ⟨(z 38 8 (by decide)).trans h7.1, h7.2⟩, ⟨a.2.2.2.trans h8.1, (z 50 0 (by decide)).trans h8.2⟩, fun j hj => ?_, fun j hj => ?_, fun j hj => ?_⟩
  · rw [z 47 j (by decide), z 48 j (by decide), z 49 j (by decide)]
    have := h9 j hj
    exact ⟨this.1, this.2.1, this.2.2.1, by omega⟩
  · rw [z 42 j (by decide)]
    have := h10 j hj
    exact ⟨this.1, by omega⟩
  · rw [z 43 j (by decide)]
    exact h11 j hj
/-- monotone: nodes, faults -/
def XMo (P c P2 c2 : Nat) (s s2 : aZ) : Prop := P ≤ P2 ∧ c ≤ c2 ∧ (zz s 45 7 ≠ 0 → zz s2 45 7 ≠ 0) ∧ (zz s 17 10 = 1 → zz s2 17 10 = 1)
theorem XMo.rf (P c : Nat) (s : aZ) : XMo P c P c s s := ⟨Nat.le_refl _, Nat.le_refl _, id, id⟩
theorem XMo.tr {P c P1 c1 P2 c2 : Nat} {s s1 s2 : aZ} (a : XMo P c P1 c1 s s1) (b : XMo P1 c1 P2 c2 s1 s2) : XMo P c P2 c2 s s2 := ⟨Nat.le_trans a.1 b.1, Nat.le_trans a.2.1 b.2.1, fun h => b.2.2.1 (a.2.2.1 h), fun h => b.2.2.2 (a.2.2.2 h)⟩
/-- a new node of the tree -/
def nwK (s : aZ) (c : Nat) (x a b ty h : Int) : aZ := zu (zu (zu (zu (zu (zu s 46 c x) 47 c a) 48 c b) 49 c ty) 50 c h) 45 6 ((c : Int) + 1)
theorem nwK_at (s : aZ) (c : Nat) (x a b ty h : Int) (hx : inR x) (ha : inR a) (hb : inR b) (ht : inR ty) (hh : inR h) : zz (nwK s c x a b ty h) 46 c = x ∧ zz (nwK s c x a b ty h) 47 c = a ∧ zz (nwK s c x a b ty h) 48 c = b ∧ zz (nwK s c x a b ty h) 49 c = ty ∧ zz (nwK s c x a b ty h) 50 c = h := by
  unfold nwK
  refine ⟨?_, ?_, ?_, ?_, ?_⟩
  · rw [zz_ne _ _ _ _ _ _ (by omega), zz_ne _ _ _ _ _ _ (by omega), zz_ne _ _ _ _ _ _ (by omega), zz_ne _ _ _ _ _ _ (by omega), zz_ne _ _ _ _ _ _ (by omega), zz_same _ _ _ hx]
  · rw [zz_ne _ _ _ _ _ _ (by omega), zz_ne _ _ _ _ _ _ (by omega), zz_ne _ _ _ _ _ _ (by omega), zz_ne _ _ _ _ _ _ (by omega), zz_same _ _ _ ha]
  · rw [zz_ne _ _ _ _ _ _ (by omega), zz_ne _ _ _ _ _ _ (by omega), zz_ne _ _ _ _ _ _ (by omega), zz_same _ _ _ hb]
  · rw [zz_ne _ _ _ _ _ _ (by omega), zz_ne _ _ _ _ _ _ (by omega), zz_same _ _ _ ht]
  · rw [zz_ne _ _ _ _ _ _ (by omega), zz_same _ _ _ hh]
theorem nwK_ne (s : aZ) (c : Nat) (x a b ty h : Int) (k j : Nat) (hk : (46 ≤ k ∧ k ≤ 50 ∧ j ≠ c) ∨ ((k < 46 ∨ 50 < k) ∧ (k ≠ 45 ∨ j ≠ 6))) : zz (nwK s c x a b ty h) k j = zz s k j := by
  unfold nwK
  rw [zz_ne _ _ _ _ _ _ (by omega), zz_ne _ _ _ _ _ _ (by omega), zz_ne _ _ _ _ _ _ (by omega), zz_ne _ _ _ _ _ _ (by omega), zz_ne _ _ _ _ _ _ (by omega), zz_ne _ _ _ _ _ _ (by omega)]
theorem nwK_k (s : aZ) (c : Nat) (x a b ty h : Int) (k : Nat) (hk : k < 45 ∨ 50 < k) : nwK s c x a b ty h k = s k := by
  unfold nwK
  rw [zu_ne _ _ _ _ _ (by omega), zu_ne _ _ _ _ _ (by omega), zu_ne _ _ _ _ _ (by omega), zu_ne _ _ _ _ _ (by omega), zu_ne _ _ _ _ _ (by omega), zu_ne _ _ _ _ _ (by omega)]
/-- a node of the tree is made, or there is no room -/
def XTa (tn : List (List Int)) (ta : List Int) (cn : List (List Int)) (ct : List aT) (P c sc wc : Nat) (x : Int) (a b ty : Nat) (B : aH) (s : aZ) (l : aZL) (q : aR) : Prop := ∃ (s2 : aZ) (w c2 : Nat), q = (.inl (some (iv (w : Int))), mkH B s2 l) ∧ XRs tn ta cn ct P c2 sc wc s2 ∧ XFr c sc wc s s2 ∧ (∀ k, (k < 45 ∨ 50 < k) → s2 k = s k) ∧ w < c2 ∧ c ≤ c2 ∧ (zz s 45 7 ≠ 0 → zz s2 45 7 ≠ 0) ∧ (zz s2 45 7 = 0 → zz s 45 7 = 0 ∧ c2 = c + 1) ∧ (zz s 45 7 = 0 → c < 501 → zz s2 45 7 = 0 ∧ w = c ∧ c2 = c + 1 ∧ zz s2 46 c = x ∧ zz s2 47 c = a ∧ zz s2 48 c = b ∧ zz s2 49 c = ty ∧ (inR (1 + max (zz s 50 a) (zz s 50 b)) → zz s2 50 c = 1 + max (zz s 50 a) (zz s 50 b)))
theorem x_tadd {B : aH} (hB : a_Can B) {d : Nat} (hd : 1 ≤ d) (l : aZL) {P c sc wc : Nat} {s : aZ} (hR : XRs tn ta cn ct P c sc wc s) (x : Int) (hx : inR x) (a b ty : Nat) (ha : a < c) (hb : b < c) (ht : ty < P) : a_W d 81 0 [.ref 45, iv x, iv (a : Int), iv (b : Int), iv (ty : Int)] [] (mkH B s l) (XTa tn ta cn ct P c sc wc x a b ty B s l) := by
  have hRR := hR
  obtain ⟨h1, h2, h3, h4, h5, h6, h7, h8, h9, h10, h11⟩ := hR
  have full : zz s 45 7 ≠ 0 ∨ 501 ≤ c → XTa tn ta cn ct P c sc wc x a b ty B s l (.inl (some (iv 0)), mkH B (zu s 45 7 1) l) := by
    intro hf
    have z : ∀ k j, k ≠ 45 ∨ j ≠ 7 → zz (zu s 45 7 1) k j = zz s k j := fun k j hk => zz_ne _ _ _ _ _ _ (by omega)
    have k45 : ∀ k, k ≠ 45 → (zu s 45 7 1) k = s k := fun k hk => zu_ne _ _ _ _ _ hk
    have o1 : zz (zu s 45 7 1) 45 7 = 1 := zz_same _ _ _ (by decide)
    refine ⟨_, 0, c, rfl, ⟨h1.z (z 17 8 (by omega)) (fun k k1 k2 j => z k j (by omega)), h2, h3.fr (fun k k1 k2 => k45 k (by omega)), h4.fr (fun k k1 k2 => k45 k (by omega)), ⟨(z 45 6 (by omega)).trans h5.1, h5.2⟩, ⟨(z 39 3 (by omega)).trans h6.1, h6.2⟩, ⟨(z 38 8 (by omega)).trans h7.1, h7.2⟩, ⟨(z 36 4 (by omega)).trans h8.1, (z 50 0 (by omega)).trans h8.2⟩, fun j hj => ?_, fun j hj => ?_, fun j hj => ?_⟩, ⟨fun k hk => k45 k (by omega), fun j _ => z 1 j (by omega), z 17 9 (by omega), fun k j k1 k2 _ => z k j (by omega), fun k j k1 k2 _ => z k j (by omega), fun k j k1 k2 _ => z k j (by omega)⟩, fun k hk => k45 k (by omega), by omega, Nat.le_refl _, fun _ => by rw [o1]; decide, fun e => absurd (o1.symm.trans e) (by decide), fun e0 e1 => absurd hf (by omega)⟩
    · rw [z 47 j (by omega), z 48 j (by omega), z 49 j (by omega)]; exact h9 j hj
    · rw [z 42 j (by omega)]; exact h10 j hj
    · rw [z 43 j (by omega)]; exact h11 j hj
  have e6 : (zz s 45 6).toNat = c := by omega
  refine w81_0 hB (by omega) x _ _ _ s l ⟨fun c0 => full (Or.inl c0), fun c0 => ⟨fun c1 => ⟨⟨by omega, by omega⟩, ⟨by omega, by omega⟩, ⟨by omega, by omega⟩, ?_⟩, fun c1 => full (Or.inr (by omega))⟩⟩
  rw [e6, natc, natc, h5.1, show (c : Int) + 1 - 1 = (c : Int) by omega]
  have es : zu (zu (zu (zu (zu (zu s 46 c x) 47 c (a : Int)) 48 c (b : Int)) 49 c (ty : Int)) 50 c (1 + max (zz s 50 a) (zz s 50 b))) 45 6 ((c : Int) + 1) = nwK s c x (a : Int) (b : Int) (ty : Int) (1 + max (zz s 50 a) (zz s 50 b)) := rfl
  rw [es]
  have z := fun k j h => nwK_ne s c x (a : Int) (b : Int) (ty : Int) (1 + max (zz s 50 a) (zz s 50 b)) k j h
  have k45 := fun k h => nwK_k s c x (a : Int) (b : Int) (ty : Int) (1 + max (zz s 50 a) (zz s 50 b)) k h
  have at47 : zz (nwK s c x (a : Int) (b : Int) (ty : Int) (1 + max (zz s 50 a) (zz s 50 b))) 47 c = (a : Int) := by
    unfold nwK
    rw [zz_ne _ _ _ _ _ _ (by omega), zz_ne _ _ _ _ _ _ (by omega), zz_ne _ _ _ _ _ _ (by omega), zz_ne _ _ _ _ _ _ (by omega), zz_same _ _ _ ⟨by omega, by omega⟩]
  have at48 : zz (nwK s c x (a : Int) (b : Int) (ty : Int) (1 + max (zz s 50 a) (zz s 50 b))) 48 c = (b : Int) := by
    unfold nwK
    rw [zz_ne _ _ _ _ _ _ (by omega), zz_ne _ _ _ _ _ _ (by omega), zz_ne _ _ _ _ _ _ (by omega), zz_same _ _ _ ⟨by omega, by omega⟩]
  have at49 : zz (nwK s c x (a : Int) (b : Int) (ty : Int) (1 + max (zz s 50 a) (zz s 50 b))) 49 c = (ty : Int) := by
    unfold nwK
    rw [zz_ne _ _ _ _ _ _ (by omega), zz_ne _ _ _ _ _ _ (by omega), zz_same _ _ _ ⟨by omega, by omega⟩]
  have at46 : zz (nwK s c x (a : Int) (b : Int) (ty : Int) (1 + max (zz s 50 a) (zz s 50 b))) 46 c = x := by
    unfold nwK
    rw [zz_ne _ _ _ _ _ _ (by omega), zz_ne _ _ _ _ _ _ (by omega), zz_ne _ _ _ _ _ _ (by omega), zz_ne _ _ _ _ _ _ (by omega), zz_ne _ _ _ _ _ _ (by omega), zz_same _ _ _ hx]
  have at50 : inR (1 + max (zz s 50 a) (zz s 50 b)) → zz (nwK s c x (a : Int) (b : Int) (ty : Int) (1 + max (zz s 50 a) (zz s 50 b))) 50 c = 1 + max (zz s 50 a) (zz s 50 b) := fun h => by
    unfold nwK
    rw [zz_ne _ _ _ _ _ _ (by omega), zz_same _ _ _ h]
  have at6 : zz (nwK s c x (a : Int) (b : Int) (ty : Int) (1 + max (zz s 50 a) (zz s 50 b))) 45 6 = ((c + 1 : Nat) : Int) := by
    unfold nwK
    rw [zz_same _ _ _ ⟨by omega, by omega⟩]; rfl
  generalize nwK s c x (a : Int) (b : Int) (ty : Int) (1 + max (zz s 50 a) (zz s 50 b)) = s2 at *
  have o2 : zz s2 45 7 = 0 := (z 45 7 (by omega)).trans c0
  refine ⟨s2, c, c + 1, rfl, ⟨h1.z (z 17 8 (by omega)) (fun k k1 k2 j => z k j (by omega)), h2, h3.fr (fun k k1 k2 => k45 k (by omega)), h4.fr (fun k k1 k2 => k45 k (by omega)), ⟨at6, by omega, by omega⟩, ⟨(z 39 3 (by omega)).trans h6.1, h6.2⟩, ⟨(z 38 8 (by omega)).trans h7.1, h7.2⟩, ⟨(z 36 4 (by omega)).trans h8.1, (z 50 0 (by omega)).trans h8.2⟩, fun j hj => ?_, fun j hj => ?_, fun j hj => ?_⟩, ⟨fun k hk => k45 k (by omega), fun j _ => z 1 j (by omega), z 17 9 (by omega), fun k j k1 k2 _ => z k j (by omega), fun k j k1 k2 _ => z k j (by omega), fun k j k1 k2 _ => z k j (by omega)⟩, fun k hk => k45 k hk, by omega, by omega, fun e => absurd c0 e, fun _ => ⟨c0, rfl⟩, fun _ _ => ⟨o2, rfl, rfl, at46, at47, at48, at49, at50⟩⟩
  · by_cases e : j = c
    · rw [e, at47, at48, at49]
      omega
    · rw [z 47 j (by omega), z 48 j (by omega), z 49 j (by omega)]
      have := h9 j (by omega)
      omega
  · rw [z 42 j (by omega)]; exact h10 j hj
  · rw [z 43 j (by omega)]
    have := h11 j hj
    omega
end
