/-! THE REFERENCE MAKES NODES OF A WRITTEN TYPE -/
/-- nodes from Nn on, their number and the fault alone are touched -/
def FrN (Nn : Nat) (s s2 : aZ) : Prop := (∀ k, k ≠ 56 → (k < 64 ∨ 67 < k) → s2 k = s k) ∧ (∀ j, j ≠ 16 → j ≠ 22 → j ≠ 23 → zz s2 56 j = zz s 56 j) ∧ ∀ k, 64 ≤ k → k ≤ 67 → ∀ j, j < Nn → zz s2 k j = zz s k j
theorem FrN.rf (Nn : Nat) (s : aZ) : FrN Nn s s := ⟨fun _ _ _ => rfl, fun _ _ _ _ => rfl, fun _ _ _ _ _ => rfl⟩
theorem FrN.tr {Nn N2 : Nat} {s1 s2 s3 : aZ} (a : FrN Nn s1 s2) (b : FrN N2 s2 s3) (h : Nn ≤ N2) : FrN Nn s1 s3 := ⟨fun k h1 h2 => (b.1 k h1 h2).trans (a.1 k h1 h2), fun j h1 h2 h3 => (b.2.1 j h1 h2 h3).trans (a.2.1 j h1 h2 h3), fun k h1 h2 j hj => (b.2.2 k h1 h2 j (by omega)).trans (a.2.2 k h1 h2 j hj)⟩
/-- a new node of the reference -/
def nwM (s : aZ) (Nn : Nat) (c x y : Int) : aZ := zu (zu (zu (zu (zu s 64 Nn c) 65 Nn x) 66 Nn y) 67 Nn (-1)) 56 16 ((Nn : Int) + 1)
theorem nwM_at (s : aZ) (Nn : Nat) (c x y : Int) (hN : Nn < 60000) (hc : inR c) (hx : inR x) (hy : inR y) : zz (nwM s Nn c x y) 64 Nn = c ∧ zz (nwM s Nn c x y) 65 Nn = x ∧ zz (nwM s Nn c x y) 66 Nn = y ∧ zz (nwM s Nn c x y) 67 Nn = -1 ∧ zz (nwM s Nn c x y) 56 16 = ((Nn + 1 : Nat) : Int) := by
  unfold nwM
  refine ⟨?_, ?_, ?_, ?_, ?_⟩
  · rw [zz_ne _ _ _ _ _ _ (by omega), zz_ne _ _ _ _ _ _ (by omega), zz_ne _ _ _ _ _ _ (by omega), zz_ne _ _ _ _ _ _ (by omega), zz_same _ _ _ hc]
  · rw [zz_ne _ _ _ _ _ _ (by omega), zz_ne _ _ _ _ _ _ (by omega), zz_ne _ _ _ _ _ _ (by omega), zz_same _ _ _ hx]
  · rw [zz_ne _ _ _ _ _ _ (by omega), zz_ne _ _ _ _ _ _ (by omega), zz_same _ _ _ hy]
  · rw [zz_ne _ _ _ _ _ _ (by omega), zz_same _ _ _ (by decide)]
  · rw [zz_same _ _ _ ⟨by omega, by omega⟩]; rfl
theorem nwM_ne (s : aZ) (Nn : Nat) (c x y : Int) (k j : Nat) (h : (64 ≤ k ∧ k ≤ 67 ∧ j ≠ Nn) ∨ ((k < 64 ∨ 67 < k) ∧ (k ≠ 56 ∨ j ≠ 16))) : zz (nwM s Nn c x y) k j = zz s k j := by
  unfold nwM
  rw [zz_ne _ _ _ _ _ _ (by omega), zz_ne _ _ _ _ _ _ (by omega), zz_ne _ _ _ _ _ _ (by omega), zz_ne _ _ _ _ _ _ (by omega), zz_ne _ _ _ _ _ _ (by omega)]
theorem nwM_fr (s : aZ) (Nn : Nat) (c x y : Int) : FrN Nn s (nwM s Nn c x y) := by
  refine ⟨fun k h1 h2 => ?_, fun j h1 _ _ => nwM_ne _ _ _ _ _ _ _ (by omega), fun k h1 h2 j hj => nwM_ne _ _ _ _ _ _ _ (by omega)⟩
  unfold nwM
  rw [zu_ne _ _ _ _ _ h1, zu_ne _ _ _ _ _ (by omega), zu_ne _ _ _ _ _ (by omega), zu_ne _ _ _ _ _ (by omega), zu_ne _ _ _ _ _ (by omega)]
theorem zu_wr (s : aZ) (k j : Nat) (x : Int) : zu s k j x = zu s k j (Int32.ofInt x).toInt := by
  unfold zu
  rw [Int32.ofInt_toInt]
theorem nwM_wr (s : aZ) (Nn : Nat) (c x y : Int) : nwM s Nn c x y = nwM s Nn c (Int32.ofInt x).toInt (Int32.ofInt y).toInt := by
  unfold nwM
  rw [← zu_wr _ 65, ← zu_wr _ 66]
/-- a node that stands for a type of as many parts as its code takes -/
def okD (ta : List Int) (s : aZ) (j : Nat) : Prop := (-1 ≤ zz s 65 j ∧ zz s 65 j < j) ∧ (-1 ≤ zz s 66 j ∧ zz s 66 j < j) ∧ (-2000000 ≤ zz s 64 j ∧ zz s 64 j < ta.length ∧ zz s 64 j ≠ -1) ∧ (0 ≤ zz s 65 j ↔ 1 ≤ arT ta (zz s 64 j)) ∧ (0 ≤ zz s 66 j ↔ 2 ≤ arT ta (zz s 64 j))
theorem okD.k {ta : List Int} {s s2 : aZ} {j : Nat} (h : okD ta s j) (e : ∀ k, 64 ≤ k → k ≤ 66 → zz s2 k j = zz s k j) : okD ta s2 j := by
  unfold okD
  rw [e 64 (by decide) (by decide), e 65 (by decide) (by decide), e 66 (by decide) (by decide)]
  exact h
/-- all types of constants are such -/
def MFx (ta : List Int) (fx : Nat) (s : aZ) : Prop := ∀ j, j < fx → okD ta s j
/-- what the meaning comes to: W nodes at most, C their type -/
def MMo (B : aH) (ta : List Int) (bad : Bool) (W : Nat) (C : aT) (Nn : Nat) (s : aZ) (l : aZL) (q : aR) : Prop := ∃ (s2 : aZ) (x : Int), q = (.inl (some (iv x)), mkH B s2 l) ∧ FrN Nn s s2 ∧ ∃ N2 : Nat, zz s2 56 16 = N2 ∧ Nn ≤ N2 ∧ N2 ≤ Nn + W ∧ ((bad = false ∧ zz s2 56 22 = 0 ∧ zz s2 56 23 = zz s 56 23 ∧ N2 = Nn + W ∧ NI 64 65 66 s2 Nn N2 C x ∧ 0 ≤ x ∧ ∀ j, Nn ≤ j → j < N2 → zz s2 67 j = -1 ∧ okD ta s2 j) ∨ (bad = true ∧ zz s2 56 22 = 3 ∧ zz s2 56 23 = zz s 72 0))
section
variable {B : aH} {t : Nat → Int} {n : Nat} {ns tn : List (List Int)} {ta : List Int}
theorem FrN.ty {Nn : Nat} {s s2 : aZ} {l : aZL} (f : FrN Nn s s2) (h : MTy tn ta s l) : MTy tn ta s2 l := by
  obtain ⟨a1, a2, a3, a4, a5, a6, a7, a8⟩ := h
  refine ⟨(f.2.1 4 (by decide) (by decide) (by decide)).trans a1, a2, a3, a4, a5, fun i h1 h2 => ?_, a7, a8⟩
  obtain ⟨b1, b2, b3⟩ := a6 i h1 h2
  exact ⟨b1, b2, (zz_of (f.1 62 (by decide) (by decide)) i).trans b3⟩
theorem FrN.tk {Nn : Nat} {s s2 : aZ} {l : aZL} (f : FrN Nn s s2) {j : Nat} (h : MTk t n ns j s l) : MTk t n ns j s2 l := by
  obtain ⟨t1, t2, t3, t4, t5, t6⟩ := h
  exact ⟨t1, (zz_of (f.1 71 (by decide) (by decide)) j).trans t2, (zz_of (f.1 72 (by decide) (by decide)) j).trans t3, fun q => (zz_of (f.1 73 (by decide) (by decide)) j).trans (t4 q), fun q => (zz_of (f.1 73 (by decide) (by decide)) j).trans (t5 q), t6⟩
theorem FrN.wi {Nn : Nat} {s s2 : aZ} (f : FrN Nn s s2) {v : Nat → Int} {T : aT} {lo hi : Nat} {w : Int} (h : WI s v T false lo hi w) : WI s2 v T false lo hi w := (WI.keep T).1 lo hi w h (fun k j h1 h2 _ _ _ => zz_of (f.1 k (by omega) (by omega)) j)
/-- the claim for one type -/
def MMt (B : aH) (t : Nat → Int) (n : Nat) (ns tn : List (List Int)) (ta : List Int) (l : aZL) (T : aT) : Prop := ∀ (d lo hi : Nat) (w : Int) (s : aZ) (Nn : Nat), tyH T + 2 ≤ d → hi ≤ 12100 → WI s (vT t n ns) T false lo hi w → MTy tn ta s l → nmOk (fun i => ftT t n i = 0 ∧ kdT t n i = 1 ∧ MTk t n ns i s l) T → zz s 56 22 = 0 → zz s 56 16 = (Nn : Nat) → Nn + tyW T ≤ 60000 → a_W d 197 0 [.ref 56, iv w, .retAddr 0, .retAddr 0, .retAddr 0, .retAddr 0] [] (mkH B s l) (MMo B ta (tyBad t n tn ta T) (tyW T) (cdT t n ns tn T) Nn s l)
/-- behind a fault nothing is made -/
theorem m_meantF (hB : a_Can B) {d : Nat} (hd : 1 ≤ d) (w : Int) (s : aZ) (l : aZL) (h : 0 < zz s 56 22) : a_W d 197 0 [.ref 56, iv w, .retAddr 0, .retAddr 0, .retAddr 0, .retAddr 0] [] (mkH B s l) (fun q => q = (.inl (some (iv 0)), mkH B s l)) := w197_0 hB (by omega) w s l ⟨fun c => absurd c (by omega), fun _ => rfl⟩
/-- the end: a node of code c with parts v6, v11 -/
theorem m_node {s0 s9 : aZ} {l : aZL} {Nn N2 W : Nat} {c v6 v11 : Int} {bad : Bool} {C1 C2 : aT} (hc : inR c) (hc2 : -2000000 ≤ c) (f : FrN Nn s0 s9) (hN : zz s9 56 16 = (N2 : Nat)) (h1 : Nn ≤ N2) (h2 : N2 + 1 ≤ Nn + W) (h6 : N2 < 60000) (hh : (bad = false ∧ zz s9 56 22 = 0 ∧ zz s9 56 23 = zz s0 56 23 ∧ N2 + 1 = Nn + W ∧ NI 64 65 66 s9 Nn N2 C1 v6 ∧ NI 64 65 66 s9 Nn N2 C2 v11 ∧ ((0 ≤ v6 ↔ 1 ≤ arT ta c) ∧ (0 ≤ v11 ↔ 2 ≤ arT ta c) ∧ c < ta.length ∧ c ≠ -1) ∧ ∀ j, Nn ≤ j → j < N2 → zz s9 67 j = -1 ∧ okD ta s9 j) ∨ (bad = true ∧ zz s9 56 22 = 3 ∧ zz s9 56 23 = zz s0 72 0)) : (0 ≤ zz s9 56 16 ∧ zz s9 56 16 < 60000) ∧ MMo B ta bad W (.branch (enc c) C1 C2) Nn s0 l (.inl (some (iv (((zz s9 56 16) + 1) - 1))), (mkH B (zu (zu (zu (zu (zu s9 64 (zz s9 56 16).toNat c) 65 (zz s9 56 16).toNat v6) 66 (zz s9 56 16).toNat v11) 67 (zz s9 56 16).toNat (-1)) 56 16 ((zz s9 56 16) + 1)) l)) := by
  refine ⟨⟨by omega, by omega⟩, ?_⟩
  rw [hN, natc, show (N2 : Int) + 1 - 1 = (N2 : Int) by omega]
  have es : zu (zu (zu (zu (zu s9 64 N2 c) 65 N2 v6) 66 N2 v11) 67 N2 (-1)) 56 16 ((N2 : Int) + 1) = nwM s9 N2 c v6 v11 := rfl
  rw [es, nwM_wr]
  obtain ⟨n1, n2, n3, n4, n5⟩ := nwM_at s9 N2 c (Int32.ofInt v6).toInt (Int32.ofInt v11).toInt h6 hc (inR_i32 _) (inR_i32 _)
  have fr := nwM_fr s9 N2 c (Int32.ofInt v6).toInt (Int32.ofInt v11).toInt
  have z : ∀ k j, 64 ≤ k → k ≤ 67 → j < N2 → zz (nwM s9 N2 c (Int32.ofInt v6).toInt (Int32.ofInt v11).toInt) k j = zz s9 k j := fun k j g1 g2 g3 => fr.2.2 k g1 g2 j g3
  have z22 := nwM_ne s9 N2 c (Int32.ofInt v6).toInt (Int32.ofInt v11).toInt 56 22 (by omega)
  have z23 := nwM_ne s9 N2 c (Int32.ofInt v6).toInt (Int32.ofInt v11).toInt 56 23 (by omega)
  generalize nwM s9 N2 c (Int32.ofInt v6).toInt (Int32.ofInt v11).toInt = s2 at *
  refine ⟨s2, N2, rfl, f.tr fr h1, N2 + 1, n5, by omega, h2, ?_⟩
  rcases hh with ⟨a1, a2, a3, a4, a5, a6, aX, a7⟩ | ⟨a1, a2, a3⟩
  · have rr : ∀ (C : aT) (v : Int), NI 64 65 66 s9 Nn N2 C v → (Int32.ofInt v).toInt = v := fun C v h => by
      refine toI ?_
      cases C with
      | leaf q => rw [show v = -1 from h]; decide
      | branch e x y => have := h.1; exact ⟨by omega, by omega⟩
    have kp : ∀ (C : aT) (v : Int), NI 64 65 66 s9 Nn N2 C v → NI 64 65 66 s2 Nn (N2 + 1) C v := fun C v h => NI.keep (fun k j g _ g2 => z k j (by omega) (by omega) g2) (Nat.le_refl _) (by omega) C v h
    have rg : ∀ (C : aT) (v : Int), NI 64 65 66 s9 Nn N2 C v → -1 ≤ v ∧ v < N2 := fun C v h => by
      cases C with
      | leaf q => rw [show v = -1 from h]; exact ⟨by omega, by omega⟩
      | branch e x y => have := h.1; exact ⟨by omega, by omega⟩
    refine Or.inl ⟨a1, z22.trans a2, z23.trans a3, a4, ⟨⟨by omega, by omega⟩, ?_, ?_, ?_⟩, by omega, fun j g1 g2 => ?_⟩
    · rw [natc, n1, dec_enc hc2]
    · rw [natc, n2, rr _ _ a5]; exact kp _ _ a5
    · rw [natc, n3, rr _ _ a6]; exact kp _ _ a6
    · by_cases e : j = N2
      · subst e
        refine ⟨n4, ?_⟩
        unfold okD
        rw [n1, n2, n3, rr _ _ a5, rr _ _ a6]
        exact ⟨rg _ _ a5, rg _ _ a6, ⟨hc2, aX.2.2.1, aX.2.2.2⟩, aX.1, aX.2.1⟩
      · refine ⟨by rw [z 67 j (by decide) (by decide) (by omega)]; exact (a7 j g1 (by omega)).1, (a7 j g1 (by omega)).2.k (fun k k1 k2 => z k j k1 (by omega) (by omega))⟩
  · exact Or.inr ⟨a1, z22.trans a2, z23.trans a3⟩
/-- two parts -/
theorem m_two (hB : a_Can B) {l : aZL} {a1 b1 : aT} (ha : MMt B t n ns tn ta l a1) (hb : MMt B t n ns tn ta l b1) (d lo c hi lo2 hi2 : Nat) (w x y : Nat) (cc : Int) (s : aZ) (Nn : Nat) (hd : tyH a1 + 3 ≤ d) (hd2 : tyH b1 + 3 ≤ d) (hh : c ≤ 12100) (hh2 : hi2 ≤ 12100) (hw : w < 12100) (e77 : zz s 77 w = x) (e78 : zz s 78 x = y) (w1 : WI s (vT t n ns) a1 false lo c x) (w2 : WI s (vT t n ns) b1 false lo2 hi2 y) (hT : MTy tn ta s l) (n1 : nmOk (fun i => ftT t n i = 0 ∧ kdT t n i = 1 ∧ MTk t n ns i s l) a1) (n2 : nmOk (fun i => ftT t n i = 0 ∧ kdT t n i = 1 ∧ MTk t n ns i s l) b1) (h22 : zz s 56 22 = 0) (hN : zz s 56 16 = (Nn : Nat)) (h6 : Nn + (1 + (tyW a1 + tyW b1)) ≤ 60000) (hc : inR cc) (hc2 : -2000000 ≤ cc) (har : arT ta cc = 2 ∧ cc < ta.length ∧ cc ≠ -1) : a_W d 197 105 [.ref 56, iv (w : Int), iv cc, .retAddr 0, .retAddr 0, .retAddr 0] [] (mkH B s l) (MMo B ta (tyBad t n tn ta a1 || tyBad t n tn ta b1) (1 + (tyW a1 + tyW b1)) (.branch (enc cc) (cdT t n ns tn a1) (cdT t n ns tn b1)) Nn s l) := by
  have hx := w1.rng
  have hy := w2.rng
  refine w197_105 hB (by omega) _ cc s l ⟨fun _ => ⟨⟨by omega, by omega⟩, fun _ => ?_, fun h => ?_⟩, fun h => absurd h (by omega)⟩
  rotate_left
  · rw [natc, e77] at h; exact absurd h (by omega)
  rw [natc, e77]
  refine a_W.imp (ha (d - 1) lo c x s Nn (by omega) hh w1 hT n1 h22 hN (by omega)) ?_
  rintro _ ⟨s4, v6, rfl, f4, N4, p1, p2, p3, p4⟩
  refine ⟨_, s4, l, rfl, ⟨by omega, by omega⟩, ?_⟩
  have q78 : zz s4 78 x = y := (zz_of (f4.1 78 (by decide) (by decide)) x).trans e78
  rw [natc, q78]
  refine ⟨fun _ => ?_, fun h => absurd h (by omega)⟩
  rcases p4 with ⟨b1', b2, b3, b4, b5, bx, b6⟩ | ⟨b1', b2, b3⟩
  · refine a_W.imp (hb (d - 1) lo2 hi2 y s4 N4 (by omega) hh2 (f4.wi w2) (f4.ty hT) (nmOk.imp (fun i hi => ⟨hi.1, hi.2.1, f4.tk hi.2.2⟩) b1 n2) b2 p1 (by omega)) ?_
    rintro _ ⟨s9, v11, rfl, f9, N9, r1, r2, r3, r4⟩
    refine ⟨_, s9, l, rfl, m_node hc hc2 (f4.tr f9 p2) r1 (by omega) (by omega) (by omega) ?_⟩
    rcases r4 with ⟨c1, c2, c3, c4, c5, cx, c6⟩ | ⟨c1, c2, c3⟩
    · refine Or.inl ⟨by rw [b1', c1]; rfl, c2, c3.trans b3, by omega, NI.keep (fun k j g g1 g2 => f9.2.2 k (by omega) (by omega) j g2) (Nat.le_refl _) r2 _ _ b5, NI.keep (fun _ _ _ _ _ => rfl) p2 (Nat.le_refl _) _ _ c5, ⟨⟨fun _ => by omega, fun _ => bx⟩, ⟨fun _ => by omega, fun _ => cx⟩, har.2⟩, fun j g1 g2 => ?_⟩
      by_cases e : j < N4
      · exact ⟨by rw [f9.2.2 67 (by decide) (by decide) j e]; exact (b6 j g1 e).1, (b6 j g1 e).2.k (fun k k1 k2 => f9.2.2 k k1 (by omega) j e)⟩
      · exact c6 j (by omega) g2
    · refine Or.inr ⟨by rw [b1', c1]; rfl, c2, c3.trans (zz_of (f4.1 72 (by decide) (by decide)) 0)⟩
  · refine a_W.imp (m_meantF hB (by omega) _ s4 l (by omega)) ?_
    rintro _ rfl
    exact ⟨_, s4, l, rfl, m_node hc hc2 f4 p1 p2 (by omega) (by omega) (Or.inr ⟨by rw [b1']; rfl, b2, b3⟩)⟩
/-- one part -/
theorem m_one (hB : a_Can B) {l : aZL} {a1 : aT} (ha : MMt B t n ns tn ta l a1) (d lo c : Nat) (w x : Nat) (cc : Int) (s : aZ) (Nn : Nat) (hd : tyH a1 + 3 ≤ d) (hh : c ≤ 12100) (hw : w < 12100) (e77 : zz s 77 w = x) (e78 : zz s 78 x = -1) (w1 : WI s (vT t n ns) a1 false lo c x) (hT : MTy tn ta s l) (n1 : nmOk (fun i => ftT t n i = 0 ∧ kdT t n i = 1 ∧ MTk t n ns i s l) a1) (h22 : zz s 56 22 = 0) (hN : zz s 56 16 = (Nn : Nat)) (h6 : Nn + (1 + tyW a1) ≤ 60000) (hc : inR cc) (hc2 : -2000000 ≤ cc) (har : arT ta cc = 1 ∧ cc < ta.length ∧ cc ≠ -1) : a_W d 197 105 [.ref 56, iv (w : Int), iv cc, .retAddr 0, .retAddr 0, .retAddr 0] [] (mkH B s l) (MMo B ta (tyBad t n tn ta a1) (1 + tyW a1) (.branch (enc cc) (cdT t n ns tn a1) cNo) Nn s l) := by
  have hx := w1.rng
  refine w197_105 hB (by omega) _ cc s l ⟨fun _ => ⟨⟨by omega, by omega⟩, fun _ => ?_, fun h => ?_⟩, fun h => absurd h (by omega)⟩
  rotate_left
  · rw [natc, e77] at h; exact absurd h (by omega)
  rw [natc, e77]
  refine a_W.imp (ha (d - 1) lo c x s Nn (by omega) hh w1 hT n1 h22 hN (by omega)) ?_
  rintro _ ⟨s4, v6, rfl, f4, N4, p1, p2, p3, p4⟩
  refine ⟨_, s4, l, rfl, ⟨by omega, by omega⟩, ?_⟩
  have q78 : zz s4 78 x = -1 := (zz_of (f4.1 78 (by decide) (by decide)) x).trans e78
  rw [natc, q78]
  refine ⟨fun h => absurd rfl h, fun _ => m_node hc hc2 f4 p1 p2 (by omega) (by omega) ?_⟩
  rcases p4 with ⟨b1', b2, b3, b4, b5, bx, b6⟩ | ⟨b1', b2, b3⟩
  · exact Or.inl ⟨b1', b2, b3, by omega, b5, rfl, ⟨⟨fun _ => by omega, fun _ => bx⟩, ⟨fun h => absurd h (by decide), fun h => by omega⟩, har.2⟩, b6⟩
  · exact Or.inr ⟨b1', b2, b3⟩
def nB : aT → Nat
  | .leaf _ => 0
  | .branch _ a b => 1 + nB a + nB b
theorem m_meant (hB : a_Can B) (hv : ∀ i, 0 ≤ vT t n ns i ∧ vT t n ns i ≤ 20000) (hta : ∀ i, ta.getD i 0 ≤ 2) (h2a : ta.getD 2 0 = 2) (l : aZL) : ∀ (k : Nat) (T : aT), nB T ≤ k → MMt B t n ns tn ta l T := by
  intro k
  induction k with
  | zero =>
    intro T hk
    cases T with
    | branch m a b => exact absurd hk (by show ¬ (1 + nB a + nB b ≤ 0); omega)
    | leaf q =>
      intro d lo hi w s Nn hd hh hW hT hn h22 hN h6
      obtain ⟨a1, a2, a3, a4, a5, a6⟩ := hW
      have vr := hv q.2
      have eW : tyW (.leaf q) = 1 := by rw [tyW_l, if_neg (by omega)]
      have eC : cdT t n ns tn (.leaf q) = .branch (enc (-1000 - vT t n ns q.2)) cNo cNo := if_pos a2
      rw [eW] at h6
      refine w197_0 hB (by omega) w s l ⟨fun _ => ⟨⟨by omega, by omega⟩, fun h => absurd a3 h, fun _ => ?_⟩, fun h => absurd h (by omega)⟩
      rw [a4, eW, eC]
      exact m_node ⟨by omega, by omega⟩ (by omega) (FrN.rf _ _) hN (Nat.le_refl _) (by omega) (by omega) (Or.inl ⟨rfl, h22, rfl, rfl, rfl, rfl, by rw [arT_n (by omega)]; exact ⟨by omega, by omega, by omega, by omega⟩, fun j g1 g2 => absurd g2 (by omega)⟩)
  | succ k ih =>
    intro T hk
    cases T with
    | leaf q => exact ih (.leaf q) (Nat.zero_le _)
    | branch m a b =>
      intro d lo hi w s Nn hd hh hW hT hn h22 hN h6
      have hk' : 1 + nB a + nB b ≤ k + 1 := hk
      obtain ⟨a1, a2, a3, a4⟩ := hW
      obtain ⟨o1, o2, o3⟩ := hn
      obtain ⟨W, eW⟩ : ∃ W : Nat, w = W := ⟨w.toNat, by omega⟩
      subst eW
      rw [natc] at a2 a3 a4
      rcases a4 with ⟨b1, b2, c, x, y, c1, c2, c3, c4, c5, c6, c7⟩ | ⟨b1, b0, b2, b3, b4, b5⟩
      · subst b1
        have eH : tyH (.branch 3 a b) = 1 + max (tyH a) (tyH b) := by rw [tyH_b, if_neg (by decide)]
        have eW : tyW (.branch 3 a b) = 1 + (tyW a + tyW b) := by rw [tyW_b, if_neg (by decide)]
        have eC : cdT t n ns tn (.branch 3 a b) = .branch (enc 2) (cdT t n ns tn a) (cdT t n ns tn b) := if_pos rfl
        have eB : tyBad t n tn ta (.branch 3 a b) = (tyBad t n tn ta a || tyBad t n tn ta b) := by
          show ((decide (3 % 4 = 1) && !gdN t n tn ta (3 / 4) (argN a)) || tyBad t n tn ta a || tyBad t n tn ta b) = _
          rw [show decide (3 % 4 = 1) = false from rfl, Bool.false_and, Bool.false_or]
        rw [eH] at hd
        rw [eW] at h6
        rw [eW, eC, eB]
        refine w197_0 hB (by omega) _ s l ⟨fun _ => ⟨⟨by omega, by omega⟩, fun _ => ⟨fun _ => ?_, fun h => ?_⟩, fun h => ?_⟩, fun h => absurd h (by omega)⟩
        · exact m_two hB (ih a (by omega)) (ih b (by omega)) d lo c hi c W W x y 2 s Nn (by omega) (by omega) (by omega) (by omega) (by omega) c3 c4 c6 c7 hT o2 o3 h22 hN h6 (by decide) (by decide) ⟨by unfold arT; rw [if_neg (by decide), show ((2 : Int)).toNat = 2 from rfl, h2a]; rfl, by have := hT.2.2.1; have := hT.2.2.2.2.2.2.2; omega, by decide⟩
        · rw [natc, b2] at h; exact absurd h (by decide)
        · rw [natc, b2] at h; exact absurd h (by decide)
      · obtain ⟨p1, p2, p3⟩ := o1 b1
        have hm : m = 4 * (m / 4) + 1 := by omega
        generalize m / 4 = i at *
        subst hm
        subst b0
        obtain ⟨nm1, nm2⟩ := m_tname hB (d := d - 1) (by have := tyH_b (4 * i + 1) a (.leaf (1, 0)); rw [if_neg (by omega)] at this; omega) hT p1 p2 p3
        have eH : tyH (.branch (4 * i + 1) a (.leaf (1, 0))) = 1 + tyH a := by
          rw [tyH_b, if_neg (by omega), tyH_l, if_pos rfl]
          omega
        have eW : tyW (.branch (4 * i + 1) a (.leaf (1, 0))) = 1 + tyW a := by
          rw [tyW_b, if_neg (by omega), tyW_l, if_pos rfl]
          omega
        have eC : cdT t n ns tn (.branch (4 * i + 1) a (.leaf (1, 0))) = .branch (enc (fd tn (nmW t n (stT t n i)) tn.length)) (cdF (cdT t n ns tn a)) (cdS (cdT t n ns tn a)) := by
          have e1 : cdT t n ns tn (.branch (4 * i + 1) a (.leaf (1, 0))) = (if 4 * i + 1 = 3 then .branch (enc 2) (cdT t n ns tn a) (cdT t n ns tn (.leaf (1, 0))) else if 4 * i + 1 = 2 then .branch 0 (cdT t n ns tn a) (cdF (cdT t n ns tn (.leaf (1, 0)))) else .branch (enc (fd tn (nmW t n (stT t n ((4 * i + 1) / 4))) tn.length)) (cdF (cdT t n ns tn a)) (cdS (cdT t n ns tn a))) := rfl
          rw [e1, if_neg (by omega), if_neg (by omega), show (4 * i + 1) / 4 = i by omega]
        have eB := bad_row (t := t) (n := n) (tn := tn) (ta := ta) i a
        rw [eH] at hd
        rw [eW] at h6
        rw [eW, eC, eB]
        have fr := fd_rng tn (nmW t n (stT t n i))
        have tl : tn.length ≤ 34 := hT.2.1
        have t62 : ∀ j, j < tn.length → j ≠ 2 → zz s 62 j = ta.getD j 0 := fun j h1 h2 => (hT.2.2.2.2.2.1 j h1 h2).2.2
        have eg : gdN t n tn ta i (argN a) = true ↔ (0 ≤ fd tn (nmW t n (stT t n i)) tn.length ∧ ta.getD (fd tn (nmW t n (stT t n i)) tn.length).toNat 0 = ((argN a : Nat) : Int)) := gdN_t
        have ef : ¬ (0 ≤ fd tn (nmW t n (stT t n i)) tn.length ∧ ta.getD (fd tn (nmW t n (stT t n i)) tn.length).toNat 0 = ((argN a : Nat) : Int)) → gdN t n tn ta i (argN a) = false := gdN_f
        have eta := hta (fd tn (nmW t n (stT t n i)) tn.length).toNat
        generalize fd tn (nmW t n (stT t n i)) tn.length = cc at *
        have r72 := inR_zz s 72 0
        -- a wrong name
        have bad : ∀ x2 : Int, gdN t n tn ta i (argN a) = false → a_W d 197 94 [.ref 56, iv (W : Int), iv x2, .retAddr 0, .retAddr 0, .retAddr 0] [] (mkH B s l) (MMo B ta (!gdN t n tn ta i (argN a) || tyBad t n tn ta a) (1 + tyW a) (.branch (enc cc) (cdF (cdT t n ns tn a)) (cdS (cdT t n ns tn a))) Nn s l) := by
          intro x2 hg
          have e22 : zz (zu (zu s 56 22 3) 56 23 (zz s 72 0)) 56 22 = 3 := by rw [zz_ne _ _ _ _ _ _ (by omega), zz_same _ _ _ (by decide)]
          have e23 : zz (zu (zu s 56 22 3) 56 23 (zz s 72 0)) 56 23 = zz s 72 0 := zz_same _ _ _ r72
          have e16 : zz (zu (zu s 56 22 3) 56 23 (zz s 72 0)) 56 16 = zz s 56 16 := by rw [zz_ne _ _ _ _ _ _ (by omega), zz_ne _ _ _ _ _ _ (by omega)]
          refine w197_94 hB (by omega) _ x2 s l ⟨fun _ => ?_, fun h => absurd h (by omega)⟩
          refine w197_105 hB (by omega) _ x2 _ l ⟨fun h => absurd h (by omega), fun _ => ?_⟩
          refine ⟨_, 0, rfl, ⟨fun k h1 _ => by rw [zu_ne _ _ _ _ _ h1, zu_ne _ _ _ _ _ h1], fun j _ h2 h3 => by rw [zz_ne _ _ _ _ _ _ (by omega), zz_ne _ _ _ _ _ _ (by omega)], fun k h1 h2 j _ => by rw [zz_ne _ _ _ _ _ _ (by omega), zz_ne _ _ _ _ _ _ (by omega)]⟩, Nn, e16.trans hN, Nat.le_refl _, by omega, Or.inr ⟨by rw [hg]; rfl, e22, e23⟩⟩
        refine w197_0 hB (by omega) _ s l ⟨fun _ => ⟨⟨by omega, by omega⟩, fun _ => ⟨fun h => ?_, fun _ => ?_⟩, fun h => ?_⟩, fun h => absurd h (by omega)⟩
        · rw [natc, b2] at h; exact absurd rfl h
        · rw [natc, b3]
          refine a_W.imp nm1 ?_
          rintro _ rfl
          refine ⟨_, s, l, rfl, ⟨by omega, by omega⟩, fun g => bad cc (ef (fun q => by omega)), fun g => ⟨fun g2 => absurd g2 nm2, fun g2 => ⟨⟨by omega, by omega⟩, fun g3 => ?_, fun g3 => bad cc (ef (fun q => g3 ?_))⟩⟩⟩
          · rw [t62 _ (by omega) (by omega), b4] at g3
            have hg : gdN t n tn ta i (argN a) = true := eg.mpr ⟨by omega, g3⟩
            have hA2 : argN a ≤ 2 := by omega
            have earT : arT ta cc = argN a := by unfold arT; rw [if_neg (by omega), g3]; rfl
            have etl := hT.2.2.2.2.2.2.2
            rw [hg]
            show a_W d 197 105 [.ref 56, iv (W : Int), iv cc, .retAddr 0, .retAddr 0, .retAddr 0] [] (mkH B s l) (MMo B ta (tyBad t n tn ta a) (1 + tyW a) (.branch (enc cc) (cdF (cdT t n ns tn a)) (cdS (cdT t n ns tn a))) Nn s l)
            cases a with
            | leaf q =>
              obtain ⟨d1, d2⟩ := b5
              have eC1 : cdT t n ns tn (.leaf q) = cNo := if_neg (by omega)
              have eW1 : tyW (.leaf q) = 0 := by rw [tyW_l, if_pos d1]
              rw [eC1, eW1]
              rw [eW1] at h6
              refine w197_105 hB (by omega) _ cc s l ⟨fun _ => ⟨⟨by omega, by omega⟩, fun h => ?_, fun _ => ?_⟩, fun h => absurd h (by omega)⟩
              · rw [natc, d2] at h; exact absurd rfl h
              · exact m_node ⟨by omega, by omega⟩ (by omega) (FrN.rf _ _) hN (Nat.le_refl _) (by omega) (by omega) (Or.inl ⟨rfl, h22, rfl, rfl, rfl, rfl, by rw [earT, show argN (.leaf q) = 0 from rfl]; exact ⟨by omega, by omega, by omega, by omega⟩, fun j g1 g2 => absurd g2 (by omega)⟩)
            | branch m2 a1 r =>
              obtain ⟨e2, c, x, c1, c2, c3, c4, c5⟩ := b5
              subst e2
              obtain ⟨-, u1, u2⟩ := o2
              have hk2 : nB (.branch 2 a1 r) = 1 + nB a1 + nB r := rfl
              have eB1 : tyBad t n tn ta (.branch 2 a1 r) = (tyBad t n tn ta a1 || tyBad t n tn ta r) := by
                show ((decide (2 % 4 = 1) && !gdN t n tn ta (2 / 4) (argN a1)) || tyBad t n tn ta a1 || tyBad t n tn ta r) = _
                rw [show decide (2 % 4 = 1) = false from rfl, Bool.false_and, Bool.false_or]
              have eC1 : cdT t n ns tn (.branch 2 a1 r) = .branch 0 (cdT t n ns tn a1) (cdF (cdT t n ns tn r)) := (if_neg (by decide)).trans (if_pos rfl)
              have eW1 : tyW (.branch 2 a1 r) = tyW a1 + tyW r := by rw [tyW_b, if_pos rfl]
              have eH1 : tyH (.branch 2 a1 r) = max (tyH a1) (tyH r) := by rw [tyH_b, if_pos rfl]
              rw [eB1, eC1, eW1]
              rw [eW1] at h6
              rw [eH1] at hd
              show a_W d 197 105 [.ref 56, iv (W : Int), iv cc, .retAddr 0, .retAddr 0, .retAddr 0] [] (mkH B s l) (MMo B ta (tyBad t n tn ta a1 || tyBad t n tn ta r) (1 + (tyW a1 + tyW r)) (.branch (enc cc) (cdT t n ns tn a1) (cdF (cdT t n ns tn r))) Nn s l)
              cases r with
              | leaf q =>
                obtain ⟨d1, d2⟩ := c5
                have eC2 : cdT t n ns tn (.leaf q) = cNo := if_neg (by omega)
                have eW2 : tyW (.leaf q) = 0 := by rw [tyW_l, if_pos d1]
                have eB2 : tyBad t n tn ta (.leaf q) = false := rfl
                rw [eC2, eW2, eB2, Bool.or_false, Nat.add_zero]
                rw [eW2] at h6
                exact m_one hB (ih a1 (by omega)) d (W + 1) c W x cc s Nn (by omega) (by omega) (by omega) c3 d2 c4 hT u1 h22 hN (by omega) ⟨by omega, by omega⟩ (by omega) ⟨by rw [earT]; rfl, by omega, by omega⟩
              | branch m3 b1' r2 =>
                obtain ⟨e3, c', x', f1, f2, f3, f4, f5⟩ := c5
                subst e3
                obtain ⟨-, u3, u4⟩ := u2
                have hk3 : nB (.branch 2 b1' r2) = 1 + nB b1' + nB r2 := rfl
                have hAr : argN (.branch 2 a1 (.branch 2 b1' r2)) = argN r2 + 1 + 1 := rfl
                cases r2 with
                | branch m4 b2' r3 => exact absurd hA2 (by rw [hAr]; show ¬ (argN r3 + 1 + 1 + 1 ≤ 2); omega)
                | leaf q =>
                  obtain ⟨d1, d2⟩ := f5
                  have eB3 : tyBad t n tn ta (.branch 2 b1' (.leaf q)) = tyBad t n tn ta b1' := by
                    show ((decide (2 % 4 = 1) && !gdN t n tn ta (2 / 4) (argN b1')) || tyBad t n tn ta b1' || false) = _
                    rw [show decide (2 % 4 = 1) = false from rfl, Bool.false_and, Bool.false_or, Bool.or_false]
                  have eC3 : cdT t n ns tn (.branch 2 b1' (.leaf q)) = .branch 0 (cdT t n ns tn b1') (cdF (cdT t n ns tn (.leaf q))) := (if_neg (by decide)).trans (if_pos rfl)
                  have eW3 : tyW (.branch 2 b1' (.leaf q)) = tyW b1' := by rw [tyW_b, if_pos rfl, tyW_l, if_pos d1]; omega
                  have eH3 : tyH (.branch 2 b1' (.leaf q)) = tyH b1' := by rw [tyH_b, if_pos rfl, tyH_l, if_pos d1]; omega
                  rw [eB3, eC3, eW3]
                  rw [eW3] at h6
                  rw [eH3] at hd
                  show a_W d 197 105 [.ref 56, iv (W : Int), iv cc, .retAddr 0, .retAddr 0, .retAddr 0] [] (mkH B s l) (MMo B ta (tyBad t n tn ta a1 || tyBad t n tn ta b1') (1 + (tyW a1 + tyW b1')) (.branch (enc cc) (cdT t n ns tn a1) (cdT t n ns tn b1')) Nn s l)
                  exact m_two hB (ih a1 (by omega)) (ih b1' (by omega)) d (W + 1) c hi c c' W x x' cc s Nn (by omega) (by omega) (by omega) (by omega) (by omega) c3 f3 c4 f4 hT u1 u3 h22 hN h6 ⟨by omega, by omega⟩ (by omega) ⟨by rw [earT]; rfl, by omega, by omega⟩
          · rw [t62 _ (by omega) (by omega), b4]; exact q.2
        · rw [natc, b2] at h; exact absurd h (by decide)
end
