/-! THE PARTS OF A TERM, with the reference -/
/-- what is written tightly is nowhere larger than the whole -/
theorem WI.cov {s : aZ} {v : Nat → Int} : ∀ T : aT, (∀ (lo hi : Nat) (w : Int), WI s v T false lo hi w → hi = lo + tyW T → ∀ j, lo ≤ j → j < hi → zz s 80 j ≤ tyW T ∧ zz s 81 j ≤ tyH T) ∧ (∀ (lo hi : Nat) (w : Int), WI s v T true lo hi w → hi = lo + tyW T → ∀ j, lo ≤ j → j < hi → zz s 80 j ≤ tyW T ∧ zz s 81 j ≤ tyH T) := by
  intro T
  induction T with
  | leaf q =>
    refine ⟨fun lo hi w h e j h1 h2 => ?_, fun lo hi w h e j h1 h2 => ?_⟩
    · obtain ⟨a1, a2, a3, a4, a5, a6, a7, a8⟩ := h
      rw [tyW_l, if_neg (by omega)] at e ⊢
      rw [tyH_l, if_neg (by omega)]
      have : w.toNat = j := by omega
      rw [← this, a7, a8]
      exact ⟨by omega, by omega⟩
    · rw [tyW_l, if_pos h.1] at e
      omega
  | branch m a b iha ihb =>
    refine ⟨fun lo hi w h e j h1 h2 => ?_, fun lo hi w h e j h1 h2 => ?_⟩
    · have hh := h
      obtain ⟨a1, a2, a3, ⟨b1, b2, c, x, y, c1, c2, c3, c4, c5, c6, c7⟩ | ⟨b1, b0, b2, b3, b4, b5⟩⟩ := h
      · have s1 := (WI.size a).1 _ _ _ c6
        have s2 := (WI.size b).1 _ _ _ c7
        rw [tyW_b, if_neg (by omega)] at e a2 ⊢
        rw [tyH_b, if_neg (by omega)] at a3 ⊢
        by_cases j1 : j < c
        · have := iha.1 _ _ _ c6 (by omega) j h1 j1
          omega
        by_cases j2 : j < w.toNat
        · have := ihb.1 _ _ _ c7 (by omega) j (by omega) j2
          omega
        · have : w.toNat = j := by omega
          rw [← this, a2, a3]
          omega
      · have s1 := (WI.size a).2 _ _ _ b5
        have s2 : tyW b = 0 := by rw [b0]; rfl
        rw [tyW_b, if_neg (by omega)] at e a2 ⊢
        rw [tyH_b, if_neg (by omega)] at a3 ⊢
        by_cases j1 : j = w.toNat
        · rw [j1, a2, a3]
          omega
        · have := iha.2 _ _ _ b5 (by omega) j (by omega) h2
          omega
    · obtain ⟨m2, c, x, c1, c2, c3, c4, c5⟩ := h
      have s1 := (WI.size a).1 _ _ _ c4
      have s2 := (WI.size b).2 _ _ _ c5
      rw [tyW_b, if_pos m2] at e ⊢
      rw [tyH_b, if_pos m2]
      by_cases j1 : j < c
      · have := iha.1 _ _ _ c4 (by omega) j h1 j1
        omega
      · have := ihb.2 _ _ _ c5 (by omega) j (by omega) h2
        omega
/-- too large a written type within a term -/
def lgA : aT → Prop
  | .leaf _ => False
  | .branch m a b => if m = 0 then lgA a ∨ lgA b else if m = 2 then lgA a ∨ (40 < tyW b ∨ 12 < tyH b) else (40 < tyW a ∨ 12 < tyH a) ∨ lgA b
theorem lgA_ap (f x : aT) : lgA (apT f x) ↔ (lgA f ∨ lgA x) := Iff.rfl
theorem lgA_as (a b : aT) : lgA (.branch 2 a b) ↔ (lgA a ∨ (40 < tyW b ∨ 12 < tyH b)) := Iff.rfl
theorem lgA_ab (i : Nat) (ty b : aT) : lgA (abT i ty b) ↔ ((40 < tyW ty ∨ 12 < tyH ty) ∨ lgA b) := by
  show (if _ then _ else if _ then _ else _) ↔ _
  rw [if_neg (ab_m i).1, if_neg (ab_m i).2]
theorem lgA_op (o : Nat) (a x : aT) : lgA (opT o a x) ↔ (lgA a ∨ lgA x) := by
  show ((False ∨ lgA a) ∨ lgA x) ↔ _
  rw [false_or]
def lgS (st : aSt) : Prop := ∃ q ∈ st, lgA q.2
theorem lgS_stl (g : Int) : ∀ (st : aSt) (x : aT), (lgS (stl g st x).1 ∨ lgA (stl g st x).2) ↔ (lgS st ∨ lgA x) := by
  intro st
  induction st with
  | nil => intro x; exact Iff.rfl
  | cons q st ih =>
    intro x
    rw [stl_c]
    split
    · rw [ih, lgA_op]
      constructor
      · rintro (⟨r, h1, h2⟩ | h | h)
        · exact Or.inl ⟨r, List.mem_cons_of_mem _ h1, h2⟩
        · exact Or.inl ⟨q, List.mem_cons_self, h⟩
        · exact Or.inr h
      · rintro (⟨r, h1, h2⟩ | h)
        · rcases List.mem_cons.mp h1 with rfl | h1
          · exact Or.inr (Or.inl h2)
          · exact Or.inl ⟨r, h1, h2⟩
        · exact Or.inr (Or.inr h)
    · exact Iff.rfl
theorem lgA_b1 (k i : Nat) (ty x : aT) : lgA (b1T k i ty x) ↔ ((40 < tyW ty ∨ 12 < tyH ty) ∨ lgA x) := by
  unfold b1T
  split
  · exact lgA_ab i ty x
  · rw [lgA_ap, lgA_ab]
    show (False ∨ _) ↔ _
    rw [false_or]
def lgV (vs : aSt) : Prop := ∃ q ∈ vs, 40 < tyW q.2 ∨ 12 < tyH q.2
theorem lgA_bd (k : Nat) : ∀ (vs : aSt) (x : aT), lgA (bdT k vs x) ↔ (lgV vs ∨ lgA x) := by
  intro vs
  induction vs with
  | nil =>
    intro x
    exact ⟨Or.inr, fun h => h.elim (fun ⟨q, hq, _⟩ => absurd hq List.not_mem_nil) id⟩
  | cons q vs ih =>
    intro x
    show lgA (bdT k vs (b1T k q.1 q.2 x)) ↔ _
    rw [ih, lgA_b1]
    constructor
    · rintro (⟨r, h1, h2⟩ | h | h)
      · exact Or.inl ⟨r, List.mem_cons_of_mem _ h1, h2⟩
      · exact Or.inl ⟨q, List.mem_cons_self, h⟩
      · exact Or.inr h
    · rintro (⟨r, h1, h2⟩ | h)
      · rcases List.mem_cons.mp h1 with rfl | h1
        · exact Or.inr (Or.inl h2)
        · exact Or.inl ⟨r, h1, h2⟩
      · exact Or.inr (Or.inr h)
/-- the constant of ! ? @ ~ -/
def sgC (k : Nat) : Int := if k = 10 then 7 else if k = 11 then 8 else if k = 12 then 9 else 3
def TyP (s : aZ) (v : Nat → Int) (W : Nat) (a : aT) (x : Int) : Prop := (a = noT ∧ x = -1) ∨ WI s v a false 0 W x
/-- part p holds this term -/
def PH (s : aZ) (v : Nat → Int) (W Q : Nat) : aT → Int → Prop
  | .leaf q, p => (0 ≤ p ∧ p < Q) ∧ zz s 86 p.toNat = min (tmW (.leaf q) : Int) 100000 ∧ zz s 87 p.toNat = min (tmH (.leaf q) : Int) 100000 ∧ ((q.1 = 0 ∧ zz s 82 p.toNat = 0 ∧ zz s 83 p.toNat = q.2) ∨ (q.1 = 1 ∧ zz s 82 p.toNat = 1 ∧ ((q.2 ≤ 13 ∧ zz s 83 p.toNat = sgC q.2) ∨ (14 ≤ q.2 ∧ zz s 83 p.toNat = -1 ∧ zz s 84 p.toNat = kM q.2))) ∨ (q.1 = 2 ∧ zz s 82 p.toNat = 2 ∧ zz s 83 p.toNat = q.2))
  | .branch m a b, p => (0 ≤ p ∧ p < Q) ∧ zz s 86 p.toNat = min (tmW (.branch m a b) : Int) 100000 ∧ zz s 87 p.toNat = min (tmH (.branch m a b) : Int) 100000 ∧ ((m = 0 ∧ zz s 82 p.toNat = 3 ∧ PH s v W Q a (zz s 83 p.toNat) ∧ PH s v W Q b (zz s 84 p.toNat)) ∨ (m % 4 = 1 ∧ zz s 82 p.toNat = 4 ∧ zz s 83 p.toNat = ((m / 4 : Nat) : Int) ∧ PH s v W Q b (zz s 84 p.toNat) ∧ TyP s v W a (zz s 85 p.toNat)) ∨ (m = 2 ∧ zz s 82 p.toNat = 5 ∧ PH s v W Q a (zz s 83 p.toNat) ∧ WI s v b false 0 W (zz s 84 p.toNat)))
theorem PH.top {s : aZ} {v : Nat → Int} {W Q : Nat} {T : aT} {p : Int} (h : PH s v W Q T p) : (0 ≤ p ∧ p < Q) ∧ zz s 86 p.toNat = min (tmW T : Int) 100000 ∧ zz s 87 p.toNat = min (tmH T : Int) 100000 := by
  cases T with
  | leaf q => exact ⟨h.1, h.2.1, h.2.2.1⟩
  | branch m a b => exact ⟨h.1, h.2.1, h.2.2.1⟩
theorem TyP.keep {s s2 : aZ} {v : Nat → Int} {W W2 : Nat} (hw : WFr W s s2) (hW : W ≤ W2) {a : aT} {x : Int} (h : TyP s v W a x) : TyP s2 v W2 a x := by
  rcases h with h | h
  · exact Or.inl h
  · exact Or.inr ((WI.mono a).1 0 W 0 W2 x ((WI.keep a).1 0 W x h (fun k j h1 h2 _ h4 _ => hw k h1 h2 j h4)) (Nat.le_refl _) hW)
theorem PH.keep {s s2 : aZ} {v : Nat → Int} {W W2 Q Q2 : Nat} (he : ∀ k j, 82 ≤ k → k ≤ 87 → j < Q → zz s2 k j = zz s k j) (hw : WFr W s s2) (hQ : Q ≤ Q2) (hW : W ≤ W2) : ∀ (T : aT) (p : Int), PH s v W Q T p → PH s2 v W2 Q2 T p := by
  intro T
  induction T with
  | leaf q =>
    intro p h
    obtain ⟨h1, h2, h3, h4⟩ := h
    have z : ∀ k, 82 ≤ k → k ≤ 87 → zz s2 k p.toNat = zz s k p.toNat := fun k a b => he k p.toNat a b (by omega)
    refine ⟨⟨h1.1, by omega⟩, (z 86 (by decide) (by decide)).trans h2, (z 87 (by decide) (by decide)).trans h3, ?_⟩
    rw [z 82 (by decide) (by decide), z 83 (by decide) (by decide), z 84 (by decide) (by decide)]
    exact h4
  | branch m a b iha ihb =>
    intro p h
    obtain ⟨h1, h2, h3, h4⟩ := h
    have z : ∀ k, 82 ≤ k → k ≤ 87 → zz s2 k p.toNat = zz s k p.toNat := fun k a b => he k p.toNat a b (by omega)
    refine ⟨⟨h1.1, by omega⟩, (z 86 (by decide) (by decide)).trans h2, (z 87 (by decide) (by decide)).trans h3, ?_⟩
    rw [z 82 (by decide) (by decide), z 83 (by decide) (by decide), z 84 (by decide) (by decide), z 85 (by decide) (by decide)]
    rcases h4 with ⟨g1, g2, g3, g4⟩ | ⟨g1, g2, g3, g4, g5⟩ | ⟨g1, g2, g3, g4⟩
    · exact Or.inl ⟨g1, g2, iha _ g3, ihb _ g4⟩
    · exact Or.inr (Or.inl ⟨g1, g2, g3, ihb _ g4, g5.keep hw hW⟩)
    · exact Or.inr (Or.inr ⟨g1, g2, iha _ g3, (WI.mono b).1 0 W 0 W2 _ ((WI.keep b).1 0 W _ g4 (fun k j h1 h2 _ h4 _ => hw k h1 h2 j h4)) (Nat.le_refl _) hW⟩)
/-- what waits: operators and their left operands -/
def SK (s : aZ) (v : Nat → Int) (W Q : Nat) : aSt → Nat → Prop
  | [], _ => True
  | _ :: _, 0 => False
  | q :: st, w + 1 => zz s 88 w = kM q.1 ∧ (∃ p : Nat, zz s 89 w = p ∧ PH s v W Q q.2 p) ∧ SK s v W Q st w
theorem SK.keep {s s2 : aZ} {v : Nat → Int} {W W2 Q Q2 : Nat} (he : ∀ k j, 82 ≤ k → k ≤ 87 → j < Q → zz s2 k j = zz s k j) (hw : WFr W s s2) (hQ : Q ≤ Q2) (hW : W ≤ W2) : ∀ (st : aSt) (w : Nat), (∀ j, j < w → zz s2 88 j = zz s 88 j ∧ zz s2 89 j = zz s 89 j) → SK s v W Q st w → SK s2 v W2 Q2 st w := by
  intro st
  induction st with
  | nil => intro w _ _; trivial
  | cons q st ih =>
    intro w e h
    cases w with
    | zero => exact h
    | succ w =>
      obtain ⟨h1, ⟨p, h2, h3⟩, h4⟩ := h
      obtain ⟨e1, e2⟩ := e w (Nat.lt_succ_self _)
      exact ⟨e1.trans h1, ⟨p, e2.trans h2, PH.keep he hw hQ hW _ _ h3⟩, ih w (fun j hj => e j (by omega)) h4⟩
/-- the variables of a binder -/
def BK (s : aZ) (v : Nat → Int) (W : Nat) : aSt → Nat → Prop
  | [], _ => True
  | _ :: _, 0 => False
  | q :: vs, b + 1 => zz s 90 b = q.1 ∧ TyP s v W q.2 (zz s 91 b) ∧ BK s v W vs b
theorem BK.keep {s s2 : aZ} {v : Nat → Int} {W W2 : Nat} (hw : WFr W s s2) (hW : W ≤ W2) : ∀ (st : aSt) (w : Nat), (∀ j, j < w → zz s2 90 j = zz s 90 j ∧ zz s2 91 j = zz s 91 j) → BK s v W st w → BK s2 v W2 st w := by
  intro st
  induction st with
  | nil => intro w _ _; trivial
  | cons q st ih =>
    intro w e h
    cases w with
    | zero => exact h
    | succ w =>
      obtain ⟨h1, h2, h4⟩ := h
      obtain ⟨e1, e2⟩ := e w (Nat.lt_succ_self _)
      refine ⟨e1.trans h1, ?_, ih w (fun j hj => e j (by omega)) h4⟩
      rw [e2]
      exact h2.keep hw hW
/-- a new part -/
def nwT (s : aZ) (Q : Nat) (f a b c w h : Int) : aZ := zu (zu (zu (zu (zu (zu (zu s 82 Q f) 83 Q a) 84 Q b) 85 Q c) 86 Q w) 87 Q h) 56 41 ((Q : Int) + 1)
theorem nwT_at (s : aZ) (Q : Nat) (f a b c w h : Int) (hQ : Q < 30100) (hf : inR f) (ha : inR a) (hb : inR b) (hc : inR c) (hw : inR w) (hh : inR h) : zz (nwT s Q f a b c w h) 82 Q = f ∧ zz (nwT s Q f a b c w h) 83 Q = a ∧ zz (nwT s Q f a b c w h) 84 Q = b ∧ zz (nwT s Q f a b c w h) 85 Q = c ∧ zz (nwT s Q f a b c w h) 86 Q = w ∧ zz (nwT s Q f a b c w h) 87 Q = h ∧ zz (nwT s Q f a b c w h) 56 41 = ((Q + 1 : Nat) : Int) := by
  unfold nwT
  refine ⟨?_, ?_, ?_, ?_, ?_, ?_, ?_⟩
  · rw [zz_ne _ _ _ _ _ _ (by omega), zz_ne _ _ _ _ _ _ (by omega), zz_ne _ _ _ _ _ _ (by omega), zz_ne _ _ _ _ _ _ (by omega), zz_ne _ _ _ _ _ _ (by omega), zz_ne _ _ _ _ _ _ (by omega), zz_same _ _ _ hf]
  · rw [zz_ne _ _ _ _ _ _ (by omega), zz_ne _ _ _ _ _ _ (by omega), zz_ne _ _ _ _ _ _ (by omega), zz_ne _ _ _ _ _ _ (by omega), zz_ne _ _ _ _ _ _ (by omega), zz_same _ _ _ ha]
  · rw [zz_ne _ _ _ _ _ _ (by omega), zz_ne _ _ _ _ _ _ (by omega), zz_ne _ _ _ _ _ _ (by omega), zz_ne _ _ _ _ _ _ (by omega), zz_same _ _ _ hb]
  · rw [zz_ne _ _ _ _ _ _ (by omega), zz_ne _ _ _ _ _ _ (by omega), zz_ne _ _ _ _ _ _ (by omega), zz_same _ _ _ hc]
  · rw [zz_ne _ _ _ _ _ _ (by omega), zz_ne _ _ _ _ _ _ (by omega), zz_same _ _ _ hw]
  · rw [zz_ne _ _ _ _ _ _ (by omega), zz_same _ _ _ hh]
  · rw [zz_same _ _ _ ⟨by omega, by omega⟩]; rfl
theorem nwT_ne (s : aZ) (Q : Nat) (f a b c w h : Int) (k j : Nat) (hk : (82 ≤ k ∧ k ≤ 87 ∧ j ≠ Q) ∨ ((k < 82 ∨ 87 < k) ∧ (k ≠ 56 ∨ j ≠ 41))) : zz (nwT s Q f a b c w h) k j = zz s k j := by
  unfold nwT
  rw [zz_ne _ _ _ _ _ _ (by omega), zz_ne _ _ _ _ _ _ (by omega), zz_ne _ _ _ _ _ _ (by omega), zz_ne _ _ _ _ _ _ (by omega), zz_ne _ _ _ _ _ _ (by omega), zz_ne _ _ _ _ _ _ (by omega), zz_ne _ _ _ _ _ _ (by omega)]
theorem nwT_k (s : aZ) (Q : Nat) (f a b c w h : Int) (k : Nat) (hk : k ≠ 56) (h2 : k < 82 ∨ 87 < k) : nwT s Q f a b c w h k = s k := by
  unfold nwT
  rw [zu_ne _ _ _ _ _ (by omega), zu_ne _ _ _ _ _ (by omega), zu_ne _ _ _ _ _ (by omega), zu_ne _ _ _ _ _ (by omega), zu_ne _ _ _ _ _ (by omega), zu_ne _ _ _ _ _ (by omega), zu_ne _ _ _ _ _ (by omega)]
theorem m_part {d : Nat} {B : aH} (hB : a_Can B) (s : aZ) (l : aZL) (Q : Nat) (hQ : Q < 30100) (h41 : zz s 56 41 = (Q : Nat)) (x1 x2 x3 x4 x5 x6 : Int) (h5 : inR x5) (h6 : inR x6) : a_W d 172 0 [.ref 56, iv x1, iv x2, iv x3, iv x4, iv x5, iv x6] [] (mkH B s l) (fun q => q = (.inl (some (iv (Q : Int))), mkH B (nwT s Q x1 x2 x3 x4 (min x5 100000) (min x6 100000)) l)) := by
  have e : (zz s 56 41).toNat = Q := by omega
  have e2 : zz s 56 41 + 1 - 1 = (Q : Int) := by omega
  refine w172_0 hB x1 x2 x3 x4 x5 x6 s l ⟨⟨by omega, by omega⟩, h5, fun c5 => ⟨h6, fun c6 => ?_, fun c6 => ?_⟩, fun c5 => ⟨h6, fun c6 => ?_, fun c6 => ?_⟩⟩
  · rw [e, e2, h41, Int.min_eq_left c5, Int.min_eq_left c6]; rfl
  · rw [e, e2, h41, Int.min_eq_left c5, Int.min_eq_right (by omega)]; rfl
  · rw [e, e2, h41, Int.min_eq_right (by omega), Int.min_eq_left c6]; rfl
  · rw [e, e2, h41, Int.min_eq_right (by omega), Int.min_eq_right (by omega)]; rfl
/-- what reading a term may touch of the reference -/
def FrP (s s2 : aZ) (l l2 : aZL) : Prop := (∀ k, k ≠ 56 → (k < 71 ∨ 91 < k) → s2 k = s k) ∧ (∀ j, j ∉ [5, 22, 23, 25, 26, 31, 32, 33, 41, 48, 51] → zz s2 56 j = zz s 56 j) ∧ ∀ k, k ≠ 74 → k ≠ 63 → l2 k = l k
/-- and what it leaves: parts, written types, what waits, variables -/
def FrBl (Q W wt bd : Nat) (s s2 : aZ) : Prop := (∀ k j, 82 ≤ k → k ≤ 87 → j < Q → zz s2 k j = zz s k j) ∧ WFr W s s2 ∧ (∀ j, j < wt → zz s2 88 j = zz s 88 j ∧ zz s2 89 j = zz s 89 j) ∧ (∀ j, j < bd → zz s2 90 j = zz s 90 j ∧ zz s2 91 j = zz s 91 j)
def FP (Q W wt bd : Nat) (s s2 : aZ) (l l2 : aZL) : Prop := FrP s s2 l l2 ∧ FrBl Q W wt bd s s2
theorem FP.rf (Q W wt bd : Nat) (s : aZ) (l : aZL) : FP Q W wt bd s s l l := ⟨⟨fun _ _ _ => rfl, fun _ _ => rfl, fun _ _ _ => rfl⟩, fun _ _ _ _ _ => rfl, WFr.rf W s, fun _ _ => ⟨rfl, rfl⟩, fun _ _ => ⟨rfl, rfl⟩⟩
theorem FP.tr {Q W wt bd Q2 W2 wt2 bd2 : Nat} {s1 s2 s3 : aZ} {l1 l2 l3 : aZL} (a : FP Q W wt bd s1 s2 l1 l2) (b : FP Q2 W2 wt2 bd2 s2 s3 l2 l3) (h : Q ≤ Q2 ∧ W ≤ W2 ∧ wt ≤ wt2 ∧ bd ≤ bd2) : FP Q W wt bd s1 s3 l1 l3 := by
  obtain ⟨⟨a1, a2, a3⟩, a4, a5, a6, a7⟩ := a
  obtain ⟨⟨b1, b2, b3⟩, b4, b5, b6, b7⟩ := b
  exact ⟨⟨fun k h1 h2 => (b1 k h1 h2).trans (a1 k h1 h2), fun j hj => (b2 j hj).trans (a2 j hj), fun k h1 h2 => (b3 k h1 h2).trans (a3 k h1 h2)⟩, fun k j h1 h2 hj => (b4 k j h1 h2 (by omega)).trans (a4 k j h1 h2 hj), a5.tr b5 h.2.1, fun j hj => ⟨(b6 j (by omega)).1.trans (a6 j hj).1, (b6 j (by omega)).2.trans (a6 j hj).2⟩, fun j hj => ⟨(b7 j (by omega)).1.trans (a7 j hj).1, (b7 j (by omega)).2.trans (a7 j hj).2⟩⟩
theorem FP.mono {Q W wt bd Q2 W2 wt2 bd2 : Nat} {s s2 : aZ} {l l2 : aZL} (b : FP Q2 W2 wt2 bd2 s s2 l l2) (h : Q ≤ Q2 ∧ W ≤ W2 ∧ wt ≤ wt2 ∧ bd ≤ bd2) : FP Q W wt bd s s2 l l2 := (FP.rf Q W wt bd s l).tr b h
theorem FrM.fp {s s2 : aZ} {l l2 : aZL} (b : FrM s s2 l l2) (Q W wt bd : Nat) : FP Q W wt bd s s2 l l2 := by
  have z : ∀ k, 75 ≤ k → ∀ j, zz s2 k j = zz s k j := fun k h j => zz_of (b.1 k (by omega) (by omega) (by omega) (by omega)) j
  exact ⟨⟨fun k h1 h2 => b.1 k h1 (by omega) (by omega) (by omega), fun j hj => b.2.1 j (fun q => hj (by simp only [List.mem_cons, List.not_mem_nil, or_false] at q ⊢; omega)), b.2.2⟩, fun k j h1 _ _ => z k (by omega) j, b.wf W, fun j _ => ⟨z 88 (by decide) j, z 89 (by decide) j⟩, fun j _ => ⟨z 90 (by decide) j, z 91 (by decide) j⟩⟩
theorem FrW.fp {s s2 : aZ} {l l2 : aZL} (b : FrW s s2 l l2) {W : Nat} (g : WFr W s s2) (Q wt bd : Nat) : FP Q W wt bd s s2 l l2 := by
  have z : ∀ k, 82 ≤ k → ∀ j, zz s2 k j = zz s k j := fun k h j => zz_of (b.1 k (by omega) (by omega) (by omega) (by omega) (by omega)) j
  exact ⟨⟨fun k h1 h2 => b.1 k h1 (by omega) (by omega) (by omega) (by omega), fun j hj => b.2.1 j (fun q => hj (by simp only [List.mem_cons, List.not_mem_nil, or_false] at q ⊢; omega)), b.2.2⟩, fun k j h1 _ _ => z k h1 j, g, fun j _ => ⟨z 88 (by decide) j, z 89 (by decide) j⟩, fun j _ => ⟨z 90 (by decide) j, z 91 (by decide) j⟩⟩
theorem FP.z56 (Q W wt bd : Nat) (s : aZ) (l : aZL) (j : Nat) (x : Int) (hj : j ∈ [5, 22, 23, 25, 26, 31, 32, 33, 41, 48, 51]) : FP Q W wt bd s (zu s 56 j x) l l := by
  have z : ∀ k i, k ≠ 56 → zz (zu s 56 j x) k i = zz s k i := fun k i h => zz_ne _ _ _ _ _ _ (fun q => h q.1)
  exact ⟨⟨fun k h1 _ => zu_ne _ _ _ _ _ h1, fun i hi => zz_ne _ _ _ _ _ _ (fun q => hi (by rw [q.2]; exact hj)), fun _ _ _ => rfl⟩, fun k i h1 _ _ => z k i (by omega), WFr.k56 W s j x, fun i _ => ⟨z 88 i (by decide), z 89 i (by decide)⟩, fun i _ => ⟨z 90 i (by decide), z 91 i (by decide)⟩⟩
theorem FP.nw (W wt bd : Nat) (s : aZ) (l : aZL) (Q : Nat) (f a b c w h : Int) : FP Q W wt bd s (nwT s Q f a b c w h) l l := by
  have z : ∀ k i, k ≠ 56 → (k < 82 ∨ 87 < k) → zz (nwT s Q f a b c w h) k i = zz s k i := fun k i h1 h2 => nwT_ne _ _ _ _ _ _ _ _ _ _ (by omega)
  exact ⟨⟨fun k h1 h2 => nwT_k _ _ _ _ _ _ _ _ _ h1 (by omega), fun i hi => nwT_ne _ _ _ _ _ _ _ _ _ _ (Or.inr ⟨by decide, Or.inr (fun q => hi (by rw [q]; decide))⟩), fun _ _ _ => rfl⟩, fun k i h1 h2 h3 => nwT_ne _ _ _ _ _ _ _ _ _ _ (by omega), fun k h1 h2 j _ => z k j (by omega) (by omega), fun i _ => ⟨z 88 i (by decide) (by decide), z 89 i (by decide) (by decide)⟩, fun i _ => ⟨z 90 i (by decide) (by decide), z 91 i (by decide) (by decide)⟩⟩
/-- tokens stay -/
def KpT (s s2 : aZ) : Prop := (s2 57 = s 57 ∧ s2 71 = s 71 ∧ s2 72 = s 72 ∧ s2 73 = s 73) ∧ ∀ j, j ∈ [5, 22, 23, 24, 25, 26, 31] → zz s2 56 j = zz s 56 j
section
variable {t : Nat → Int} {n : Nat} {vs : List (List Int)}
theorem MC.kp {m i : Nat} {s s2 : aZ} {l : aZL} (h : MC t n vs m i s l) (k : KpT s s2) : MC t n vs m i s2 l := by
  obtain ⟨c1, c2, c3, c4, c5, c6, c7, c8, c9⟩ := h
  obtain ⟨⟨k57, k71, k72, k73⟩, f⟩ := k
  refine ⟨⟨(f 24 (by decide)).trans c1.1, c1.2.1, fun j hj => ⟨(zz_of k57 j).trans (c1.2.2 j hj).1, (c1.2.2 j hj).2⟩⟩, (f 22 (by decide)).trans c2, (f 23 (by decide)).trans c3, (f 31 (by decide)).trans c4, (f 26 (by decide)).trans c5, (f 25 (by decide)).trans c6, c7.fr (f 5 (by decide)) rfl, fun j hj => ?_, c9⟩
  obtain ⟨t1, t2, t3, t4, t5, t6⟩ := c8 j hj
  exact ⟨t1, (zz_of k71 j).trans t2, (zz_of k72 j).trans t3, fun q => (zz_of k73 j).trans (t4 q), fun q => (zz_of k73 j).trans (t5 q), t6⟩
theorem MF.kp {f p : Int} {s s2 : aZ} {l : aZL} (h : MF t n f p vs s l) (k : KpT s s2) : MF t n f p vs s2 l := by
  obtain ⟨c1, c2, c3, c4, c5, c6, c7⟩ := h
  obtain ⟨⟨k57, k71, k72, k73⟩, f⟩ := k
  have e := f 31 (by decide)
  exact ⟨⟨(f 24 (by decide)).trans c1.1, c1.2.1, fun j hj => ⟨(zz_of k57 j).trans (c1.2.2 j hj).1, (c1.2.2 j hj).2⟩⟩, c2, (f 22 (by decide)).trans c3, (f 23 (by decide)).trans c4, by omega, by omega, c7.fr (f 5 (by decide)) rfl⟩
theorem MAt.kp {i : Nat} {s s2 : aZ} {l : aZL} (h : MAt t n vs i s l) (k : KpT s s2) : MAt t n vs i s2 l := ⟨h.1.elim (fun c => Or.inl (c.kp k)) (fun c => Or.inr (c.kp k)), h.2⟩
theorem KpT.nw (s : aZ) (Q : Nat) (f a b c w h : Int) : KpT s (nwT s Q f a b c w h) := by
  refine ⟨⟨nwT_k _ _ _ _ _ _ _ _ _ (by decide) (by decide), nwT_k _ _ _ _ _ _ _ _ _ (by decide) (by decide), nwT_k _ _ _ _ _ _ _ _ _ (by decide) (by decide), nwT_k _ _ _ _ _ _ _ _ _ (by decide) (by decide)⟩, fun j hj => nwT_ne _ _ _ _ _ _ _ _ _ _ (Or.inr ⟨by decide, Or.inr ?_⟩)⟩
  rintro rfl
  exact absurd hj (by decide)
theorem KpT.z56 (s : aZ) (j : Nat) (x : Int) (hj : j ∉ [5, 22, 23, 24, 25, 26, 31]) : KpT s (zu s 56 j x) := ⟨⟨zu_ne _ _ _ _ _ (by decide), zu_ne _ _ _ _ _ (by decide), zu_ne _ _ _ _ _ (by decide), zu_ne _ _ _ _ _ (by decide)⟩, fun i hi => zz_ne _ _ _ _ _ _ (fun q => hj (by rw [← q.2]; exact hi))⟩
theorem KpT.zk (s : aZ) (k j : Nat) (x : Int) (hk : k ∉ [56, 57, 71, 72, 73]) : KpT s (zu s k j x) := by
  have hn : ∀ q, q ∈ [56, 57, 71, 72, 73] → q ≠ k := fun q hq e => hk (by rw [← e]; exact hq)
  exact ⟨⟨zu_ne _ _ _ _ _ (hn 57 (by decide)), zu_ne _ _ _ _ _ (hn 71 (by decide)), zu_ne _ _ _ _ _ (hn 72 (by decide)), zu_ne _ _ _ _ _ (hn 73 (by decide))⟩, fun i _ => zz_ne _ _ _ _ _ _ (fun q => hn 56 (by decide) q.1)⟩
theorem KpT.tr {s1 s2 s3 : aZ} (a : KpT s1 s2) (b : KpT s2 s3) : KpT s1 s3 := ⟨⟨b.1.1.trans a.1.1, b.1.2.1.trans a.1.2.1, b.1.2.2.1.trans a.1.2.2.1, b.1.2.2.2.trans a.1.2.2.2⟩, fun j hj => (b.2 j hj).trans (a.2 j hj)⟩
end
/-- the numbers of parts, written types, the depth, what waits, variables -/
def MS (Q W dep wt bd : Nat) (s : aZ) : Prop := zz s 56 41 = (Q : Nat) ∧ zz s 56 33 = (W : Nat) ∧ zz s 56 32 = (dep : Nat) ∧ zz s 56 48 = (wt : Nat) ∧ zz s 56 51 = (bd : Nat)
theorem MS.m {Q W dep wt bd : Nat} {s s2 : aZ} {l l2 : aZL} (h : MS Q W dep wt bd s) (f : FrM s s2 l l2) : MS Q W dep wt bd s2 := ⟨(f.2.1 41 (by decide)).trans h.1, (f.2.1 33 (by decide)).trans h.2.1, (f.2.1 32 (by decide)).trans h.2.2.1, (f.2.1 48 (by decide)).trans h.2.2.2.1, (f.2.1 51 (by decide)).trans h.2.2.2.2⟩
theorem MS.z56 {Q W dep wt bd : Nat} {s : aZ} (h : MS Q W dep wt bd s) (j : Nat) (x : Int) (hj : j ∉ [41, 33, 32, 48, 51]) : MS Q W dep wt bd (zu s 56 j x) := by
  have z : ∀ i, i ∈ [41, 33, 32, 48, 51] → zz (zu s 56 j x) 56 i = zz s 56 i := fun i hi => zz_ne _ _ _ _ _ _ (fun q => hj (by rw [← q.2]; exact hi))
  exact ⟨(z 41 (by decide)).trans h.1, (z 33 (by decide)).trans h.2.1, (z 32 (by decide)).trans h.2.2.1, (z 48 (by decide)).trans h.2.2.2.1, (z 51 (by decide)).trans h.2.2.2.2⟩
theorem MS.zk {Q W dep wt bd : Nat} {s : aZ} (h : MS Q W dep wt bd s) (k j : Nat) (x : Int) (hk : k ≠ 56) : MS Q W dep wt bd (zu s k j x) := by
  have z : ∀ i, zz (zu s k j x) 56 i = zz s 56 i := fun i => zz_ne _ _ _ _ _ _ (fun q => hk q.1.symm)
  exact ⟨(z 41).trans h.1, (z 33).trans h.2.1, (z 32).trans h.2.2.1, (z 48).trans h.2.2.2.1, (z 51).trans h.2.2.2.2⟩
theorem MS.nw {Q W dep wt bd : Nat} {s : aZ} (h : MS Q W dep wt bd s) (hQ : Q < 30100) (f a b c w g : Int) : MS (Q + 1) W dep wt bd (nwT s Q f a b c w g) := by
  have z : ∀ i, i ≠ 41 → zz (nwT s Q f a b c w g) 56 i = zz s 56 i := fun i hi => nwT_ne _ _ _ _ _ _ _ _ _ _ (Or.inr ⟨by decide, Or.inr hi⟩)
  refine ⟨?_, (z 33 (by decide)).trans h.2.1, (z 32 (by decide)).trans h.2.2.1, (z 48 (by decide)).trans h.2.2.2.1, (z 51 (by decide)).trans h.2.2.2.2⟩
  unfold nwT
  rw [zz_same _ _ _ ⟨by omega, by omega⟩]
  rfl
/-- in [W, W2) a large one only where D -/
def LgJ (W W2 : Nat) (s : aZ) (D : Prop) : Prop := ∀ j, W ≤ j → j < W2 → (40 < zz s 80 j ∨ 12 < zz s 81 j) → D
theorem LgJ.nil (W : Nat) (s : aZ) (D : Prop) : LgJ W W s D := fun j h1 h2 _ => by omega
theorem LgJ.keep {W W2 : Nat} {s s2 : aZ} {D : Prop} (h : LgJ W W2 s D) (hw : WFr W2 s s2) : LgJ W W2 s2 D := fun j h1 h2 h3 => h j h1 h2 (by rw [hw 80 (by decide) (by decide) j h2, hw 81 (by decide) (by decide) j h2] at h3; exact h3)
theorem LgJ.cat {W W1 W2 : Nat} {s : aZ} {D D1 D2 : Prop} (h1 : LgJ W W1 s D1) (h2 : LgJ W1 W2 s D2) (e1 : D1 → D) (e2 : D2 → D) : LgJ W W2 s D := fun j a b c => by
  by_cases q : j < W1
  · exact e1 (h1 j a q c)
  · exact e2 (h2 j (by omega) b c)
theorem LgJ.of {s : aZ} {v : Nat → Int} {T : aT} {W W2 : Nat} {w : Int} (h : WI s v T false W W2 w) (e : W2 = W + tyW T) : LgJ W W2 s (40 < tyW T ∨ 12 < tyH T) := fun j a b c => by
  have := (WI.cov T).1 W W2 w h e j a b
  omega
