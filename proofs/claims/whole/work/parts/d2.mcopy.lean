/-! THE REFERENCE COPIES A CONSTANT'S TYPE -/
/-- what it touches: new nodes, the table of variables -/
def FrCp (P g : Nat) (s s2 : aZ) : Prop := (∀ k, k ≠ 56 → (k < 64 ∨ 67 < k) → k ≠ 94 → k ≠ 95 → s2 k = s k) ∧ (∀ j, j ≠ 16 → j ≠ 58 → zz s2 56 j = zz s 56 j) ∧ (∀ k, 64 ≤ k → k ≤ 67 → ∀ j, j < P → zz s2 k j = zz s k j) ∧ ∀ j, j < g → zz s2 94 j = zz s 94 j ∧ zz s2 95 j = zz s 95 j
theorem FrCp.rf (P g : Nat) (s : aZ) : FrCp P g s s := ⟨fun _ _ _ _ _ => rfl, fun _ _ _ => rfl, fun _ _ _ _ _ => rfl, fun _ _ => ⟨rfl, rfl⟩⟩
theorem FrCp.tr {P g P2 g2 : Nat} {s1 s2 s3 : aZ} (a : FrCp P g s1 s2) (b : FrCp P2 g2 s2 s3) (hP : P ≤ P2) (hg : g ≤ g2) : FrCp P g s1 s3 := ⟨fun k h1 h2 h3 h4 => (b.1 k h1 h2 h3 h4).trans (a.1 k h1 h2 h3 h4), fun j h1 h2 => (b.2.1 j h1 h2).trans (a.2.1 j h1 h2), fun k h1 h2 j hj => (b.2.2.1 k h1 h2 j (by omega)).trans (a.2.2.1 k h1 h2 j hj), fun j hj => ⟨(b.2.2.2 j (by omega)).1.trans (a.2.2.2 j hj).1, (b.2.2.2 j (by omega)).2.trans (a.2.2.2 j hj).2⟩⟩
theorem FrCp.nd (P g : Nat) (s : aZ) (c x y : Int) : FrCp P g s (ndM s P c x y) := by
  refine ⟨fun k h1 h2 h3 h4 => ?_, fun j h1 h2 => ndM_ne _ _ _ _ _ _ _ (by omega), fun k h1 h2 j hj => ndM_ne _ _ _ _ _ _ _ (by omega), fun j hj => ⟨ndM_ne _ _ _ _ _ _ _ (by omega), ndM_ne _ _ _ _ _ _ _ (by omega)⟩⟩
  unfold ndM
  rw [zu_ne _ _ _ _ _ h1, zu_ne _ _ _ _ _ (by omega), zu_ne _ _ _ _ _ (by omega), zu_ne _ _ _ _ _ (by omega), zu_ne _ _ _ _ _ (by omega)]
/-- the variables met so far and their nodes -/
def GnI (P0 P g : Nat) (s : aZ) : Prop := ∀ i, i < g → (P0 ≤ zz s 95 i ∧ zz s 95 i < P) ∧ zz s 64 (zz s 95 i).toNat = -1 ∧ zz s 94 i < 0 ∧ ∀ j, j < i → zz s 94 j ≠ zz s 94 i ∧ zz s 95 j ≠ zz s 95 i
theorem GnI.keep {P0 P P2 g : Nat} {s s2 : aZ} (h : GnI P0 P g s) (f : FrCp P g s s2) (hP : P ≤ P2) : GnI P0 P2 g s2 := fun i hi => by
  obtain ⟨h1, h2, h3, h4⟩ := h i hi
  rw [(f.2.2.2 i hi).1, (f.2.2.2 i hi).2, f.2.2.1 64 (by decide) (by decide) _ (by omega)]
  refine ⟨⟨h1.1, by omega⟩, h2, h3, fun j hj => ?_⟩
  rw [(f.2.2.2 j (by omega)).1, (f.2.2.2 j (by omega)).2]
  exact h4 j hj
/-- node w copies this type -/
def CV (s : aZ) (P g : Nat) : aT → Int → Prop
  | .leaf _, w => w = -1
  | .branch e x y, w => if dec e < 0 then ∃ i, i < g ∧ zz s 94 i = dec e ∧ zz s 95 i = w else (0 ≤ w ∧ w < P) ∧ zz s 64 w.toNat = dec e ∧ CV s P g x (zz s 65 w.toNat) ∧ CV s P g y (zz s 66 w.toNat)
theorem CV.v {s : aZ} {P g e : Nat} {x y : aT} {w : Int} (h : dec e < 0) : CV s P g (.branch e x y) w ↔ ∃ i, i < g ∧ zz s 94 i = dec e ∧ zz s 95 i = w := by
  show (if dec e < 0 then _ else _) ↔ _
  rw [if_pos h]
theorem CV.n {s : aZ} {P g e : Nat} {x y : aT} {w : Int} (h : ¬ dec e < 0) : CV s P g (.branch e x y) w ↔ ((0 ≤ w ∧ w < P) ∧ zz s 64 w.toNat = dec e ∧ CV s P g x (zz s 65 w.toNat) ∧ CV s P g y (zz s 66 w.toNat)) := by
  show (if dec e < 0 then _ else _) ↔ _
  rw [if_neg h]
theorem CV.keep {P P2 g g2 : Nat} {s s2 : aZ} (f : FrCp P g s s2) (hP : P ≤ P2) (hg : g ≤ g2) : ∀ (C : aT) (w : Int), CV s P g C w → CV s2 P2 g2 C w := by
  intro C
  induction C with
  | leaf q => intro w h; exact h
  | branch e x y ihx ihy =>
    intro w h
    by_cases c : dec e < 0
    · rw [CV.v c] at h ⊢
      obtain ⟨i, h1, h2, h3⟩ := h
      exact ⟨i, by omega, (f.2.2.2 i h1).1.trans h2, (f.2.2.2 i h1).2.trans h3⟩
    · rw [CV.n c] at h ⊢
      obtain ⟨h1, h2, h3, h4⟩ := h
      have z : ∀ k, 64 ≤ k → k ≤ 67 → zz s2 k w.toNat = zz s k w.toNat := fun k a b => f.2.2.1 k a b _ (by omega)
      refine ⟨⟨h1.1, by omega⟩, (z 64 (by decide) (by decide)).trans h2, ?_, ?_⟩
      · rw [z 65 (by decide) (by decide)]; exact ihx _ h3
      · rw [z 66 (by decide) (by decide)]; exact ihy _ h4
theorem CV.rng {s : aZ} {P0 P g : Nat} (hG : GnI P0 P g s) : ∀ (C : aT) (w : Int), CV s P g C w → -1 ≤ w ∧ w < P ∧ (0 ≤ w ↔ isB C = 1) := by
  intro C w h
  cases C with
  | leaf q => have h : w = -1 := h; subst h; exact ⟨by omega, by omega, fun c => absurd c (by decide), fun c => absurd c (by show ¬ (0 : Nat) = 1; decide)⟩
  | branch e x y =>
    by_cases c : dec e < 0
    · obtain ⟨i, h1, h2, h3⟩ := (CV.v c).mp h
      have := (hG i h1).1
      exact ⟨by omega, by omega, fun _ => rfl, fun _ => by omega⟩
    · obtain ⟨h1, -⟩ := (CV.n c).mp h
      exact ⟨by omega, by omega, fun _ => rfl, fun _ => by omega⟩
section
variable {B : aH} {ta : List Int} {N : Nat}
/-- what copying comes to -/
def CpO (B : aH) (ta : List Int) (C : aT) (P0 P g : Nat) (s : aZ) (l : aZL) (q : aR) : Prop := ∃ (s2 : aZ) (r : Int) (P2 g2 : Nat), q = (.inl (some (iv r)), mkH B s2 l) ∧ FrCp P g s s2 ∧ (zz s2 56 16 = (P2 : Nat) ∧ P ≤ P2 ∧ P2 ≤ P + (pre C).length) ∧ (zz s2 56 58 = (g2 : Nat) ∧ g ≤ g2 ∧ g2 ≤ g + (pre C).length) ∧ GnI P0 P2 g2 s2 ∧ BkM (arT ta) P0 P2 s2 ∧ CV s2 P2 g2 C r
/-- a variable -/
theorem m_cpv (hB : a_Can B) {d : Nat} (hd : 2 ≤ d) (l : aZL) (e : Nat) (x y : aT) (hc : dec e < 0) (hr : inR (dec e)) (w P0 P g : Nat) (hw : w < 60000) (s : aZ) (h0 : P0 ≤ P) (hP : P < 60000) (hg : g < 48) (e64 : zz s 64 w = dec e) (hwP : w < P) (h16 : zz s 56 16 = (P : Nat)) (h58 : zz s 56 58 = (g : Nat)) (hG : GnI P0 P g s) (hK : BkM (arT ta) P0 P s) : ∀ (r k : Nat), k + r = g → (∀ i, i < k → zz s 94 i ≠ dec e) → a_W d 190 14 [.ref 56, iv (w : Int), iv (k : Int), .retAddr 0] [] (mkH B s l) (CpO B ta (.branch e x y) P0 P g s l) := by
  intro r
  induction r with
  | zero =>
    intro k hk hn
    have ek : k = g := by omega
    subst ek
    refine w190_14 hB (by omega) _ _ s l ⟨⟨by omega, by omega⟩, fun _ => ⟨⟨by omega, by omega⟩, ⟨by omega, by omega⟩, ?_⟩, fun c => absurd c (by omega)⟩
    rw [h58, natc, natc, e64]
    have z1 : ∀ c j, c ≠ 94 → zz (zu s 94 k (dec e)) c j = zz s c j := fun c j h => zz_ne _ _ _ _ _ _ (by omega)
    have z1k : ∀ c, c ≠ 94 → (zu s 94 k (dec e)) c = s c := fun c h => zu_ne _ _ _ _ _ h
    have z2 : zz (zu s 94 k (dec e)) 94 k = dec e := zz_same _ _ _ hr
    have z3 : ∀ j, j < k → zz (zu s 94 k (dec e)) 94 j = zz s 94 j := fun j hj => zz_ne _ _ _ _ _ _ (by omega)
    generalize (zu s 94 k (dec e)) = s1 at *
    refine w191_0 hB (by omega) s1 l ?_
    rw [z1 56 16 (by decide), h16, natc]
    refine ⟨⟨by omega, by omega⟩, _, _, l, rfl, ?_⟩
    rw [show zu (zu (zu (zu (zu s1 64 P (-1)) 65 P (-1)) 66 P (-1)) 67 P (-1)) 56 16 ((P : Int) + 1) = ndM s1 P (-1) (-1) (-1) from rfl, show (P : Int) + 1 - 1 = (P : Int) by omega]
    have nn := fun c j h => ndM_ne s1 P (-1) (-1) (-1) c j h
    obtain ⟨n1, n2, n3, n4, n5⟩ := ndM_at s1 P (-1) (-1) (-1) hP (by decide) (by decide) (by decide)
    have hK2 : BkM (arT ta) P0 (P + 1) (ndM s1 P (-1) (-1) (-1)) := (hK.keep (fun c a b k' _ => z1 c k' (by omega))).nd h0 hP (-1) (-1) (-1) (by decide) ⟨by omega, by omega⟩ ⟨by omega, by omega⟩ (by decide) (fun c => absurd rfl c) (fun _ => ⟨by decide, by decide⟩)
    have fr1 := FrCp.nd P k s1 (-1) (-1) (-1)
    generalize ndM s1 P (-1) (-1) (-1) = s2 at *
    rw [nn 56 58 (by omega), z1 56 58 (by decide), h58, show (k : Int) + 1 - 1 = (k : Int) by omega, natc]
    have y1 : ∀ c j, c ≠ 95 → (c ≠ 56 ∨ j ≠ 58) → zz (zu (zu s2 95 k (P : Int)) 56 58 ((k : Int) + 1)) c j = zz s2 c j := fun c j h1 h2 => by rw [zz_ne _ _ _ _ _ _ (by omega), zz_ne _ _ _ _ _ _ (by omega)]
    have y2 : zz (zu (zu s2 95 k (P : Int)) 56 58 ((k : Int) + 1)) 95 k = (P : Int) := by rw [zz_ne _ _ _ _ _ _ (by omega)]; exact zz_same _ _ _ ⟨by omega, by omega⟩
    have y3 : ∀ j, j < k → zz (zu (zu s2 95 k (P : Int)) 56 58 ((k : Int) + 1)) 95 j = zz s 95 j := fun j hj => by rw [zz_ne _ _ _ _ _ _ (by omega), zz_ne _ _ _ _ _ _ (by omega), nn 95 j (by omega), z1 95 j (by decide)]
    have y4 : zz (zu (zu s2 95 k (P : Int)) 56 58 ((k : Int) + 1)) 56 58 = ((k + 1 : Nat) : Int) := by rw [zz_same _ _ _ ⟨by omega, by omega⟩]; rfl
    have yk : ∀ c, c ≠ 56 → c ≠ 95 → (zu (zu s2 95 k (P : Int)) 56 58 ((k : Int) + 1)) c = s2 c := fun c h1 h2 => by rw [zu_ne _ _ _ _ _ h1, zu_ne _ _ _ _ _ h2]
    have e95 : zz (zu s2 95 k (P : Int)) 95 k = (P : Int) := zz_same _ _ _ ⟨by omega, by omega⟩
    rw [e95]
    refine ⟨⟨by omega, by omega⟩, ?_⟩
    generalize (zu (zu s2 95 k (P : Int)) 56 58 ((k : Int) + 1)) = s3 at *
    have l1 : 1 ≤ (pre (.branch e x y)).length := by rw [pre_len]; omega
    have frS : FrCp P k s s3 := by
      refine ⟨fun c h1 h2 h3 h4 => (yk c h1 h4).trans ((fr1.1 c h1 h2 h3 h4).trans (z1k c h3)), fun j h1 h2 => ?_, fun c h1 h2 j hj => ?_, fun j hj => ⟨?_, y3 j hj⟩⟩
      · rw [y1 56 j (by decide) (Or.inr h2), nn 56 j (by omega), z1 56 j (by decide)]
      · rw [y1 c j (by omega) (Or.inl (by omega)), nn c j (by omega), z1 c j (by omega)]
      · rw [y1 94 j (by decide) (Or.inl (by decide)), nn 94 j (by omega), z3 j hj]
    have g94 : zz s3 94 k = dec e := by rw [y1 94 k (by decide) (Or.inl (by decide)), nn 94 k (by omega), z2]
    refine ⟨s3, P, P + 1, k + 1, rfl, frS, ⟨by rw [y1 56 16 (by decide) (Or.inr (by decide))]; exact n5, by omega, by omega⟩, ⟨y4, by omega, by omega⟩, fun i hi => ?_, hK2.keep (fun c a b k' _ => y1 c k' (by omega) (Or.inl (by omega))), (CV.v hc).mpr ⟨k, by omega, g94, y2⟩⟩
    by_cases ei : i = k
    · subst ei
      rw [y2, g94, natc, y1 64 P (by decide) (Or.inl (by decide))]
      refine ⟨⟨by omega, by omega⟩, n1, hc, fun j hj => ⟨?_, ?_⟩⟩
      · rw [(frS.2.2.2 j hj).1]; exact hn j hj
      · rw [(frS.2.2.2 j hj).2]; have := (hG j hj).1; omega
    · exact (hG.keep frS (Nat.le_succ P)) i (by omega)
  | succ r ih =>
    intro k hk hn
    refine w190_14 hB (by omega) _ _ s l ⟨⟨by omega, by omega⟩, fun c => absurd c (by omega), fun _ => ⟨⟨by omega, by omega⟩, ⟨by omega, by omega⟩, fun c => ?_, fun c => ?_⟩⟩
    · rw [natc, natc, e64] at c
      rw [show (k : Int) + 1 = ((k + 1 : Nat) : Int) by omega]
      refine ih (k + 1) (by omega) (fun i hi => ?_)
      by_cases e : i = k
      · rw [e]; exact c
      · exact hn i (by omega)
    · rw [natc, natc, e64] at c
      rw [natc]
      exact ⟨s, _, P, g, rfl, FrCp.rf _ _ _, ⟨h16, Nat.le_refl _, by omega⟩, ⟨h58, Nat.le_refl _, by omega⟩, hG, hK, (CV.v hc).mpr ⟨k, by omega, c, rfl⟩⟩
theorem m_copy (hB : a_Can B) (l : aZL) {fx : Nat} : ∀ (C : aT), wfC N ta C → isB C = 1 → N ≤ 40 → ∀ (d : Nat) (w : Int) (P0 P g : Nat) (s : aZ), (pre C).length + 1 ≤ d → fx ≤ P0 → P0 ≤ P → P + (pre C).length ≤ 60000 → g + (pre C).length ≤ 48 → NI 64 65 66 s 0 fx C w → zz s 56 16 = (P : Nat) → zz s 56 58 = (g : Nat) → GnI P0 P g s → BkM (arT ta) P0 P s → a_W d 190 0 [.ref 56, iv w, .retAddr 0, .retAddr 0] [] (mkH B s l) (CpO B ta C P0 P g s l) := by
  intro C
  induction C with
  | leaf q => intro _ hb; exact absurd hb (by show ¬ (0 : Nat) = 1; decide)
  | branch e x y ihx ihy =>
    intro hw _ hN d w P0 P g s hd hfx h0 hP hg hI h16 h58 hG hK
    have hl := pre_len e x y
    obtain ⟨i1, i2, i3, i4⟩ := hI
    obtain ⟨W, eW⟩ : ∃ W : Nat, w = W := ⟨w.toNat, by omega⟩
    subst eW
    rw [natc] at i2 i3 i4
    obtain ⟨w1, w2, w3, w4⟩ := hw
    rcases w1 with ⟨v1, v2, v3, v4⟩ | ⟨v1, v2, v3⟩
    · refine w190_0 hB (by omega) _ s l ⟨⟨by omega, by omega⟩, fun c => ?_, fun _ => ?_⟩
      · rw [natc, i2] at c; omega
      · exact m_cpv hB (by omega) l e x y (by omega) ⟨by omega, by omega⟩ W P0 P g (by omega) s h0 (by omega) (by omega) i2 (by omega) h16 h58 hG hK g 0 (by omega) (fun i hi => absurd hi (Nat.not_lt_zero _))
    · refine w190_0 hB (by omega) _ s l ⟨⟨by omega, by omega⟩, fun _ => ⟨fun c => ?_, fun c => ?_⟩, fun c => ?_⟩
      rotate_left
      · rw [natc] at c
        have hx0 : isB x = 0 := by
          cases x with
          | leaf q => rfl
          | branch e2 x2 y2 => have := i3.1; omega
        have hy0 : isB y = 0 := by omega
        refine ⟨s, W, P, g, rfl, FrCp.rf _ _ _, ⟨h16, Nat.le_refl _, by omega⟩, ⟨h58, Nat.le_refl _, by omega⟩, hG, hK, (CV.n (by omega)).mpr ⟨⟨by omega, by omega⟩, by rw [natc]; exact i2, ?_, ?_⟩⟩
        · rw [natc]
          cases x with
          | leaf q => exact i3
          | branch e2 x2 y2 => exact absurd hx0 (by show ¬ (1 : Nat) = 0; decide)
        · rw [natc]
          cases y with
          | leaf q => exact i4
          | branch e2 x2 y2 => exact absurd hy0 (by show ¬ (1 : Nat) = 0; decide)
      · rw [natc, i2] at c; omega
      · rw [natc] at c ⊢
        have hx1 : isB x = 1 := by
          cases x with
          | leaf q => exact absurd i3 c
          | branch e2 x2 y2 => rfl
        refine a_W.imp (ihx w3 hx1 hN (d - 1) _ P0 P g s (by omega) hfx h0 (by omega) (by omega) i3 h16 h58 hG hK) ?_
        rintro _ ⟨s4, r1, P4, g4, rfl, f4, ⟨p1, p2, p3⟩, ⟨q1, q2, q3⟩, G4, K4, V4⟩
        refine ⟨_, s4, l, rfl, ?_⟩
        rw [f4.2.2.1 66 (by decide) (by decide) W (by omega)]
        have rg1 := CV.rng G4 _ _ V4
        have arE : arT ta (dec e) = isB x + isB y := by
          unfold arT
          rw [if_neg (by omega), v3]
          omega
        refine ⟨fun c2 => ?_, fun c2 => ?_⟩
        · have hy1 : isB y = 1 := by
            cases y with
            | leaf q => exact absurd i4 c2
            | branch e2 x2 y2 => rfl
          refine a_W.imp (ihy w4 hy1 hN (d - 1) _ P0 P4 g4 s4 (by omega) hfx (by omega) (by omega) (by omega) (NI.keep (fun k j g' _ g2 => f4.2.2.1 k (by omega) (by omega) j (by omega)) (Nat.le_refl _) (Nat.le_refl _) _ _ i4) p1 q1 G4 K4) ?_
          rintro _ ⟨s8, r2, P8, g8, rfl, f8, ⟨p4, p5, p6⟩, ⟨q4, q5, q6⟩, G8, K8, V8⟩
          have rg2 := CV.rng G8 _ _ V8
          refine ⟨_, s8, l, rfl, ?_⟩
          rw [p4, natc, f8.2.2.1 64 (by decide) (by decide) W (by omega), f4.2.2.1 64 (by decide) (by decide) W (by omega), i2]
          rw [show zu (zu (zu (zu (zu s8 64 P8 (dec e)) 65 P8 r1) 66 P8 r2) 67 P8 (-1)) 56 16 ((P8 : Int) + 1) = ndM s8 P8 (dec e) r1 r2 from rfl, show (P8 : Int) + 1 - 1 = (P8 : Int) by omega]
          obtain ⟨n1, n2, n3, n4, n5⟩ := ndM_at s8 P8 (dec e) r1 r2 (by omega) ⟨by omega, by omega⟩ ⟨by omega, by omega⟩ ⟨by omega, by omega⟩
          have fn := FrCp.nd P8 g8 s8 (dec e) r1 r2
          have hK9 := K8.nd (by omega) (by omega) (dec e) r1 r2 ⟨by omega, by omega⟩ ⟨by omega, by omega⟩ ⟨by omega, by omega⟩ (by omega) (fun _ => by rw [arE]; omega) (fun c => absurd c (by show ¬ dec e = -1; omega))
          have n58 := ndM_ne s8 P8 (dec e) r1 r2 56 58 (by omega)
          generalize ndM s8 P8 (dec e) r1 r2 = s9 at *
          refine ⟨⟨by omega, by omega⟩, s9, P8, P8 + 1, g8, rfl, (f4.tr f8 p2 q2).tr fn (by omega) (by omega), ⟨n5, by omega, by omega⟩, ⟨n58.trans q4, by omega, by omega⟩, G8.keep fn (Nat.le_succ _), hK9, (CV.n (by omega)).mpr ⟨⟨by omega, by omega⟩, by rw [natc]; exact n1, ?_, ?_⟩⟩
          · rw [natc, n2]; exact CV.keep (f8.tr fn (by omega) (by omega)) (by omega) (by omega) _ _ V4
          · rw [natc, n3]; exact CV.keep fn (by omega) (by omega) _ _ V8
        · have hy0 : isB y = 0 := by
            cases y with
            | leaf q => rfl
            | branch e2 x2 y2 => have := i4.1; omega
          have ypr : (pre y).length = 0 := by
            cases y with
            | leaf q => rfl
            | branch e2 x2 y2 => exact absurd hy0 (by show ¬ (1 : Nat) = 0; decide)
          rw [p1, natc, f4.2.2.1 64 (by decide) (by decide) W (by omega), i2]
          rw [show zu (zu (zu (zu (zu s4 64 P4 (dec e)) 65 P4 r1) 66 P4 (-1)) 67 P4 (-1)) 56 16 ((P4 : Int) + 1) = ndM s4 P4 (dec e) r1 (-1) from rfl, show (P4 : Int) + 1 - 1 = (P4 : Int) by omega]
          obtain ⟨n1, n2, n3, n4, n5⟩ := ndM_at s4 P4 (dec e) r1 (-1) (by omega) ⟨by omega, by omega⟩ ⟨by omega, by omega⟩ (by decide)
          have fn := FrCp.nd P4 g4 s4 (dec e) r1 (-1)
          have hK9 := K4.nd (by omega) (by omega) (dec e) r1 (-1) ⟨by omega, by omega⟩ ⟨by omega, by omega⟩ ⟨by omega, by omega⟩ (by omega) (fun _ => by rw [arE]; omega) (fun c => absurd c (by show ¬ dec e = -1; omega))
          have n58 := ndM_ne s4 P4 (dec e) r1 (-1) 56 58 (by omega)
          generalize ndM s4 P4 (dec e) r1 (-1) = s9 at *
          refine ⟨⟨by omega, by omega⟩, s9, P4, P4 + 1, g4, rfl, f4.tr fn (by omega) (by omega), ⟨n5, by omega, by omega⟩, ⟨n58.trans q1, by omega, by omega⟩, G4.keep fn (Nat.le_succ _), hK9, (CV.n (by omega)).mpr ⟨⟨by omega, by omega⟩, by rw [natc]; exact n1, ?_, ?_⟩⟩
          · rw [natc, n2]; exact CV.keep fn (by omega) (by omega) _ _ V4
          · rw [natc, n3]
            cases y with
            | leaf q => exact rfl
            | branch e2 x2 y2 => exact absurd hy0 (by show ¬ (1 : Nat) = 0; decide)
/-- what a copy stands for -/
theorem cv_val {s : aZ} {P0 P g : Nat} {v : Nat → aT} {τ : Int → aT} (hG : GnI P0 P g s) (hV : Vl unM P (vwM s) v) (ht : ∀ i, i < g → ptT v (zz s 95 i) = τ (zz s 94 i)) : ∀ (C : aT) (w : Int), wfC N ta C → CV s P g C w → ptT v w = nsC τ C := by
  intro C
  induction C with
  | leaf q => intro w _ h; have h : w = -1 := h; subst h; rfl
  | branch e x y ihx ihy =>
    intro w hw h
    obtain ⟨w1, w2, w3, w4⟩ := hw
    by_cases c : dec e < 0
    · obtain ⟨i, h1, h2, h3⟩ := (CV.v c).mp h
      rw [nsC_v _ _ _ _ c, ← h3, ht i h1, h2]
    · obtain ⟨h1, h2, h3, h4⟩ := (CV.n c).mp h
      have hk := (hV w.toNat (by omega)).2 (by show zz s 64 w.toNat ≠ -1; omega)
      rw [nsC_n _ _ _ _ (by omega), ptT_p _ _ (by omega), hk, ← ihx _ w3 h3, ← ihy _ w4 h4]
      have e1 : (vwM s).2.1 w.toNat = dec e := h2
      rw [e1, enc_dec (by omega)]
      rfl
end
