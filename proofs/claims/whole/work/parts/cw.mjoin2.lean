/-! THE REFERENCE JOINS TYPES -/
def FrJm (s s2 : aZ) : Prop := (∀ k, k ≠ 56 → k ≠ 67 → k ≠ 92 → k ≠ 93 → s2 k = s k) ∧ ∀ j, j ≠ 22 → j ≠ 23 → zz s2 56 j = zz s 56 j
theorem FrJm.rf (s : aZ) : FrJm s s := ⟨fun _ _ _ _ _ => rfl, fun _ _ _ => rfl⟩
theorem FrJm.tr {s1 s2 s3 : aZ} (a : FrJm s1 s2) (b : FrJm s2 s3) : FrJm s1 s3 := ⟨fun k h1 h2 h3 h4 => (b.1 k h1 h2 h3 h4).trans (a.1 k h1 h2 h3 h4), fun j h1 h2 => (b.2 j h1 h2).trans (a.2 j h1 h2)⟩
section
variable {B : aH} {P : Nat} {ar : Int → Nat}
/-- the pool while types are joined: W waits -/
def JM (ar : Int → Nat) (P : Nat) (s : aZ) (rt u : Nat → Nat) (W : List (Int × Int)) : Prop := PMr P s ∧ Uf P (vwM s) rt u ∧ CdP unM ar P (vwM s) ∧ PCp unM P (vwM s) rt W ∧ (∀ q ∈ W, (0 ≤ q.1 ∧ q.1 < P) ∧ (0 ≤ q.2 ∧ q.2 < P)) ∧ ∀ i, i < W.length → zz s 92 (W.length - 1 - i) = (W.getD i (0, 0)).1 ∧ zz s 93 (W.length - 1 - i) = (W.getD i (0, 0)).2
/-- what joining comes to -/
def JMo (ar : Int → Nat) (P : Nat) (W : List (Int × Int)) (B : aH) (s : aZ) (l : aZL) (q : aR) : Prop := ∃ s2, q = (.inl none, mkH B s2 l) ∧ FrJm s s2 ∧ ((zz s2 56 22 = 3 ∧ zz s2 56 23 = zz s 72 0 ∧ ∀ v, ¬ Vlp unM P (vwM s) W v) ∨ (zz s2 56 22 = 0 ∧ zz s2 56 23 = zz s 56 23 ∧ ∃ rt u, PMr P s2 ∧ Uf P (vwM s2) rt u ∧ CdP unM ar P (vwM s2) ∧ ClP unM P (vwM s2) rt ∧ ∀ v, Vl unM P (vwM s2) v ↔ Vlp unM P (vwM s) W v))
theorem PMr.ln {s : aZ} {a b : Nat} (h : PMr P s) (ha : a < P) (hb : b < P) (hab : a ≠ b) (hP : P ≤ 60000) : PMr P (zu s 67 a (b : Int)) := by
  refine ⟨by rw [zz_ne _ _ _ _ _ _ (by omega)]; exact h.1, fun j hj => ?_⟩
  rw [zz_ne _ _ _ _ _ _ (show ¬ (65 = 67 ∧ j = a) by omega), zz_ne _ _ _ _ _ _ (show ¬ (66 = 67 ∧ j = a) by omega)]
  obtain ⟨h1, h2, h3⟩ := h.2 j hj
  refine ⟨h1, h2, ?_⟩
  by_cases e : j = a
  · subst e
    rw [zz_same _ _ _ ⟨by omega, by omega⟩]
    omega
  · rw [zz_ne _ _ _ _ _ _ (by omega)]
    exact h3
theorem PMr.w {s : aZ} (h : PMr P s) (c j : Nat) (x : Int) (hc : c = 92 ∨ c = 93) : PMr P (zu s c j x) := by
  refine ⟨by rw [zz_ne _ _ _ _ _ _ (by omega)]; exact h.1, fun i hi => ?_⟩
  rw [zz_ne _ _ _ _ _ _ (by omega), zz_ne _ _ _ _ _ _ (by omega), zz_ne _ _ _ _ _ _ (by omega)]
  exact h.2 i hi
theorem vwM_w (s : aZ) (c j : Nat) (x : Int) (hc : c = 92 ∨ c = 93) : vwM (zu s c j x) = vwM s := vwM_of (fun k a b i => zz_ne _ _ _ _ _ _ (by omega))
theorem FrJm.w (s : aZ) (c j : Nat) (x : Int) (hc : c = 92 ∨ c = 93) : FrJm s (zu s c j x) := ⟨fun k h1 h2 h3 h4 => zu_ne _ _ _ _ _ (by omega), fun i h1 h2 => zz_ne _ _ _ _ _ _ (by omega)⟩
theorem m_jloop (hB : a_Can B) (hP : P ≤ 29000) {d : Nat} (hd : 1 ≤ d) (l : aZL) (x1 x2 : Int) : ∀ (φ : Nat) (W : List (Int × Int)) (s : aZ) (rt u : Nat → Nat) (u4 u5 u6 : Value), 2 * nR P (vwM s) + W.length ≤ φ → φ ≤ 59000 → zz s 56 22 = 0 → JM ar P s rt u W → a_W d 193 16 [.ref 56, iv x1, iv x2, iv (W.length : Int), u4, u5, u6] [] (mkH B s l) (JMo ar P W B s l) := by
  intro φ
  induction φ with
  | zero =>
    intro W s rt u u4 u5 u6 hφ _ hf hJ
    obtain ⟨j1, j2, j3, j4, j5, j6⟩ := hJ
    have e : W = [] := List.eq_nil_of_length_eq_zero (by omega)
    subst e
    exact w193_16 hB (by omega) _ _ _ _ _ _ s l ⟨by decide, fun _ => w193_269 hB _ _ _ _ _ _ s l ⟨s, rfl, FrJm.rf s, Or.inr ⟨hf, rfl, rt, u, j1, j2, j3, j4.cl j2, fun v => ⟨fun h => ⟨h, fun q hq => absurd hq List.not_mem_nil⟩, fun h => h.1⟩⟩⟩, fun c => absurd c (by decide)⟩
  | succ φ ih =>
    intro W s rt u u4 u5 u6 hφ hφ2 hf hJ
    obtain ⟨j1, j2, j3, j4, j5, j6⟩ := hJ
    cases W with
    | nil => exact w193_16 hB (by omega) _ _ _ _ _ _ s l ⟨by decide, fun _ => w193_269 hB _ _ _ _ _ _ s l ⟨s, rfl, FrJm.rf s, Or.inr ⟨hf, rfl, rt, u, j1, j2, j3, j4.cl j2, fun v => ⟨fun h => ⟨h, fun q hq => absurd hq List.not_mem_nil⟩, fun h => h.1⟩⟩⟩, fun c => absurd c (by decide)⟩
    | cons q W =>
      obtain ⟨qx, qy⟩ := q
      obtain ⟨⟨a1, a2⟩, ⟨a3, a4⟩⟩ := j5 _ List.mem_cons_self
      obtain ⟨x, ex⟩ : ∃ x : Nat, qx = x := ⟨qx.toNat, by omega⟩
      obtain ⟨y, ey⟩ : ∃ y : Nat, qy = y := ⟨qy.toNat, by omega⟩
      subst ex
      subst ey
      have hx : x < P := by omega
      have hy : y < P := by omega
      have hlen : (((x : Int), (y : Int)) :: W).length = W.length + 1 := rfl
      have t0 := j6 0 (by rw [hlen]; omega)
      have t0x : zz s 92 W.length = (x : Int) := t0.1
      have t0y : zz s 93 W.length = (y : Int) := t0.2
      have j6' : ∀ i, i < W.length → zz s 92 (W.length - 1 - i) = (W.getD i (0, 0)).1 ∧ zz s 93 (W.length - 1 - i) = (W.getD i (0, 0)).2 := fun i hi => by
        have := j6 (i + 1) (by rw [hlen]; omega)
        rw [hlen, show W.length + 1 - 1 - (i + 1) = W.length - 1 - i by omega] at this
        exact this
      have j5' : ∀ q ∈ W, (0 ≤ q.1 ∧ q.1 < P) ∧ (0 ≤ q.2 ∧ q.2 < P) := fun q hq => j5 q (List.mem_cons_of_mem _ hq)
      have em : (((((x : Int), (y : Int)) :: W).length : Nat) : Int) + (-1) = (W.length : Int) := by rw [hlen]; omega
      rw [hlen] at hφ
      obtain ⟨-, x1', x2', -⟩ := j2 x hx
      obtain ⟨-, y1', y2', -⟩ := j2 y hy
      refine w193_16 hB (by omega) _ _ _ _ _ _ s l ⟨⟨by rw [hlen]; omega, by rw [hlen]; omega⟩, fun c => absurd c (by rw [hlen]; omega), fun _ => ⟨fun c => absurd hf c, fun _ => ?_⟩⟩
      rw [em, natc, t0x]
      refine ⟨⟨by omega, by omega⟩, a_W.imp (m_last hB l (by omega) s j1 j2 x hx) ?_⟩
      rintro _ rfl
      refine ⟨_, s, l, rfl, ?_⟩
      rw [t0y]
      refine a_W.imp (m_last hB l (by omega) s j1 j2 y hy) ?_
      rintro _ rfl
      refine ⟨_, s, l, rfl, ⟨by omega, by omega⟩, ⟨by omega, by omega⟩, fun hne => ?_, fun heq => ?_⟩
      rotate_left
      · have he : rt x = rt y := by omega
        refine a_W.imp (ih W s rt u _ _ _ (by omega) (by omega) hf ⟨j1, j2, j3, j4.drop j2 hx hy he, j5', j6'⟩) ?_
        rintro _ ⟨s2, rfl, g1, g2⟩
        refine ⟨s2, rfl, g1, ?_⟩
        rcases g2 with ⟨p1, p2, p3⟩ | ⟨p1, p2, rt2, u2, p3, p4, p5, p6, p7⟩
        · exact Or.inl ⟨p1, p2, fun v hv => p3 v ((Vlp.drop j2 hx hy he v).mp hv)⟩
        · exact Or.inr ⟨p1, p2, rt2, u2, p3, p4, p5, p6, fun v => (p7 v).trans (Vlp.drop j2 hx hy he v).symm⟩
      · have hne' : rt x ≠ rt y := by omega
        obtain ⟨X, eX⟩ : ∃ X, rt x = X := ⟨_, rfl⟩
        obtain ⟨Y, eY⟩ : ∃ Y, rt y = Y := ⟨_, rfl⟩
        rw [eX] at x1' x2' hne' ⊢
        rw [eY] at y1' y2' hne' ⊢
        have kX : (vwM s).2.1 X = zz s 64 X := rfl
        have kY : (vwM s).2.1 Y = zz s 64 Y := rfl
        -- what follows a link
        have lk : ∀ (a b : Nat) (W2 : List (Int × Int)) (s5 : aZ) (v4 v5 v6 : Value), a < P → b < P → a ≠ b → (vwM s).1 a = a → (vwM s).1 b = b → vwM s5 = lnP (vwM s) a b → PMr P s5 → FrJm s s5 → zz s5 56 22 = 0 → zz s5 56 23 = zz s 56 23 → W2.length ≤ W.length + 2 → PCp unM P (lnP (vwM s) a b) (rtL rt a b) W2 → (∀ q ∈ W2, (0 ≤ q.1 ∧ q.1 < P) ∧ (0 ≤ q.2 ∧ q.2 < P)) → (∀ i, i < W2.length → zz s5 92 (W2.length - 1 - i) = (W2.getD i (0, 0)).1 ∧ zz s5 93 (W2.length - 1 - i) = (W2.getD i (0, 0)).2) → (∀ v, Vlp unM P (lnP (vwM s) a b) W2 v ↔ Vlp unM P (vwM s) (((x : Int), (y : Int)) :: W) v) → a_W d 193 16 [.ref 56, iv x1, iv x2, iv (W2.length : Int), v4, v5, v6] [] (mkH B s5 l) (JMo ar P (((x : Int), (y : Int)) :: W) B s l) := by
          intro a b W2 s5 v4 v5 v6 ha hb hab ra rb e5 g1 g2 g3 g4 g5 g6 g7 g8 g9
          have hn := nR_link (P := P) (b := b) ha ra hab
          rw [← e5] at hn g6 g9
          refine a_W.imp (ih W2 s5 (rtL rt a b) (uL rt u a) v4 v5 v6 (by omega) (by omega) g3 ⟨g1, by rw [e5]; exact j2.link ha hb ra rb hab, by rw [e5]; exact j3.of rfl, g6, g7, g8⟩) ?_
          rintro _ ⟨s2, rfl, f1, f2⟩
          refine ⟨s2, rfl, g2.tr f1, ?_⟩
          rcases f2 with ⟨p1, p2, p3⟩ | ⟨p1, p2, rt2, u2, p3, p4, p5, p6, p7⟩
          · exact Or.inl ⟨p1, by rw [p2, zz_of (g2.1 72 (by decide) (by decide) (by decide) (by decide))], fun v hv => p3 v ((g9 v).mpr hv)⟩
          · exact Or.inr ⟨p1, p2.trans g4, rt2, u2, p3, p4, p5, p6, fun v => (p7 v).trans (g9 v)⟩
        have fl : ∀ (a b : Nat), FrJm s (zu s 67 a (b : Int)) := fun a b => ⟨fun k h1 h2 h3 h4 => zu_ne _ _ _ _ _ h2, fun j h1 h2 => zz_ne _ _ _ _ _ _ (by omega)⟩
        have st0 : ∀ (a b : Nat), ∀ i, i < W.length → zz (zu s 67 a (b : Int)) 92 (W.length - 1 - i) = (W.getD i (0, 0)).1 ∧ zz (zu s 67 a (b : Int)) 93 (W.length - 1 - i) = (W.getD i (0, 0)).2 := fun a b i hi => by
          rw [zz_ne _ _ _ _ _ _ (by omega), zz_ne _ _ _ _ _ _ (by omega)]
          exact j6' i hi
        refine ⟨⟨by omega, by omega⟩, ?_⟩
        rw [natc, natc]
        -- an unknown one
        have unX' : zz s 64 X = -1 → a_W d 193 114 [.ref 56, iv x1, iv x2, iv (W.length : Int), iv (X : Int), iv (Y : Int), u6] [] (mkH B s l) (JMo ar P (((x : Int), (y : Int)) :: W) B s l) := fun c => by
          refine w193_114 hB _ _ _ _ _ _ s l ⟨⟨by omega, by omega⟩, ?_⟩
          rw [natc, natc]
          refine ⟨fun _ => w193_140 hB _ _ _ _ _ _ s l ⟨⟨by omega, by omega⟩, ?_⟩, fun c2 => absurd c c2⟩
          rw [natc, natc]
          refine ⟨fun c2 => absurd c c2, fun _ => w193_175 hB _ _ _ _ _ _ _ l ⟨by decide, fun _ => ?_, fun c2 => absurd rfl c2⟩⟩
          exact lk X Y W _ _ _ _ x1' y1' hne' x2' y2' (vwM_ln s X Y (by omega)) (j1.ln x1' y1' hne' (by omega)) (fl X Y) (by rw [zz_ne _ _ _ _ _ _ (by omega)]; exact hf) (zz_ne _ _ _ _ _ _ (by omega)) (by omega) (j4.linkU j2 hx hy (Or.inl ⟨eX, eY⟩) x1' x2' c) j5' (st0 X Y) (fun v => Vlp.linkU j2 hx hy (Or.inl ⟨eX, eY⟩) x1' x2' v)
        have unY' : zz s 64 X ≠ -1 → zz s 64 Y = -1 → a_W d 193 114 [.ref 56, iv x1, iv x2, iv (W.length : Int), iv (X : Int), iv (Y : Int), u6] [] (mkH B s l) (JMo ar P (((x : Int), (y : Int)) :: W) B s l) := fun c0 c => by
          refine w193_114 hB _ _ _ _ _ _ s l ⟨⟨by omega, by omega⟩, ?_⟩
          rw [natc, natc]
          refine ⟨fun c2 => absurd c2 c0, fun _ => ⟨⟨by omega, by omega⟩, fun _ => w193_140 hB _ _ _ _ _ _ s l ⟨⟨by omega, by omega⟩, ?_⟩, fun c2 => absurd c c2⟩⟩
          rw [natc, natc]
          refine ⟨fun _ => ⟨⟨by omega, by omega⟩, w193_175 hB _ _ _ _ _ _ _ l ⟨by decide, fun _ => ?_, fun c2 => absurd rfl c2⟩⟩, fun c2 => absurd c2 c0⟩
          exact lk Y X W _ _ _ _ y1' x1' hne'.symm y2' x2' (vwM_ln s Y X (by omega)) (j1.ln y1' x1' hne'.symm (by omega)) (fl Y X) (by rw [zz_ne _ _ _ _ _ _ (by omega)]; exact hf) (zz_ne _ _ _ _ _ _ (by omega)) (by omega) (j4.linkU j2 hx hy (Or.inr ⟨eX, eY⟩) y1' y2' c) j5' (st0 Y X) (fun v => Vlp.linkU j2 hx hy (Or.inr ⟨eX, eY⟩) y1' y2' v)
        refine ⟨unX', fun c0 => ⟨⟨by omega, by omega⟩, fun c1 => unY' c0 c1, fun c1 => ⟨fun ceq => ?_, fun cne => ?_⟩⟩⟩
        · -- one code
          obtain ⟨⟨r1, r2, r3⟩, -⟩ : ((-1 ≤ zz s 65 X ∧ zz s 65 X < P) ∧ (-1 ≤ zz s 66 X ∧ zz s 66 X < P) ∧ (-1 ≤ zz s 67 X ∧ zz s 67 X < P ∧ zz s 67 X ≠ (X : Int))) ∧ True := ⟨j1.2 X x1', trivial⟩
          obtain ⟨q1, q2, q3⟩ := j1.2 Y y1'
          have cX : (0 ≤ zz s 65 X ↔ 1 ≤ ar (zz s 64 X)) ∧ (0 ≤ zz s 66 X ↔ 2 ≤ ar (zz s 64 X)) := (j3.2 X x1').1 c0
          have cY : (0 ≤ zz s 65 Y ↔ 1 ≤ ar (zz s 64 Y)) ∧ (0 ≤ zz s 66 Y ↔ 2 ≤ ar (zz s 64 Y)) := (j3.2 Y y1').1 c1
          rw [← ceq] at cY
          have i1 : 0 ≤ zz s 65 X ↔ 0 ≤ zz s 65 Y := cX.1.trans cY.1.symm
          have i2 : 0 ≤ zz s 66 X ↔ 0 ≤ zz s 66 Y := cX.2.trans cY.2.symm
          have i3 : 0 ≤ zz s 66 X → 0 ≤ zz s 65 X := fun h => cX.1.mpr (by have := cX.2.mp h; omega)
          have pY1 : (vwM s).2.2.1 Y = zz s 65 Y := rfl
          have pX1 : (vwM s).2.2.1 X = zz s 65 X := rfl
          have pY2 : (vwM s).2.2.2 Y = zz s 66 Y := rfl
          have pX2 : (vwM s).2.2.2 X = zz s 66 X := rfl
          refine w193_114 hB _ _ _ _ _ _ s l ⟨⟨by omega, by omega⟩, ?_⟩
          rw [natc, natc]
          refine ⟨fun c2 => absurd c2 c0, fun _ => ⟨⟨by omega, by omega⟩, fun c2 => absurd c2 c1, fun _ => w193_175 hB _ _ _ _ _ _ _ l ⟨by decide, fun c2 => absurd c2 (by decide), fun _ => ⟨⟨by omega, by omega⟩, ?_⟩⟩⟩⟩
          rw [natc, natc, natc, show ((W.length : Int) + 1).toNat = W.length + 1 by omega]
          have z5 : ∀ k i, k ≠ 67 → zz (zu s 67 Y (X : Int)) k i = zz s k i := fun k i hk => zz_ne _ _ _ _ _ _ (by omega)
          rw [z5 65 X (by decide), z5 66 X (by decide), z5 65 Y (by decide), z5 66 Y (by decide)]
          have ev := vwM_ln s Y X (by omega)
          have hpm := j1.ln y1' x1' hne'.symm (by omega)
          have hff : zz (zu s 67 Y (X : Int)) 56 22 = 0 := (z5 56 22 (by decide)).trans hf
          have hfp : zz (zu s 67 Y (X : Int)) 56 23 = zz s 56 23 := z5 56 23 (by decide)
          have f0 := fl Y X
          have s92 : ∀ i, i < W.length → zz (zu s 67 Y (X : Int)) 92 (W.length - 1 - i) = (W.getD i (0, 0)).1 ∧ zz (zu s 67 Y (X : Int)) 93 (W.length - 1 - i) = (W.getD i (0, 0)).2 := st0 Y X
          generalize zu s 67 Y (X : Int) = s5 at *
          refine ⟨fun n1 => ⟨⟨by omega, by omega⟩, ⟨by omega, by omega⟩, fun n2 => ⟨⟨by omega, by omega⟩, ?_⟩, fun n2 => ?_⟩, fun n1 => ?_⟩
          · have h := lk Y X ((zz s 66 X, zz s 66 Y) :: (zz s 65 X, zz s 65 Y) :: W) (zu (zu (zu (zu s5 92 W.length (zz s 65 X)) 93 W.length (zz s 65 Y)) 92 (W.length + 1) (zz s 66 X)) 93 (W.length + 1) (zz s 66 Y)) (iv (X : Int)) (iv (Y : Int)) (iv 1) y1' x1' hne'.symm y2' x2' (by rw [vwM_w _ _ _ _ (by omega), vwM_w _ _ _ _ (by omega), vwM_w _ _ _ _ (by omega), vwM_w _ _ _ _ (by omega)]; exact ev) ((((hpm.w 92 _ _ (by omega)).w 93 _ _ (by omega)).w 92 _ _ (by omega)).w 93 _ _ (by omega)) ((((f0.tr (FrJm.w _ 92 _ _ (by omega))).tr (FrJm.w _ 93 _ _ (by omega))).tr (FrJm.w _ 92 _ _ (by omega))).tr (FrJm.w _ 93 _ _ (by omega))) (by rw [zz_ne _ _ _ _ _ _ (by omega), zz_ne _ _ _ _ _ _ (by omega), zz_ne _ _ _ _ _ _ (by omega), zz_ne _ _ _ _ _ _ (by omega)]; exact hff) (by rw [zz_ne _ _ _ _ _ _ (by omega), zz_ne _ _ _ _ _ _ (by omega), zz_ne _ _ _ _ _ _ (by omega), zz_ne _ _ _ _ _ _ (by omega)]; exact hfp) (by rw [List.length_cons, List.length_cons]; omega) (j4.linkK j2 hx hy (Or.inr ⟨eX, eY⟩) y1' y2' c1 ceq.symm (fun q hq => List.mem_cons_of_mem _ (List.mem_cons_of_mem _ hq)) (fun c hc => ⟨(hc _ (List.mem_cons_of_mem _ List.mem_cons_self)).symm, (hc _ List.mem_cons_self).symm⟩)) (fun q hq => ?_) (fun i hi => ?_) (fun v => Vlp.linkK j2 hx hy (Or.inr ⟨eX, eY⟩) y1' x1' y2' c1 c0 (fun q hq => List.mem_cons_of_mem _ (List.mem_cons_of_mem _ hq)) (fun q hq => ?_) v)
            · rw [show (((zz s 66 X, zz s 66 Y) :: (zz s 65 X, zz s 65 Y) :: W).length : Int) = (W.length : Int) + 1 + 1 by rw [List.length_cons, List.length_cons]; omega] at h
              exact h
            · rcases List.mem_cons.mp hq with rfl | hq
              · exact ⟨⟨by omega, r2.2⟩, ⟨by omega, q2.2⟩⟩
              · rcases List.mem_cons.mp hq with rfl | hq
                · exact ⟨⟨by omega, r1.2⟩, ⟨by omega, q1.2⟩⟩
                · exact j5' q hq
            · rw [List.length_cons, List.length_cons] at hi ⊢
              cases i with
              | zero =>
                refine ⟨?_, zz_same _ _ _ (inR_zz _ _ _)⟩
                rw [zz_ne _ _ _ _ _ _ (by omega)]
                exact zz_same _ _ _ (inR_zz _ _ _)
              | succ i =>
                cases i with
                | zero =>
                  rw [show W.length + 1 + 1 - 1 - (0 + 1) = W.length by omega]
                  refine ⟨?_, ?_⟩
                  · rw [zz_ne _ _ _ _ _ _ (by omega), zz_ne _ _ _ _ _ _ (by omega), zz_ne _ _ _ _ _ _ (by omega)]
                    exact zz_same _ _ _ (inR_zz _ _ _)
                  · rw [zz_ne _ _ _ _ _ _ (by omega), zz_ne _ _ _ _ _ _ (by omega)]
                    exact zz_same _ _ _ (inR_zz _ _ _)
                | succ i =>
                  rw [show W.length + 1 + 1 - 1 - (i + 1 + 1) = W.length - 1 - i by omega, zz_ne _ _ _ _ _ _ (by omega), zz_ne _ _ _ _ _ _ (by omega), zz_ne _ _ _ _ _ _ (by omega), zz_ne _ _ _ _ _ _ (by omega), zz_ne _ _ _ _ _ _ (by omega), zz_ne _ _ _ _ _ _ (by omega), zz_ne _ _ _ _ _ _ (by omega), zz_ne _ _ _ _ _ _ (by omega)]
                  exact s92 i (by omega)
            · rcases List.mem_cons.mp hq with rfl | hq
              · exact Or.inr (fun v h1 h2 => h2.symm)
              · rcases List.mem_cons.mp hq with rfl | hq
                · exact Or.inr (fun v h1 h2 => h1.symm)
                · exact Or.inl hq
          · have h := lk Y X ((zz s 65 X, zz s 65 Y) :: W) (zu (zu s5 92 W.length (zz s 65 X)) 93 W.length (zz s 65 Y)) (iv (X : Int)) (iv (Y : Int)) (iv 1) y1' x1' hne'.symm y2' x2' (by rw [vwM_w _ _ _ _ (by omega), vwM_w _ _ _ _ (by omega)]; exact ev) ((hpm.w 92 _ _ (by omega)).w 93 _ _ (by omega)) ((f0.tr (FrJm.w _ 92 _ _ (by omega))).tr (FrJm.w _ 93 _ _ (by omega))) (by rw [zz_ne _ _ _ _ _ _ (by omega), zz_ne _ _ _ _ _ _ (by omega)]; exact hff) (by rw [zz_ne _ _ _ _ _ _ (by omega), zz_ne _ _ _ _ _ _ (by omega)]; exact hfp) (by rw [List.length_cons]; omega) (j4.linkK j2 hx hy (Or.inr ⟨eX, eY⟩) y1' y2' c1 ceq.symm (fun q hq => List.mem_cons_of_mem _ hq) (fun c hc => ⟨(hc _ List.mem_cons_self).symm, by rw [pY2, pX2, n2, show zz s 66 Y = -1 by omega]⟩)) (fun q hq => ?_) (fun i hi => ?_) (fun v => Vlp.linkK j2 hx hy (Or.inr ⟨eX, eY⟩) y1' x1' y2' c1 c0 (fun q hq => List.mem_cons_of_mem _ hq) (fun q hq => ?_) v)
            · rw [show (((zz s 65 X, zz s 65 Y) :: W).length : Int) = (W.length : Int) + 1 by rw [List.length_cons]; omega] at h
              exact h
            · rcases List.mem_cons.mp hq with rfl | hq
              · exact ⟨⟨by omega, r1.2⟩, ⟨by omega, q1.2⟩⟩
              · exact j5' q hq
            · rw [List.length_cons] at hi ⊢
              cases i with
              | zero =>
                refine ⟨?_, zz_same _ _ _ (inR_zz _ _ _)⟩
                rw [zz_ne _ _ _ _ _ _ (by omega)]
                exact zz_same _ _ _ (inR_zz _ _ _)
              | succ i =>
                rw [show W.length + 1 - 1 - (i + 1) = W.length - 1 - i by omega, zz_ne _ _ _ _ _ _ (by omega), zz_ne _ _ _ _ _ _ (by omega), zz_ne _ _ _ _ _ _ (by omega), zz_ne _ _ _ _ _ _ (by omega)]
                exact s92 i (by omega)
            · rcases List.mem_cons.mp hq with rfl | hq
              · exact Or.inr (fun v h1 h2 => h1.symm)
              · exact Or.inl hq
          · exact lk Y X W s5 _ _ _ y1' x1' hne'.symm y2' x2' ev hpm f0 hff hfp (by omega) (j4.linkK j2 hx hy (Or.inr ⟨eX, eY⟩) y1' y2' c1 ceq.symm (fun q hq => hq) (fun c hc => ⟨by rw [pY1, pX1, n1, show zz s 65 Y = -1 by omega], by rw [pY2, pX2, show zz s 66 X = -1 by omega, show zz s 66 Y = -1 by omega]⟩)) j5' s92 (fun v => Vlp.linkK j2 hx hy (Or.inr ⟨eX, eY⟩) y1' x1' y2' c1 c0 (fun q hq => hq) (fun q hq => Or.inl hq) v)
        · -- two codes
          have en : ∀ (k : Nat) (s' : aZ) (v4 v5 v6 : Value), k ≤ 60000 → zz s' 56 22 = 3 → zz s' 56 23 = zz s 72 0 → FrJm s s' → a_W d 193 16 [.ref 56, iv x1, iv x2, iv (k : Int), v4, v5, v6] [] (mkH B s' l) (JMo ar P (((x : Int), (y : Int)) :: W) B s l) := by
            intro k s' v4 v5 v6 hk h1 h2 h3
            have fin : a_W d 193 269 [.ref 56, iv x1, iv x2, iv (k : Int), v4, v5, v6] [] (mkH B s' l) (JMo ar P (((x : Int), (y : Int)) :: W) B s l) := w193_269 hB _ _ _ _ _ _ s' l ⟨s', rfl, h3, Or.inl ⟨h1, h2, fun v hv => by
              have e := hv.2 _ List.mem_cons_self
              rw [show ptT v ((x : Int), (y : Int)).1 = v x by rw [ptT_p _ _ (by show (0 : Int) ≤ (x : Int); omega)]; rfl, show ptT v ((x : Int), (y : Int)).2 = v y by rw [ptT_p _ _ (by show (0 : Int) ≤ (y : Int); omega)]; rfl, hv.1.root j2 x hx, hv.1.root j2 y hy, eX, eY] at e
              exact hv.1.clash x1' y1' c0 c1 cne (j3.1 X x1').2.2 (j3.1 Y y1').2.2 e⟩⟩
            exact w193_16 hB (by omega) _ _ _ _ _ _ s' l ⟨⟨by omega, by omega⟩, fun _ => fin, fun _ => ⟨fun _ => fin, fun c => absurd c (by omega)⟩⟩
          refine ⟨fun _ => ?_, fun c => absurd c (by omega)⟩
          have b22 : zz (zu (zu s 56 22 3) 56 23 (zz s 72 0)) 56 22 = 3 := by rw [zz_ne _ _ _ _ _ _ (by omega)]; exact zz_same _ _ _ (by decide)
          have b23 : zz (zu (zu s 56 22 3) 56 23 (zz s 72 0)) 56 23 = zz s 72 0 := zz_same _ _ _ (inR_zz _ _ _)
          have bf : FrJm s (zu (zu s 56 22 3) 56 23 (zz s 72 0)) := ⟨fun k h1 h2 h3 h4 => by rw [zu_ne _ _ _ _ _ h1, zu_ne _ _ _ _ _ h1], fun j h1 h2 => by rw [zz_ne _ _ _ _ _ _ (by omega), zz_ne _ _ _ _ _ _ (by omega)]⟩
          generalize (zu (zu s 56 22 3) 56 23 (zz s 72 0)) = sd at *
          have k64 : ∀ i, zz sd 64 i = zz s 64 i := fun i => zz_of (bf.1 64 (by decide) (by decide) (by decide) (by decide)) i
          refine w193_114 hB _ _ _ _ _ _ sd l ⟨⟨by omega, by omega⟩, ?_⟩
          rw [natc, natc, k64, k64]
          refine ⟨fun c2 => absurd c2 c0, fun _ => ⟨⟨by omega, by omega⟩, fun c2 => absurd c2 c1, fun _ => w193_175 hB _ _ _ _ _ _ _ l ⟨by decide, fun c2 => absurd c2 (by decide), fun _ => ⟨⟨by omega, by omega⟩, ?_⟩⟩⟩⟩
          have f5 : FrJm s (zu sd 67 Y (X : Int)) := bf.tr ⟨fun k h1 h2 h3 h4 => zu_ne _ _ _ _ _ h2, fun j h1 h2 => zz_ne _ _ _ _ _ _ (by omega)⟩
          have g22 : zz (zu sd 67 Y (X : Int)) 56 22 = 3 := by rw [zz_ne _ _ _ _ _ _ (by omega)]; exact b22
          have g23 : zz (zu sd 67 Y (X : Int)) 56 23 = zz s 72 0 := by rw [zz_ne _ _ _ _ _ _ (by omega)]; exact b23
          generalize zu sd 67 Y (X : Int) = s5 at *
          refine ⟨fun n1 => ⟨⟨by omega, by omega⟩, ⟨by omega, by omega⟩, fun n2 => ⟨⟨by omega, by omega⟩, ?_⟩, fun n2 => ?_⟩, fun n1 => en W.length s5 _ _ _ (by omega) g22 g23 f5⟩
          · rw [show (W.length : Int) + 1 + 1 = ((W.length + 2 : Nat) : Int) by omega]
            exact en (W.length + 2) _ _ _ _ (by omega) (by rw [zz_ne _ _ _ _ _ _ (by omega), zz_ne _ _ _ _ _ _ (by omega), zz_ne _ _ _ _ _ _ (by omega), zz_ne _ _ _ _ _ _ (by omega)]; exact g22) (by rw [zz_ne _ _ _ _ _ _ (by omega), zz_ne _ _ _ _ _ _ (by omega), zz_ne _ _ _ _ _ _ (by omega), zz_ne _ _ _ _ _ _ (by omega)]; exact g23) ((((f5.tr (FrJm.w _ 92 _ _ (by omega))).tr (FrJm.w _ 93 _ _ (by omega))).tr (FrJm.w _ 92 _ _ (by omega))).tr (FrJm.w _ 93 _ _ (by omega)))
          · rw [show (W.length : Int) + 1 = ((W.length + 1 : Nat) : Int) by omega]
            exact en (W.length + 1) _ _ _ _ (by omega) (by rw [zz_ne _ _ _ _ _ _ (by omega), zz_ne _ _ _ _ _ _ (by omega)]; exact g22) (by rw [zz_ne _ _ _ _ _ _ (by omega), zz_ne _ _ _ _ _ _ (by omega)]; exact g23) ((f5.tr (FrJm.w _ 92 _ _ (by omega))).tr (FrJm.w _ 93 _ _ (by omega)))
end
