/-! WHAT READING TYPES TOUCHES OF THE REFERENCE; ALL ARROWS FOLDED -/
theorem WI.mono {s : aZ} {v : Nat → Int} : ∀ T : aT, (∀ (lo hi lo2 hi2 : Nat) (w : Int), WI s v T false lo hi w → lo2 ≤ lo → hi ≤ hi2 → WI s v T false lo2 hi2 w) ∧ (∀ (lo hi lo2 hi2 : Nat) (w : Int), WI s v T true lo hi w → lo2 ≤ lo → hi ≤ hi2 → lo ≤ hi → WI s v T true lo2 hi2 w) := by
  intro T
  induction T with
  | leaf q =>
    refine ⟨fun lo hi lo2 hi2 w h h1 h2 => ?_, fun lo hi lo2 hi2 w h _ _ _ => h⟩
    obtain ⟨a1, a2⟩ := h
    exact ⟨⟨by omega, by omega⟩, a2⟩
  | branch m a b iha ihb =>
    refine ⟨fun lo hi lo2 hi2 w h h1 h2 => ?_, fun lo hi lo2 hi2 w h h1 h2 h3 => ?_⟩
    · obtain ⟨a1, a2, a3, a4⟩ := h
      refine ⟨⟨by omega, by omega⟩, a2, a3, ?_⟩
      rcases a4 with ⟨b1, b2, c, x, y, c1, c2, c3, c4, c5, c6, c7⟩ | ⟨b1, b0, b2, b3, b4, b5⟩
      · exact Or.inl ⟨b1, b2, c, x, y, by omega, c2, c3, c4, c5, iha.1 _ _ _ _ _ c6 h1 (Nat.le_refl _), c7⟩
      · exact Or.inr ⟨b1, b0, b2, b3, b4, iha.2 _ _ _ _ _ b5 (Nat.le_refl _) h2 (by omega)⟩
    · obtain ⟨m2, c, x, c1, c2, c3, c4, c5⟩ := h
      exact ⟨m2, c, x, by omega, by omega, c3, iha.1 _ _ _ _ _ c4 h1 (Nat.le_refl _), ihb.2 _ _ _ _ _ c5 (Nat.le_refl _) h2 c2⟩
/-- the rows of written types, the depth and their number alone are touched -/
def FrR (s s2 : aZ) : Prop := (∀ k, k ≠ 56 → (k < 75 ∨ 81 < k) → s2 k = s k) ∧ ∀ j, j ≠ 33 → j ≠ 32 → zz s2 56 j = zz s 56 j
theorem FrR.rf (s : aZ) : FrR s s := ⟨fun _ _ _ => rfl, fun _ _ _ => rfl⟩
theorem FrR.tr {s1 s2 s3 : aZ} (a : FrR s1 s2) (b : FrR s2 s3) : FrR s1 s3 := ⟨fun k h1 h2 => (b.1 k h1 h2).trans (a.1 k h1 h2), fun j h1 h2 => (b.2 j h1 h2).trans (a.2 j h1 h2)⟩
theorem MC.rw {t : Nat → Int} {n : Nat} {vs : List (List Int)} {m i : Nat} {s s2 : aZ} {l : aZL} (h : MC t n vs m i s l) (f : FrR s s2) : MC t n vs m i s2 l := by
  obtain ⟨c1, c2, c3, c4, c5, c6, c7, c8, c9⟩ := h
  have g := f.2
  have z : ∀ k, k ≠ 56 → (k < 75 ∨ 81 < k) → ∀ j, zz s2 k j = zz s k j := fun k h1 h2 j => zz_of (f.1 k h1 h2) j
  refine ⟨⟨(g 24 (by decide) (by decide)).trans c1.1, c1.2.1, fun j hj => ⟨(z 57 (by decide) (by decide) j).trans (c1.2.2 j hj).1, (c1.2.2 j hj).2⟩⟩, (g 22 (by decide) (by decide)).trans c2, (g 23 (by decide) (by decide)).trans c3, (g 31 (by decide) (by decide)).trans c4, (g 26 (by decide) (by decide)).trans c5, (g 25 (by decide) (by decide)).trans c6, c7.fr (g 5 (by decide) (by decide)) rfl, fun j hj => ?_, c9⟩
  obtain ⟨t1, t2, t3, t4, t5, t6⟩ := c8 j hj
  exact ⟨t1, (z 71 (by decide) (by decide) j).trans t2, (z 72 (by decide) (by decide) j).trans t3, fun q => (z 73 (by decide) (by decide) j).trans (t4 q), fun q => (z 73 (by decide) (by decide) j).trans (t5 q), t6⟩
theorem MF.rw {t : Nat → Int} {n : Nat} {f p : Int} {vs : List (List Int)} {s s2 : aZ} {l : aZL} (h : MF t n f p vs s l) (q : FrR s s2) : MF t n f p vs s2 l := by
  obtain ⟨c1, f1, f2, f3, f4, f5, f6⟩ := h
  have g := q.2
  refine ⟨⟨(g 24 (by decide) (by decide)).trans c1.1, c1.2.1, fun j hj => ⟨(zz_of (q.1 57 (by decide) (by decide)) j).trans (c1.2.2 j hj).1, (c1.2.2 j hj).2⟩⟩, f1, (g 22 (by decide) (by decide)).trans f2, (g 23 (by decide) (by decide)).trans f3, ?_, ?_, f6.fr (g 5 (by decide) (by decide)) rfl⟩
  · rw [g 31 (by decide) (by decide)]; exact f4
  · rw [g 31 (by decide) (by decide)]; exact f5
theorem MAt.rw {t : Nat → Int} {n : Nat} {vs : List (List Int)} {i : Nat} {s s2 : aZ} {l : aZL} (h : MAt t n vs i s l) (q : FrR s s2) : MAt t n vs i s2 l := ⟨h.1.elim (fun c => Or.inl (c.rw q)) (fun c => Or.inr (c.rw q)), h.2⟩
/-- what reading a type may touch -/
def FrW (s s2 : aZ) (l l2 : aZL) : Prop := (∀ k, k ≠ 56 → k ≠ 71 → k ≠ 72 → k ≠ 73 → (k < 75 ∨ 81 < k) → s2 k = s k) ∧ (∀ j, j ∉ [5, 22, 23, 25, 26, 31, 32, 33] → zz s2 56 j = zz s 56 j) ∧ ∀ k, k ≠ 74 → k ≠ 63 → l2 k = l k
theorem FrW.rf (s : aZ) (l : aZL) : FrW s s l l := ⟨fun _ _ _ _ _ _ => rfl, fun _ _ => rfl, fun _ _ _ => rfl⟩
theorem FrW.tr {s1 s2 s3 : aZ} {l1 l2 l3 : aZL} (a : FrW s1 s2 l1 l2) (b : FrW s2 s3 l2 l3) : FrW s1 s3 l1 l3 := ⟨fun k h1 h2 h3 h4 h5 => (b.1 k h1 h2 h3 h4 h5).trans (a.1 k h1 h2 h3 h4 h5), fun j hj => (b.2.1 j hj).trans (a.2.1 j hj), fun k h1 h2 => (b.2.2 k h1 h2).trans (a.2.2 k h1 h2)⟩
theorem FrM.w {s s2 : aZ} {l l2 : aZL} (b : FrM s s2 l l2) : FrW s s2 l l2 := ⟨fun k h1 h2 h3 h4 _ => b.1 k h1 h2 h3 h4, fun j hj => b.2.1 j (fun q => hj (by simp only [List.mem_cons, List.not_mem_nil, or_false] at q ⊢; omega)), b.2.2⟩
theorem FrR.w {s s2 : aZ} (b : FrR s s2) (l : aZL) : FrW s s2 l l := ⟨fun k h1 _ _ _ h5 => b.1 k h1 h5, fun j hj => b.2 j (fun q => hj (by rw [q]; decide)) (fun q => hj (by rw [q]; decide)), fun _ _ _ => rfl⟩
theorem FrW.now (s : aZ) (l : aZL) (x : Int) : FrW s (zu s 56 31 x) l l := ⟨fun k h1 _ _ _ _ => zu_ne _ _ _ _ _ h1, fun j hj => zz_ne _ _ _ _ _ _ (fun q => hj (by rw [q.2]; decide)), fun _ _ _ => rfl⟩
theorem FrM.wf {s s2 : aZ} {l l2 : aZL} (b : FrM s s2 l l2) (W : Nat) : WFr W s s2 := fun k h1 h2 j _ => zz_of (b.1 k (by omega) (by omega) (by omega) (by omega)) j
theorem FrM.wi {s s2 : aZ} {l l2 : aZL} (b : FrM s s2 l l2) {v : Nat → Int} {T : aT} {lo hi : Nat} {w : Int} (h : WI s v T false lo hi w) : WI s2 v T false lo hi w := (WI.keep T).1 lo hi w h (fun k j h1 h2 _ _ _ => zz_of (b.1 k (by omega) (by omega) (by omega) (by omega)) j)
theorem FrM.rc {s s2 : aZ} {l l2 : aZL} (b : FrM s s2 l l2) {v : Nat → Int} {ts : List aT} {lo hi : Nat} {w : Int} (h : RC s v ts lo hi w) : RC s2 v ts lo hi w := RC.keep ts lo hi w h (fun k j h1 h2 _ _ => zz_of (b.1 k (by omega) (by omega) (by omega) (by omega)) j)
/-- a new written type at W -/
def wr7 (s : aZ) (W : Nat) (k o : Int) : aZ := zu (zu (zu (zu (zu (zu (zu s 75 W k) 76 W o) 77 W (-1)) 78 W (-1)) 79 W 0) 80 W 1) 81 W 1
theorem wr7_at (s : aZ) (W : Nat) (k o : Int) (hk : inR k) (ho : inR o) : zz (wr7 s W k o) 75 W = k ∧ zz (wr7 s W k o) 76 W = o ∧ zz (wr7 s W k o) 77 W = -1 ∧ zz (wr7 s W k o) 78 W = -1 ∧ zz (wr7 s W k o) 79 W = 0 ∧ zz (wr7 s W k o) 80 W = 1 ∧ zz (wr7 s W k o) 81 W = 1 := by
  unfold wr7
  refine ⟨?_, ?_, ?_, ?_, ?_, ?_, ?_⟩
  · rw [zz_ne _ _ _ _ _ _ (by omega), zz_ne _ _ _ _ _ _ (by omega), zz_ne _ _ _ _ _ _ (by omega), zz_ne _ _ _ _ _ _ (by omega), zz_ne _ _ _ _ _ _ (by omega), zz_ne _ _ _ _ _ _ (by omega), zz_same _ _ _ hk]
  · rw [zz_ne _ _ _ _ _ _ (by omega), zz_ne _ _ _ _ _ _ (by omega), zz_ne _ _ _ _ _ _ (by omega), zz_ne _ _ _ _ _ _ (by omega), zz_ne _ _ _ _ _ _ (by omega), zz_same _ _ _ ho]
  · rw [zz_ne _ _ _ _ _ _ (by omega), zz_ne _ _ _ _ _ _ (by omega), zz_ne _ _ _ _ _ _ (by omega), zz_ne _ _ _ _ _ _ (by omega), zz_same _ _ _ (by decide)]
  · rw [zz_ne _ _ _ _ _ _ (by omega), zz_ne _ _ _ _ _ _ (by omega), zz_ne _ _ _ _ _ _ (by omega), zz_same _ _ _ (by decide)]
  · rw [zz_ne _ _ _ _ _ _ (by omega), zz_ne _ _ _ _ _ _ (by omega), zz_same _ _ _ (by decide)]
  · rw [zz_ne _ _ _ _ _ _ (by omega), zz_same _ _ _ (by decide)]
  · rw [zz_same _ _ _ (by decide)]
theorem wr7_ne (s : aZ) (W : Nat) (k o : Int) (c j : Nat) (h : j ≠ W ∨ c < 75 ∨ 81 < c) : zz (wr7 s W k o) c j = zz s c j := by
  unfold wr7
  rw [zz_ne _ _ _ _ _ _ (by omega), zz_ne _ _ _ _ _ _ (by omega), zz_ne _ _ _ _ _ _ (by omega), zz_ne _ _ _ _ _ _ (by omega), zz_ne _ _ _ _ _ _ (by omega), zz_ne _ _ _ _ _ _ (by omega), zz_ne _ _ _ _ _ _ (by omega)]
theorem wr7_k (s : aZ) (W : Nat) (k o : Int) (c : Nat) (h : c < 75 ∨ 81 < c) : wr7 s W k o c = s c := by
  unfold wr7
  rw [zu_ne _ _ _ _ _ (by omega), zu_ne _ _ _ _ _ (by omega), zu_ne _ _ _ _ _ (by omega), zu_ne _ _ _ _ _ (by omega), zu_ne _ _ _ _ _ (by omega), zu_ne _ _ _ _ _ (by omega), zu_ne _ _ _ _ _ (by omega)]
theorem wr7_r (s : aZ) (W : Nat) (k o : Int) : FrR s (zu (wr7 s W k o) 56 33 ((W : Int) + 1)) := ⟨fun c h1 h2 => (zu_ne _ _ _ _ _ h1).trans (wr7_k s W k o c h2), fun j h1 h2 => (zz_ne _ _ _ _ _ _ (fun q => h1 q.2)).trans (wr7_ne s W k o 56 j (by omega))⟩
theorem FrR.next (s : aZ) (x : Nat) (r : Int) : FrR s (zu s 78 x r) := ⟨fun k h1 h2 => zu_ne _ _ _ _ _ (by omega), fun j _ _ => zz_ne _ _ _ _ _ _ (by omega)⟩
/-- a row linked in reverse, whatever stands behind its last -/
def RD (s : aZ) (v : Nat → Int) : List aT → Nat → Nat → Int → Prop
  | [], _, _, _ => True
  | T :: ts, lo, hi, r => ∃ c x : Nat, lo ≤ c ∧ c ≤ hi ∧ r = x ∧ WI s v T false c hi x ∧ RD s v ts lo c (zz s 78 x)
theorem RD.keep {s s2 : aZ} {v : Nat → Int} : ∀ (ts : List aT) (lo hi : Nat) (r : Int), RD s v ts lo hi r → (∀ k j, 75 ≤ k → k ≤ 81 → lo ≤ j → j < hi → zz s2 k j = zz s k j) → RD s2 v ts lo hi r := by
  intro ts
  induction ts with
  | nil => intro lo hi r h _; exact h
  | cons T ts ih =>
    intro lo hi r h he
    obtain ⟨c, x, c1, c2, c3, c4, c5⟩ := h
    have hx := c4.rng
    refine ⟨c, x, c1, c2, c3, (WI.keep T).1 c hi x c4 (fun k j h1 h2 h3 h4 _ => he k j h1 h2 (by omega) h4), ?_⟩
    rw [he 78 x (by decide) (by decide) (by omega) (by omega)]
    exact ih lo c _ c5 (fun k j h1 h2 h3 h4 => he k j h1 h2 h3 (by omega))
theorem RD.push {s s2 : aZ} {v : Nat → Int} {ts : List aT} {T : aT} {lo hi W2 x : Nat} {r : Int} (h : RD s v ts lo hi r) (hl : lo ≤ hi) (hT : WI s v T false hi W2 x) (e : ∀ k j, 75 ≤ k → k ≤ 81 → lo ≤ j → j < W2 → (k ≠ 78 ∨ j ≠ x) → zz s2 k j = zz s k j) (e2 : zz s2 78 x = r) : RD s2 v (T :: ts) lo W2 x := by
  have hx := hT.rng
  refine ⟨hi, x, hl, by omega, rfl, (WI.keep T).1 hi W2 x hT (fun k j h1 h2 h3 h4 h5 => e k j h1 h2 (by omega) h4 (by omega)), ?_⟩
  rw [e2]
  exact RD.keep ts lo hi r h (fun k j h1 h2 h3 h4 => e k j h1 h2 h3 (by omega) (by omega))
/-- ALL ARROWS -/
theorem m_fold {d : Nat} {B : aH} (hB : a_Can B) (hd : 1 ≤ d) {v : Nat → Int} (l : aZL) (x1 x2 x3 : Int) (W0 : Nat) : ∀ (ts : List aT) (T : aT) (c W x4 : Nat) (x5 x6 : Int) (u7 u8 : Value) (s : aZ), W0 ≤ c → WI s v T false c W x4 → RD s v ts W0 c x5 → x3 = x6 + ts.length → inR x3 → inR x6 → zz s 56 33 = W → W + ts.length ≤ 12100 → zz s 56 22 = 0 → a_W d 167 82 [.ref 56, iv x1, iv x2, iv x3, iv (x4 : Int), iv x5, iv x6, u7, u8] [] (mkH B s l) (fun q => ∃ (s2 : aZ) (w : Nat), q = (.inl (some (iv (w : Int))), mkH B s2 l) ∧ WI s2 v (arrF ts T) false W0 (W + ts.length) w ∧ zz s2 56 33 = ((W + ts.length : Nat) : Int) ∧ WFr W0 s s2 ∧ FrR s s2 ∧ zz s2 56 32 = zz s 56 32) := by
  intro ts
  induction ts with
  | nil =>
    intro T c W x4 x5 x6 u7 u8 s h0 hT hR h3 r3 r6 h33 hW h22
    have e0 : (([] : List aT).length : Int) = 0 := rfl
    refine w167_82 hB (by omega) x1 x2 x3 _ x5 x6 u7 u8 s l ⟨r6, r3, fun _ => w167_150 hB x1 x2 x3 _ x5 x6 u7 u8 s l ⟨s, x4, rfl, (WI.mono T).1 _ _ _ _ _ hT h0 (Nat.le_refl _), h33, WFr.rf _ _, FrR.rf s, rfl⟩, fun h => absurd h (by omega)⟩
  | cons Tl ts ih =>
    intro T c W x4 x5 x6 u7 u8 s h0 hT hR h3 r3 r6 h33 hW h22
    obtain ⟨b, x, b1, b2, b3, b4, b5⟩ := hR
    subst b3
    have hx := b4.rng
    have hw := hT.rng
    have el : ((Tl :: ts).length : Int) = (ts.length : Int) + 1 := by rw [List.length_cons]; omega
    have el2 : (Tl :: ts).length = ts.length + 1 := List.length_cons
    have hsz := (WI.size T).1 _ _ _ hT
    have hsl := (WI.size Tl).1 _ _ _ b4
    have hH := tyH_le T
    have hHl := tyH_le Tl
    obtain ⟨w80, w81⟩ := hT.wide
    obtain ⟨l80, l81⟩ := b4.wide
    rw [natc] at w80 w81 l80 l81
    have eW : (zz s 56 33).toNat = W := by omega
    refine w167_82 hB (by omega) x1 x2 x3 _ _ x6 u7 u8 s l ⟨r6, r3, fun h => absurd h (by omega), fun _ => ⟨fun h => absurd h22 h, fun _ => ⟨⟨by omega, by omega⟩, ⟨by omega, by omega⟩, ⟨by omega, by omega⟩, ?_⟩⟩⟩
    rw [eW, h33, natc, natc, show (W : Int) + 1 - 1 = (W : Int) by omega]
    have hs1 : (zu (zu (zu (zu (zu (zu (zu (zu (zu s 75 W 2) 76 W (-1)) 77 W (-1)) 78 W (-1)) 79 W 0) 80 W 1) 81 W 1) 56 33 ((W : Int) + 1)) 78 x4 (-1)) = zu (zu (wr7 s W 2 (-1)) 56 33 ((W : Int) + 1)) 78 x4 (-1) := rfl
    rw [hs1]
    obtain ⟨a1, a2, a3, a4, a5, a6, a7⟩ := wr7_at s W 2 (-1) (by decide) (by decide)
    have n1 : ∀ k, k ≠ 78 → k ≠ 56 → zz (zu (zu (wr7 s W 2 (-1)) 56 33 ((W : Int) + 1)) 78 x4 (-1)) k W = zz (wr7 s W 2 (-1)) k W := fun k h1 h2 => by rw [zz_ne _ _ _ _ _ _ (by omega), zz_ne _ _ _ _ _ _ (by omega)]
    have n2 : ∀ k j, 75 ≤ k → k ≤ 81 → j ≠ W → (k ≠ 78 ∨ j ≠ x4) → zz (zu (zu (wr7 s W 2 (-1)) 56 33 ((W : Int) + 1)) 78 x4 (-1)) k j = zz s k j := fun k j h1 h2 h3 h4 => by rw [zz_ne _ _ _ _ _ _ (by omega), zz_ne _ _ _ _ _ _ (by omega), wr7_ne _ _ _ _ _ _ (Or.inl h3)]
    have fr1 : FrR s (zu (zu (wr7 s W 2 (-1)) 56 33 ((W : Int) + 1)) 78 x4 (-1)) := (wr7_r s W 2 (-1)).tr (FrR.next _ x4 (-1))
    have e33 : zz (zu (zu (wr7 s W 2 (-1)) 56 33 ((W : Int) + 1)) 78 x4 (-1)) 56 33 = (W : Int) + 1 := by rw [zz_ne _ _ _ _ _ _ (by omega), zz_same _ _ _ ⟨by omega, by omega⟩]
    have e32 : zz (zu (zu (wr7 s W 2 (-1)) 56 33 ((W : Int) + 1)) 78 x4 (-1)) 56 32 = zz s 56 32 := by rw [zz_ne _ _ _ _ _ _ (by omega), zz_ne _ _ _ _ _ _ (by omega), wr7_ne _ _ _ _ _ _ (by omega)]
    have f1 := n1 75 (by decide) (by decide)
    have f2 := n1 77 (by decide) (by decide)
    have f3 := n1 79 (by decide) (by decide)
    have f4 := n1 80 (by decide) (by decide)
    have f5 := n1 81 (by decide) (by decide)
    have g80 := n2 80 x4 (by decide) (by decide) (by omega) (by omega)
    have g81 := n2 81 x4 (by decide) (by decide) (by omega) (by omega)
    have h80 := n2 80 x (by decide) (by decide) (by omega) (by omega)
    have h81 := n2 81 x (by decide) (by decide) (by omega) (by omega)
    generalize (zu (zu (wr7 s W 2 (-1)) 56 33 ((W : Int) + 1)) 78 x4 (-1)) = s1 at *
    refine a_W.imp (m_takes hB s1 l W x4 (by omega) (by omega) ⟨by omega, by omega⟩ ⟨by omega, by omega⟩ ⟨by omega, by omega⟩ ⟨by omega, by omega⟩) ?_
    rintro _ ⟨s2, rfl, t1⟩
    refine ⟨s2, l, rfl, ?_⟩
    have t1' := t1
    obtain ⟨p1, p2, p3, p4, p5, p6, p7, p8⟩ := t1
    have q80 := p7 80 x (by decide) (by omega)
    have q81 := p7 81 x (by decide) (by omega)
    refine a_W.imp (m_takes hB s2 l W x (by omega) (by omega) ⟨by omega, by omega⟩ ⟨by omega, by omega⟩ ⟨by omega, by omega⟩ ⟨by omega, by omega⟩) ?_
    rintro _ ⟨s3, rfl, t2⟩
    refine ⟨s3, l, rfl, ?_⟩
    obtain ⟨k1, k2⟩ := arr_step b4 hT (by omega) ⟨f1.trans a1, f2.trans a3, f3.trans a5, f4.trans a6, f5.trans a7⟩ n2 t1' t2
    have fr3 : FrR s s3 := ⟨fun k h1 h2 => by rw [t2.2.2.2.2.2.2.2 k (by omega) (by omega) (by omega) (by omega) (by omega), p8 k (by omega) (by omega) (by omega) (by omega) (by omega)]; exact fr1.1 k h1 h2, fun j h1 h2 => by rw [zz_of (t2.2.2.2.2.2.2.2 56 (by decide) (by decide) (by decide) (by decide) (by decide)), zz_of (p8 56 (by decide) (by decide) (by decide) (by decide) (by decide))]; exact fr1.2 j h1 h2⟩
    have g33 : zz s3 56 33 = ((W + 1 : Nat) : Int) := by rw [zz_of (t2.2.2.2.2.2.2.2 56 (by decide) (by decide) (by decide) (by decide) (by decide)), zz_of (p8 56 (by decide) (by decide) (by decide) (by decide) (by decide)), e33]; omega
    have g32 : zz s3 56 32 = zz s 56 32 := by rw [zz_of (t2.2.2.2.2.2.2.2 56 (by decide) (by decide) (by decide) (by decide) (by decide)), zz_of (p8 56 (by decide) (by decide) (by decide) (by decide) (by decide)), e32]
    refine a_W.imp (ih (.branch 3 Tl T) b (W + 1) W (zz s 78 x) (x6 + 1) _ _ s3 b1 k1 (RD.keep ts W0 b _ b5 (fun k j h1 h2 h3 h4 => k2 k j h1 h2 h4)) (by omega) r3 ⟨by have := r6.1; omega, by have := r3.2; omega⟩ g33 (by omega) ((fr3.2 22 (by decide) (by decide)).trans h22)) ?_
    rintro _ ⟨s4, w, rfl, j1, j2, j3, j4, j5⟩
    refine ⟨s4, w, rfl, ?_, ?_, fun k h1 h2 j hj => (j3 k h1 h2 j hj).trans (k2 k j h1 h2 (by omega)), fr3.tr j4, j5.trans g32⟩
    · rw [el2, show W + (ts.length + 1) = W + 1 + ts.length by omega]; exact j1
    · rw [el2, show W + (ts.length + 1) = W + 1 + ts.length by omega]; exact j2
