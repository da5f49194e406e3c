/-! THE READER READS NAMES AND WHAT THEY TAKE -/
section
variable {B : aH} {t : Nat → Int} {n : Nat} {ns tn : List (List Int)} {ta : List Int}
theorem PS.w6 {P : Nat} {s : aZ} (h : PS P s) : PS P (zu s 36 6 1) := h.z (zz_ne _ _ _ _ _ _ (by omega)) (fun k _ _ j => zz_ne _ _ _ _ _ _ (by omega))
/-- a name with its slots becomes a node -/
theorem x_rowX (hB : a_Can B) {d : Nat} (hd : 7 ≤ d) (l : aZL) (P : Nat) (hP : P ≤ 17000) (s : aZ) (hS : PS P s) (hT : XTy tn ta s) (x1 x3 x4 x5 x6 : Int) (c i0 : Nat) (u8 : Value) (hc : c ≤ 6000) (h3 : -1 ≤ x3 ∧ x3 < P) (h4 : -1 ≤ x4 ∧ x4 < P) (h2a : ta.getD 2 0 = 2) (h34 : c = 2 → 0 ≤ x3 ∧ 0 ≤ x4) (Q : aR → Prop) (w : ∀ (s2 : aZ) (v P2 : Nat), ((gdN t n tn ta i0 c = true ∧ PGm P (fd tn (nmW t n (stT t n i0)) tn.length) x3 x4 s s2 v P2 ∧ (fd tn (nmW t n (stT t n i0)) tn.length = 2 → 0 ≤ x3 ∧ 0 ≤ x4)) ∨ (gdN t n tn ta i0 c = false ∧ ∃ s1, PG P (-1000000) (-1) (-1) (zu s 36 6 1) s1 v P2 ∧ s2 = zu (zu s1 22 v x5) 23 v (x6 + 1))) → Q (.inl (some (iv (v : Int))), mkH B s2 l)) : a_W d 67 162 [.ref 36, iv x1, iv (fd tn (nmW t n (stT t n i0)) tn.length), iv x3, iv x4, iv x5, iv x6, iv (c : Int), u8] [] (mkH B s l) Q := by
  have fr := fd_rng tn (nmW t n (stT t n i0))
  have tl := hT.1.2.2.2.1
  have t16 := hT.2.2.1
  have eg : ∀ c, gdN t n tn ta i0 c = true ↔ (0 ≤ fd tn (nmW t n (stT t n i0)) tn.length ∧ ta.getD (fd tn (nmW t n (stT t n i0)) tn.length).toNat 0 = (c : Int)) := fun c => gdN_t
  have ef : ∀ c : Nat, ¬ (0 ≤ fd tn (nmW t n (stT t n i0)) tn.length ∧ ta.getD (fd tn (nmW t n (stT t n i0)) tn.length).toNat 0 = (c : Int)) → gdN t n tn ta i0 c = false := fun c => gdN_f
  generalize fd tn (nmW t n (stT t n i0)) tn.length = m at *
  have bad : gdN t n tn ta i0 c = false → a_W d 67 191 [.ref 36, iv x1, iv m, iv x3, iv x4, iv x5, iv x6, iv (c : Int), u8] [] (mkH B s l) Q := by
    intro hb
    refine w67_191 hB (by omega) x1 m x3 x4 x5 x6 _ u8 s l (a_W.imp (x_wrong hB (by omega) l P hP (zu s 36 6 1) hS.w6 x5 (x6 + 1)) ?_)
    rintro _ ⟨s1, v, P2, rfl, h⟩
    exact ⟨_, _, l, rfl, w _ v P2 (Or.inr ⟨hb, s1, h, rfl⟩)⟩
  refine w67_162 hB (by omega) x1 m x3 x4 x5 x6 _ u8 s l ⟨⟨by omega, by omega⟩, fun g => bad (ef c (fun q => by omega)), fun g => ?_⟩
  refine w70_0 hB m s l ⟨⟨by omega, by omega⟩, fun h => absurd h (by omega), fun _ => ⟨fun h => absurd h (by omega), fun _ => ⟨⟨by omega, by omega⟩, _, s, l, rfl, inR_zz _ _ _, ⟨by omega, by omega⟩, fun ne => ?_, fun eq => ?_⟩⟩⟩
  · rw [t16 m.toNat (by omega)] at ne
    exact bad (ef c (fun q => ne q.2))
  · rw [t16 m.toNat (by omega)] at eq
    refine a_W.imp (x_writG hB (by omega) l P hP s hS m x3 x4 ⟨by omega, by omega⟩ h3 h4) ?_
    rintro _ ⟨s2, v, P2, rfl, h⟩
    refine ⟨_, s2, l, rfl, w s2 v P2 (Or.inl ⟨(eg c).mpr ⟨g, eq⟩, h, fun e2 => h34 ?_⟩)⟩
    rw [e2, show (2 : Int).toNat = 2 from rfl, h2a] at eq
    omega
theorem bad_safe {P v P2 : Nat} {x5 x6 : Int} {s s1 : aZ} (hS : PS P s) (h : PG P (-1000000) (-1) (-1) (zu s 36 6 1) s1 v P2) : ∀ s2, s2 = zu (zu s1 22 v x5) 23 v (x6 + 1) → PS P2 s2 ∧ P ≤ P2 ∧ P2 ≤ 17000 ∧ v < P2 ∧ FrY s s2 ∧ (∀ k, k ≤ 7 → s2 k = s k) ∧ s2 37 = s 37 ∧ zz s2 36 4 = zz s 36 4 := by
  rintro s2 rfl
  obtain ⟨z1, z2, z3, z4, y1, y2, y3, y4⟩ := h.safe (by decide) ⟨by omega, by omega⟩ ⟨by omega, by omega⟩ hS.w6
  have zk : ∀ k, (k < 22 ∨ 23 < k) → zu (zu s1 22 v x5) 23 v (x6 + 1) k = s1 k := fun k g => by rw [zu_ne _ _ _ _ _ (by omega), zu_ne _ _ _ _ _ (by omega)]
  refine ⟨z1.z (zz_of (zk 17 (by omega)) 8) (fun k g1 g2 j => zz_of (zk k (by omega)) j), z2, z3, z4, ((FrY.z36 s 6 1 (Or.inr (Or.inr rfl))).tr y1).tr ((FrY.zp s1 22 v x5 ⟨by omega, by omega⟩).tr (FrY.zp _ 23 v (x6 + 1) ⟨by omega, by omega⟩)), fun k hk => ?_, ?_, ?_⟩
  · rw [zk k (by omega), y2 k hk, zu_ne _ _ _ _ _ (by omega)]
  · rw [zk 37 (by omega), y3, zu_ne _ _ _ _ _ (by omega)]
  · rw [zz_of (zk 36 (by omega)), zz_of y4, zz_ne _ _ _ _ _ _ (by omega)]
/-- a wrong name's node -/
theorem bad_node {P : Nat} {x5 x6 : Int} {s s1 : aZ} (hP : P < 17000) (hS : PS P s) (h : PN P (-1000000) (-1) (-1) (zu s 36 6 1) s1) : ∀ s2, s2 = zu (zu s1 22 P x5) 23 P (x6 + 1) → FrY s s2 ∧ (∀ k, k ≤ 7 → s2 k = s k) ∧ PS (P + 1) s2 ∧ zz s2 36 4 = zz s 36 4 ∧ zz s2 36 6 = 1 ∧ zz s2 17 11 = zz s 17 11 ∧ PFr P s s2 ∧ (zz s2 18 P = -1000000 ∧ zz s2 19 P = -1 ∧ zz s2 20 P = -1 ∧ zz s2 21 P = P) ∧ (inR x5 → zz s2 22 P = x5) ∧ (inR (x6 + 1) → zz s2 23 P = x6 + 1) ∧ zz s2 36 5 = zz s 36 5 := by
  rintro s2 rfl
  obtain ⟨k1, k2, k3, k4, k5⟩ := h.facts hP (by decide) ⟨by omega, by omega⟩ ⟨by omega, by omega⟩ hS.w6
  obtain ⟨y1, y2, y3, y4⟩ := h.y hP (by decide) ⟨by omega, by omega⟩ ⟨by omega, by omega⟩ hS.w6
  have e21 := h.same (Or.inl (by decide)) (Or.inl (by decide))
  have z : ∀ k j, (k < 22 ∨ 23 < k ∨ j ≠ P) → zz (zu (zu s1 22 P x5) 23 P (x6 + 1)) k j = zz s1 k j := fun k j g => by rw [zz_ne _ _ _ _ _ _ (by omega), zz_ne _ _ _ _ _ _ (by omega)]
  have zk : ∀ k, (k < 22 ∨ 23 < k) → zu (zu s1 22 P x5) 23 P (x6 + 1) k = s1 k := fun k g => by rw [zu_ne _ _ _ _ _ (by omega), zu_ne _ _ _ _ _ (by omega)]
  refine ⟨((FrY.z36 s 6 1 (Or.inr (Or.inr rfl))).tr y1).tr ((FrY.zp s1 22 P x5 ⟨by omega, by omega⟩).tr (FrY.zp _ 23 P (x6 + 1) ⟨by omega, by omega⟩)), fun k hk => ?_, k1.z (z 17 8 (by omega)) (fun k g1 g2 j => z k j (by omega)), ?_, ?_, ?_, fun k g1 g2 j hj => ?_, ⟨?_, ?_, ?_, ?_⟩, fun g => ?_, fun g => ?_, ?_⟩
  · rw [zk k (by omega), y2 k hk, zu_ne _ _ _ _ _ (by omega)]
  · rw [z 36 4 (by omega), zz_of y4, zz_ne _ _ _ _ _ _ (by omega)]
  · rw [z 36 6 (by omega), zz_of y4, zz_same _ _ _ (by decide)]
  · rw [z 17 11 (by omega), k3 11 (by decide), zz_ne _ _ _ _ _ _ (by omega)]
  · rw [z k j (by omega)]
    by_cases e : k = 21
    · subst e; rw [e21 j (by omega), zz_ne _ _ _ _ _ _ (by omega)]
    · rw [k5 k j g1 g2 e (by omega), zz_ne _ _ _ _ _ _ (by omega)]
  · rw [z 18 P (by omega)]; exact k4.1
  · rw [z 19 P (by omega)]; exact k4.2.1
  · rw [z 20 P (by omega)]; exact k4.2.2.1
  · rw [z 21 P (by omega)]; exact k4.2.2.2
  · rw [zz_ne _ _ _ _ _ _ (by omega), zz_same _ _ _ g]
  · rw [zz_same _ _ _ g]
  · rw [z 36 5 (by omega), zz_of y4, zz_ne _ _ _ _ _ _ (by omega)]
/-- a name alone in a row -/
theorem x_lone (hB : a_Can B) (hcap : XCap t n ns) (h2a : ta.getD 2 0 = 2) (G : Prop) (d K i P wc : Nat) (s : aZ) (l : aZL) (hd : 9 ≤ d) (h0 : ftT t n i = 0) (k1 : kdT t n i = 1) (hC : XC t n ns i s) (hT : XTy tn ta s) (hS : PS P s) (hw : zz s 36 4 = (wc : Nat)) (hP : P ≤ 17000) (hK : G → P + K ≤ i + 10999) : a_W d 69 0 [.ref 36, .retAddr 0] [] (mkH B s l) (XPo t n ns tn ta False G P wc K (.inr (.branch (4 * i + 1) (.leaf (1, 0)) (.leaf (1, 0)), i + 1)) B s l) := by
  have hk := kd_rng h0
  have hs : stT t n i < n := by omega
  have i6 := (ft0 h0 hs).1
  have fr := fd_rng tn (nmW t n (stT t n i))
  have tl := hT.1.2.2.2.1
  refine w69_0 hB (by omega) s l (a_W.imp (x_nm hB (by omega) l h0 k1 hC hT) ?_)
  rintro _ rfl
  refine ⟨_, s, l, rfl, a_W.imp (x_advance hB (by omega) hcap l i h0 hs hC) ?_⟩
  rintro _ ⟨s1, rfl, hA, f1, -⟩
  have hS1 := f1.ps hS
  have hT1 := f1.y.ty hT
  have t16 := hT1.2.2.1
  have z36 : ∀ q, zz s1 36 q = zz s 36 q := fun q => zz_of (f1.hi 36 (by decide)) q
  have eW : tyW (.branch (4 * i + 1) (.leaf (1, 0)) (.leaf (1, 0))) = 1 := by rw [tyW_b, if_neg (by omega)]; rfl
  have eH : tyH (.branch (4 * i + 1) (.leaf (1, 0)) (.leaf (1, 0))) = 1 := by rw [tyH_b, if_neg (by omega)]; rfl
  have eB : tyBad t n tn ta (.branch (4 * i + 1) (.leaf (1, 0)) (.leaf (1, 0))) = !gdN t n tn ta i 0 := bad_name i (.leaf (1, 0)) rfl
  have eg : gdN t n tn ta i 0 = true ↔ (0 ≤ fd tn (nmW t n (stT t n i)) tn.length ∧ ta.getD (fd tn (nmW t n (stT t n i)) tn.length).toNat 0 = ((0 : Nat) : Int)) := gdN_t
  -- unknown
  have bad : gdN t n tn ta i 0 = false → a_W (d - 1) 91 0 [.ref 17, iv 1, iv 1, .retAddr 0] [] (mkH B (zu s1 36 6 1) l) (fun r => ∃ (v10 : Int) (s8 : Nat → Nat → Int32) (l9 : Nat → Nat → Int64), r = (.inl (some (iv v10)), mkH B s8 l9) ∧ XPo t n ns tn ta False G P wc K (.inr (.branch (4 * i + 1) (.leaf (1, 0)) (.leaf (1, 0)), i + 1)) B s l (.inl (some (iv v10)), (mkH B s8 l9))) := by
    intro hb
    refine a_W.imp (x_wrong hB (by omega) l P hP (zu s1 36 6 1) hS1.w6 1 1) ?_
    rintro _ ⟨s0, w1, P1, rfl, hG⟩
    have e2 : ∀ w : Nat, zu (zu s0 22 w 1) 23 w 1 = zu (zu s0 22 w 1) 23 w (0 + 1) := fun _ => rfl
    obtain ⟨z1, z2, z3, z4, y1, y2, y3, y4⟩ := bad_safe hS1 hG _ (e2 w1)
    refine ⟨_, _, l, rfl, _, w1, P1, rfl, f1.y.tr y1, z2, z3, z4, z1, ?_, ?_, False.elim, Or.inl ⟨_, i + 1, rfl, hA.keep y2, fun g => ?_⟩⟩
    · rw [y4, z36]; exact hw
    · intro j _; rw [zz_of y3, zz_of (f1.hi 37 (by decide))]
    have hPl := hK g
    obtain ⟨rfl, rfl, h⟩ := hG.pn (by omega)
    obtain ⟨b1, b2, b3, b4, b5, b6, b7, b8, b9, b10, b11⟩ := bad_node (by omega) hS1 h _ (e2 w1)
    refine ⟨b6.trans (zz_of (f1.hi 17 (by decide)) 11), by omega, (f1.p _).tr b7 (Nat.le_refl _), ?_, ?_, LgC.same (b11.trans (z36 5)), NwO.one b8 (by omega) (by omega) (by omega) (fun c => absurd rfl c)⟩
    · refine ⟨⟨by omega, by omega⟩, ?_⟩
      rw [natc, eW, eH]
      exact ⟨b8.2.2.2, b9 (by decide), b10 (by decide), Or.inr (Or.inr ⟨by omega, rfl, by rw [show (4 * i + 1) / 4 = i by omega]; exact hb, b8.1, b8.2.1, b8.2.2.1⟩)⟩
    · rw [eB, hb, b5]; rfl
  have ef : ¬ (0 ≤ fd tn (nmW t n (stT t n i)) tn.length ∧ ta.getD (fd tn (nmW t n (stT t n i)) tn.length).toNat 0 = ((0 : Nat) : Int)) → gdN t n tn ta i 0 = false := gdN_f
  refine ⟨s1, l, rfl, ⟨by omega, by omega⟩, fun g => bad (ef (fun q => by omega)), fun g => ?_⟩
  refine w70_0 hB _ s1 l ⟨⟨by omega, by omega⟩, fun h => absurd h (by omega), fun _ => ⟨fun h => absurd h (by omega), fun _ => ⟨⟨by omega, by omega⟩, _, s1, l, rfl, inR_zz _ _ _, fun ne => ?_, fun eq => ?_⟩⟩⟩
  · rw [t16 _ (by omega)] at ne
    exact bad (ef (fun q => ne q.2))
  · rw [t16 _ (by omega)] at eq
    have hg : gdN t n tn ta i 0 = true := eg.mpr ⟨g, eq⟩
    have h2n : fd tn (nmW t n (stT t n i)) tn.length = 2 → (0 : Int) ≤ -1 ∧ (0 : Int) ≤ -1 := fun e2 => by
      rw [e2, show (2 : Int).toNat = 2 from rfl, h2a] at eq
      omega
    refine a_W.imp (x_writG hB (by omega) l P hP s1 hS1 _ (-1) (-1) ⟨by omega, by omega⟩ ⟨by omega, by omega⟩ ⟨by omega, by omega⟩) ?_
    rintro _ ⟨s2, w1, P1, rfl, hG⟩
    obtain ⟨z1, z2, z3, z4, y1, y2, y3, y4⟩ := hG.safe ⟨by omega, by omega⟩ ⟨by omega, by omega⟩ ⟨by omega, by omega⟩ hS1 h2n
    refine ⟨_, s2, l, rfl, s2, w1, P1, rfl, f1.y.tr y1, z2, z3, z4, z1, ?_, ?_, False.elim, Or.inl ⟨_, i + 1, rfl, hA.keep y2, fun g => ?_⟩⟩
    · rw [zz_of y4, z36]; exact hw
    · intro j _; rw [zz_of y3, zz_of (f1.hi 37 (by decide))]
    have hPl := hK g
    obtain ⟨rfl, rfl, h⟩ := hG.pn (by omega)
    obtain ⟨k1', k2, k3, k4, k5⟩ := h.facts (by omega) ⟨by omega, by omega⟩ ⟨by omega, by omega⟩ ⟨by omega, by omega⟩ hS1 h2n
    obtain ⟨e21, e22, e23⟩ := h.lone
    have har : arT ta (fd tn (nmW t n (stT t n i)) tn.length) = 0 := by
      unfold arT
      rw [if_neg (by omega), eq]
      rfl
    refine ⟨?_, by omega, ?_, ?_, ?_, LgC.same ((zz_of y4 5).trans (z36 5)), NwO.one k4 (by omega) (by omega) (by omega) (fun _ => by rw [har]; exact ⟨by omega, by omega⟩)⟩
    · rw [k3 11 (by decide), zz_of (f1.hi 17 (by decide))]
    · refine (f1.p _).tr (fun k g1 g2 j hj => ?_) (Nat.le_refl _)
      by_cases e : k = 21
      · subst e; exact e21 j (by omega)
      · exact k5 k j g1 g2 e (by omega)
    · refine ⟨⟨by omega, by omega⟩, ?_⟩
      rw [natc, eW, eH]
      refine ⟨k4.2.2.2, e22, e23, Or.inr (Or.inl ⟨by omega, rfl, by rw [show (4 * i + 1) / 4 = i by omega]; exact hg, by rw [show (4 * i + 1) / 4 = i by omega]; exact k4.1, ?_⟩)⟩
      rw [k4.2.1, k4.2.2.1]
      exact ⟨rfl, rfl, rfl⟩
    · rw [eB, hg, zz_of y4, z36]; rfl
/-- the slots of what was read, the last first -/
def SL (t : Nat → Int) (n : Nat) (ns tn : List (List Int)) (ta : List Int) (s : aZ) (lo hi : Nat) : List aT → Int → Int → Prop
  | [], x, y => x = -1 ∧ y = -1
  | [a], x, y => PI t n ns tn ta s lo hi a false x 0 ∧ y = -1
  | [b, a], x, y => PI t n ns tn ta s lo hi a false x 0 ∧ PI t n ns tn ta s lo hi b false y 0
  | _ :: _ :: _ :: _, _, _ => True
theorem SL.keep {s s2 : aZ} {lo hi lo2 hi2 : Nat} (he : ∀ k j, 18 ≤ k → k ≤ 23 → lo ≤ j → j < hi → zz s2 k j = zz s k j) (h1 : lo2 ≤ lo) (h2 : hi ≤ hi2) : ∀ (ts : List aT) (x y : Int), SL t n ns tn ta s lo hi ts x y → SL t n ns tn ta s2 lo2 hi2 ts x y := by
  intro ts x y h
  match ts, h with
  | [], h => exact h
  | [a], h => exact ⟨PI.keep he h1 h2 _ _ _ _ h.1, h.2⟩
  | [b, a], h => exact ⟨PI.keep he h1 h2 _ _ _ _ h.1, PI.keep he h1 h2 _ _ _ _ h.2⟩
  | _ :: _ :: _ :: _, _ => trivial
theorem SL.push {s : aZ} {lo hi : Nat} {T : aT} {w : Int} (hT : PI t n ns tn ta s lo hi T false w 0) : ∀ (ts : List aT) (x y : Int), SL t n ns tn ta s lo hi ts x y → SL t n ns tn ta s lo hi (T :: ts) (if ts.length = 0 then w else x) (if ts.length = 1 then w else y) := by
  intro ts x y h
  match ts, h with
  | [], h => exact ⟨hT, h.2⟩
  | [a], h => exact ⟨h.1, hT⟩
  | [b, a], h => trivial
  | _ :: _ :: _ :: _, _ => trivial
/-- two slots hold a row -/
theorem SL.row {s : aZ} {lo hi : Nat} : ∀ (ts : List aT) (x y : Int), ts.length ≤ 2 → SL t n ns tn ta s lo hi ts x y → PI t n ns tn ta s lo hi (accF ts (.leaf (1, 0))) true x y := by
  intro ts x y hl h
  match ts, h, hl with
  | [], h, _ => exact ⟨rfl, h.1, h.2⟩
  | [a], h, _ => exact ⟨rfl, h.1, rfl, h.2, rfl⟩
  | [b, a], h, _ => exact ⟨rfl, h.1, rfl, h.2, rfl, rfl, rfl⟩
  | _ :: _ :: _ :: _, _, hl => exact absurd hl (by simp only [List.length_cons]; omega)
theorem SL.sg {s : aZ} {lo hi : Nat} : ∀ (ts : List aT) (x y : Int), ts.length ≤ 2 → SL t n ns tn ta s lo hi ts x y → (0 ≤ x ↔ 1 ≤ ts.length) ∧ (0 ≤ y ↔ 2 ≤ ts.length) := by
  intro ts x y hl h
  match ts, h, hl with
  | [], h, _ =>
    obtain ⟨rfl, rfl⟩ := h
    exact ⟨by decide, by decide⟩
  | [a], h, _ =>
    obtain ⟨h1, rfl⟩ := h
    have := h1.node.1
    refine ⟨⟨fun _ => Nat.le_refl _, fun _ => by omega⟩, ⟨fun c => absurd c (by decide), fun c => absurd c (by simp only [List.length_cons, List.length_nil]; omega)⟩⟩
  | [b, a], h, _ =>
    obtain ⟨h1, h2⟩ := h
    have := h1.node.1
    have := h2.node.1
    refine ⟨⟨fun _ => by simp only [List.length_cons, List.length_nil]; omega, fun _ => by omega⟩, ⟨fun _ => Nat.le_refl _, fun _ => by omega⟩⟩
  | _ :: _ :: _ :: _, _, hl => exact absurd hl (by simp only [List.length_cons]; omega)
theorem SL.rt {s : aZ} {lo hi : Nat} : ∀ (ts : List aT) (x y : Int), ts.length ≤ 2 → SL t n ns tn ta s lo hi ts x y → rtP s x ∧ rtP s y ∧ szP s 22 x + szP s 22 y = sumW ts ∧ 0 ≤ szP s 22 x ∧ 0 ≤ szP s 22 y ∧ 0 ≤ szP s 23 x ∧ 0 ≤ szP s 23 y ∧ max (szP s 23 x) (szP s 23 y) = maxH ts := by
  have no : ∀ k, szP s k (-1) = 0 := fun k => by unfold szP; rw [if_pos (by decide)]
  have nd : ∀ (T : aT) (w : Int), PI t n ns tn ta s lo hi T false w 0 → rtP s w ∧ szP s 22 w = tyW T ∧ szP s 23 w = tyH T := fun T w h => by
    obtain ⟨a1, a2, a3, a4, a5⟩ := h.node
    refine ⟨Or.inr a2, ?_, ?_⟩
    · unfold szP; rw [if_neg (by omega)]; exact a3
    · unfold szP; rw [if_neg (by omega)]; exact a4
  intro ts x y hl h
  match ts, h, hl with
  | [], h, _ =>
    obtain ⟨rfl, rfl⟩ := h
    rw [no, no]
    exact ⟨Or.inl (by decide), Or.inl (by decide), rfl, by decide, by decide, by decide, by decide, rfl⟩
  | [a], h, _ =>
    obtain ⟨h1, rfl⟩ := h
    obtain ⟨n1, n2, n3⟩ := nd a x h1
    rw [no, no, n2, n3]
    refine ⟨n1, Or.inl (by decide), ?_, by omega, by decide, by omega, by decide, ?_⟩
    · show (tyW a : Int) + 0 = ((tyW a + 0 : Nat) : Int); omega
    · show max (tyH a : Int) 0 = ((max (tyH a) 0 : Nat) : Int); omega
  | [b, a], h, _ =>
    obtain ⟨h1, h2⟩ := h
    obtain ⟨n1, n2, n3⟩ := nd a x h1
    obtain ⟨m1, m2, m3⟩ := nd b y h2
    rw [n2, n3, m2, m3]
    refine ⟨n1, m1, ?_, by omega, by omega, by omega, by omega, ?_⟩
    · show (tyW a : Int) + tyW b = ((tyW b + (tyW a + 0) : Nat) : Int); omega
    · show max (tyH a : Int) (tyH b) = ((max (tyH b) (max (tyH a) 0) : Nat) : Int); omega
  | _ :: _ :: _ :: _, _, hl => exact absurd hl (by simp only [List.length_cons]; omega)
end
