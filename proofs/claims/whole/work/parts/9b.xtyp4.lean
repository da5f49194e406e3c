/-! THE READER READS A TYPE: ARROWS; THE WHOLE -/
section
variable {B : aH} {t : Nat → Int} {n : Nat} {ns tn : List (List Int)} {ta : List Int}
theorem arrF_B : ∀ (ts : List aT) (a : aT), tyBad t n tn ta (arrF ts a) = (anyB t n tn ta ts || tyBad t n tn ta a) := by
  intro ts
  induction ts with
  | nil => intro R; exact (Bool.false_or _).symm
  | cons T ts ih =>
    intro R
    have e : tyBad t n tn ta (.branch 3 T R) = (tyBad t n tn ta T || tyBad t n tn ta R) := by
      show ((decide (3 % 4 = 1) && !gdN t n tn ta (3 / 4) (argN T)) || tyBad t n tn ta T || tyBad t n tn ta R) = _
      rw [show decide (3 % 4 = 1) = false from rfl, Bool.false_and, Bool.false_or]
    have e2 : arrF (T :: ts) R = arrF ts (.branch 3 T R) := rfl
    rw [e2, ih, e]
    show (anyB t n tn ta ts || (tyBad t n tn ta T || tyBad t n tn ta R)) = (anyB t n tn ta ts || tyBad t n tn ta T || tyBad t n tn ta R)
    rw [Bool.or_assoc]
theorem arrF_W : ∀ (ts : List aT) (a : aT), tyW a + sumW ts ≤ tyW (arrF ts a) := by
  intro ts
  induction ts with
  | nil => intro a; exact Nat.le_refl _
  | cons T ts ih =>
    intro a
    have h := ih (.branch 3 T a)
    have e2 : arrF (T :: ts) a = arrF ts (.branch 3 T a) := rfl
    rw [tyW_b, if_neg (by decide)] at h
    rw [e2]
    show tyW a + (tyW T + sumW ts) ≤ _
    omega
theorem arrF_H : ∀ (ts : List aT) (a : aT), max (tyH a) (maxH ts) ≤ tyH (arrF ts a) := by
  intro ts
  induction ts with
  | nil => intro a; show max (tyH a) 0 ≤ tyH a; omega
  | cons T ts ih =>
    intro a
    have h := ih (.branch 3 T a)
    have e2 : arrF (T :: ts) a = arrF ts (.branch 3 T a) := rfl
    rw [tyH_b, if_neg (by decide)] at h
    rw [e2]
    show max (tyH a) (max (tyH T) (maxH ts)) ≤ _
    omega
/-- what is told of large types while what stands at arrows is read -/
def LgA (lg : Int) (ts : List aT) (a : aT) (s : aZ) : Prop := (lg ≠ 0 → zz s 36 5 ≠ 0) ∧ (zz s 36 5 ≠ 0 → lg ≠ 0 ∨ 40 < tyW a + sumW ts ∨ 12 < max (tyH a) (maxH ts))
theorem LgA.push {lg : Int} {ts : List aT} {a T : aT} {top : Prop} {s s1 s2 : aZ} (h : LgA lg ts a s) (e : zz s1 36 5 = zz s 36 5) (g : LgC top T s1 s2) : LgA lg (a :: ts) T s2 := by
  unfold LgA
  have e1 : sumW (a :: ts) = tyW a + sumW ts := rfl
  have e2 : maxH (a :: ts) = max (tyH a) (maxH ts) := rfl
  rw [e1, e2]
  refine ⟨fun c => g.1 (by rw [e]; exact h.1 c), fun c => ?_⟩
  rcases g.2.1 c with c | c | c
  · rw [e] at c
    rcases h.2 c with c | c | c
    · exact Or.inl c
    · exact Or.inr (Or.inl (by omega))
    · exact Or.inr (Or.inr (by omega))
  · exact Or.inr (Or.inl (by omega))
  · exact Or.inr (Or.inr (by omega))
theorem LgA.one {T : aT} {top : Prop} {s s2 : aZ} (g : LgC top T s s2) : LgA (zz s 36 5) [] T s2 := by
  refine ⟨g.1, fun c => ?_⟩
  rcases g.2.1 c with c | c | c
  · exact Or.inl c
  · exact Or.inr (Or.inl (by show 40 < tyW T + 0; omega))
  · exact Or.inr (Or.inr (by show 12 < max (tyH T) 0; omega))
theorem LgA.fin {ts : List aT} {a : aT} {s0 s s2 : aZ} (h : LgA (zz s0 36 5) ts a s) (e : zz s2 36 5 ≠ 0 ↔ (zz s 36 5 ≠ 0 ∨ LgT (arrF ts a))) : LgC True (arrF ts a) s0 s2 := by
  have w := arrF_W ts a
  have g := arrF_H ts a
  refine ⟨fun c => e.mpr (Or.inl (h.1 c)), fun c => ?_, fun _ c => e.mpr (Or.inr c)⟩
  rcases e.mp c with c | c
  · rcases h.2 c with c | c | c
    · exact Or.inl c
    · exact Or.inr (Or.inl (by omega))
    · exact Or.inr (Or.inr (by omega))
  · exact Or.inr c
/-- behind a fault what waits is folded -/
theorem x_arrF (hB : a_Can B) (h2a : ta.getD 2 0 = 2) (G : Prop) (d K j P0 P wc x3 : Nat) (ts : List aT) (x1 : Int) (s0 s : aZ) (l : aZL) (f : Int) (hd : 7 ≤ d) (hF : XFt t n ns f j s) (hS : PS P s) (hP : P ≤ 17000) (hx : x3 < P) (hw : zz s 36 4 = ((wc + ts.length : Nat) : Int)) (h31 : wc + ts.length ≤ 3001) (hr : ∀ j, j < ts.length → 0 ≤ zz s 37 (wc + j) ∧ zz s 37 (wc + j) < P) (h0 : P0 ≤ P) (hf : FrY s0 s) (hwt : WtF wc s0 s) : a_W d 65 14 [.ref 36, iv x1, iv (wc : Int), iv (x3 : Int), iv (ts.length : Int)] [] (mkH B s l) (XPo t n ns tn ta True G P0 wc K (.inl (f, j)) B s0 l) := by
  have ex : a_W d 65 58 [.ref 36, iv x1, iv (wc : Int), iv (x3 : Int), iv (ts.length : Int)] [] (mkH B s l) (XPo t n ns tn ta True G P0 wc K (.inl (f, j)) B s0 l) := by
    refine a_W.imp (x_fold (t := t) (n := n) (ns := ns) (tn := tn) (ta := ta) hB hd h2a l x1 _ wc P0 ts (.leaf (1, 0)) P x3 s hS h0 hP hx hw h31 hr) ?_
    rintro _ ⟨s2, w, P2, rfl, a1, a2, a3, a4, a6, a9, a10, a7, a5, -⟩
    exact ⟨s2, w, P2, rfl, hf.tr a1, by omega, a10, a7, a6, a4, hwt.tr (fun q _ => zz_of a3 q) (Nat.le_refl _), fun _ => a5, Or.inr ⟨f, j, rfl, hF.keep a2⟩⟩
  have k0 := hF.k0
  exact w65_14 hB (by omega) x1 _ _ _ s l ⟨⟨by omega, by omega⟩, fun _ => ex, fun _ => ⟨fun _ => ex, fun c => absurd (k0.symm.trans c) (by decide)⟩⟩
theorem x_arr (hB : a_Can B) (hcap : XCap t n ns) (h2a : ta.getD 2 0 = 2) (G : Prop) (P0 wc dep K : Nat) (hdep : dep ≤ 40) : ∀ (N : Nat), (∀ M, M < N → XA1 B t n ns tn ta M) → ∀ (d j P : Nat) (a : aT) (ts : List aT) (x3 : Nat) (s0 s : aZ) (l : aZL) (res : (Int × Nat) ⊕ (aT × Nat)), 30 + 5 * (40 - dep) ≤ d → pA t n N dep j a = some res → j ≤ 6000 → XAt t n ns j s → XTy tn ta s → PS P s → P ≤ 17000 → P0 ≤ P → x3 < P → (∀ j, j < ts.length → 0 ≤ zz s 37 (wc + j) ∧ zz s 37 (wc + j) < P) → zz s 36 4 = ((wc + ts.length : Nat) : Int) → 2 * (wc + ts.length) + 1 ≤ j → tyW a + sumW ts + ts.length ≤ j → (G → WL t n ns tn ta s P0 P wc ts ∧ PI t n ns tn ta s P0 P a false x3 0 ∧ P + (K + ts.length) ≤ j + 10999 ∧ zz s 17 11 = zz s0 17 11 ∧ zz s 36 6 = bF (anyB t n tn ta ts || tyBad t n tn ta a) (zz s0 36 6) ∧ PFr P0 s0 s ∧ zz s0 17 11 = 0 ∧ LgA (zz s0 36 5) ts a s ∧ NwO ta P0 P s) → FrY s0 s → WtF wc s0 s → a_W d 65 14 [.ref 36, iv (dep : Int), iv (wc : Int), iv (x3 : Int), iv (ts.length : Int)] [] (mkH B s l) (XPo t n ns tn ta True G P0 wc K (resM (arrF ts) res) B s0 l) := by
  intro N
  induction N using Nat.strongRecOn with
  | _ N ih =>
  intro hA1 d j P a ts x3 s0 s l res hd h hj hA hT hS hP h0P hx hrg hw hwj hsz hGG hf hwt
  unfold pA at h
  rcases pLk_some h with ⟨c, rfl⟩ | ⟨h0, h⟩
  · exact x_arrF hB h2a G d K j P0 P wc x3 ts _ s0 s l _ (by omega) (hA.f c) hS hP hx hw (by omega) hrg h0P hf hwt
  have hC := hA.1 h0
  have k6 : zz s 1 6 = kdT t n j := hC.2.2.2.2.1
  have hk := kd_rng h0
  by_cases k8 : kdT t n j = 8
  · rw [if_pos k8] at h
    have hs : stT t n j < n := by omega
    have j6 := (ft0 h0 hs).1
    cases N with
    | zero => exact absurd (show (none : aPr) = some res from h) (by intro h; cases h)
    | succ M =>
      obtain ⟨q, hq, rfl⟩ := pBd_resM h
      rw [resM_f (f := arrF ts) rfl (fun _ => rfl)]
      refine w65_14 hB (by omega) _ _ _ _ s l ⟨⟨by omega, by omega⟩, fun c => absurd c (by omega), fun _ => ⟨fun c => absurd (k6.trans k8) c, fun _ => ⟨fun c => absurd c (by omega), fun _ => ⟨⟨by omega, by omega⟩, ?_⟩⟩⟩⟩
      rw [hw, natc, show ((wc + ts.length : Nat) : Int) + 1 = ((wc + (ts.length + 1) : Nat) : Int) by omega]
      have f0 : FrY s (zu (zu s 37 (wc + ts.length) (x3 : Int)) 36 4 ((wc + (ts.length + 1) : Nat) : Int)) := (FrY.z37 s _ _).tr (FrY.z36 _ 4 _ (Or.inl rfl))
      have z0 : ∀ k, k ≠ 36 → k ≠ 37 → zu (zu s 37 (wc + ts.length) (x3 : Int)) 36 4 ((wc + (ts.length + 1) : Nat) : Int) k = s k := fun k h1 h2 => by rw [zu_ne _ _ _ _ _ h1, zu_ne _ _ _ _ _ h2]
      have z4 : zz (zu (zu s 37 (wc + ts.length) (x3 : Int)) 36 4 ((wc + (ts.length + 1) : Nat) : Int)) 36 4 = ((wc + (ts.length + 1) : Nat) : Int) := zz_same _ _ _ ⟨by omega, by omega⟩
      have z6 : zz (zu (zu s 37 (wc + ts.length) (x3 : Int)) 36 4 ((wc + (ts.length + 1) : Nat) : Int)) 36 6 = zz s 36 6 := by rw [zz_ne _ _ _ _ _ _ (by omega), zz_ne _ _ _ _ _ _ (by omega)]
      have z5 : zz (zu (zu s 37 (wc + ts.length) (x3 : Int)) 36 4 ((wc + (ts.length + 1) : Nat) : Int)) 36 5 = zz s 36 5 := by rw [zz_ne _ _ _ _ _ _ (by omega), zz_ne _ _ _ _ _ _ (by omega)]
      have z37 : ∀ q, q ≠ wc + ts.length → zz (zu (zu s 37 (wc + ts.length) (x3 : Int)) 36 4 ((wc + (ts.length + 1) : Nat) : Int)) 37 q = zz s 37 q := fun q hq => by rw [zz_ne _ _ _ _ _ _ (by omega), zz_ne _ _ _ _ _ _ (by omega)]
      have y37 : zz (zu (zu s 37 (wc + ts.length) (x3 : Int)) 36 4 ((wc + (ts.length + 1) : Nat) : Int)) 37 (wc + ts.length) = x3 := by rw [zz_ne _ _ _ _ _ _ (by omega), zz_same _ _ _ ⟨by omega, by omega⟩]
      generalize zu (zu s 37 (wc + ts.length) (x3 : Int)) 36 4 ((wc + (ts.length + 1) : Nat) : Int) = s1 at *
      have hS1 : PS P s1 := hS.z (zz_of (z0 17 (by decide) (by decide)) 8) (fun k g1 g2 q => zz_of (z0 k (by omega) (by omega)) q)
      refine a_W.imp (x_advance hB (by omega) hcap l j h0 hs (hC.keep (fun k hk => z0 k (by omega) (by omega)))) ?_
      rintro _ ⟨s2, rfl, hA2, f2, -⟩
      refine ⟨s2, l, rfl, ?_⟩
      have hS2 := f2.ps hS1
      have fy : FrY s s2 := f0.tr f2.y
      have hT2 := fy.ty hT
      have w4 : zz s2 36 4 = ((wc + (ts.length + 1) : Nat) : Int) := (zz_of (f2.hi 36 (by decide)) 4).trans z4
      have w6 : zz s2 36 6 = zz s 36 6 := (zz_of (f2.hi 36 (by decide)) 6).trans z6
      have w5 : zz s2 36 5 = zz s 36 5 := (zz_of (f2.hi 36 (by decide)) 5).trans z5
      have kp : ∀ k q, 18 ≤ k → k ≤ 23 → zz s2 k q = zz s k q := fun k q g1 g2 => (zz_of (f2.hi k (by omega)) q).trans (zz_of (z0 k (by omega) (by omega)) q)
      have p37 : ∀ q, q ≠ wc + ts.length → zz s2 37 q = zz s 37 q := fun q hq => (zz_of (f2.hi 37 (by decide)) q).trans (z37 q hq)
      have v37 : zz s2 37 (wc + ts.length) = x3 := (zz_of (f2.hi 37 (by decide)) _).trans y37
      have hWL2 : G → WL t n ns tn ta s2 P0 P wc (a :: ts) := fun g => by
        obtain ⟨g1, g2, -⟩ := hGG g
        refine ⟨?_, WL.keep (fun k q g1 g2 _ _ => kp k q g1 g2) (Nat.le_refl _) (Nat.le_refl _) ts (fun q hq => p37 q (by omega)) g1⟩
        rw [v37]
        exact PI.keep (fun k q g1 g2 _ _ => kp k q g1 g2) (Nat.le_refl _) (Nat.le_refl _) _ _ _ _ g2
      have hwt2 : WtF wc s0 s2 := hwt.tr (fun q hq => p37 q (by omega)) (Nat.le_refl _)
      have el : (a :: ts).length = ts.length + 1 := List.length_cons
      have el2 : (ts.length : Int) + 1 = (((a :: ts).length : Nat) : Int) := by rw [el]; omega
      have hrg2 : ∀ q, q < (a :: ts).length → 0 ≤ zz s2 37 (wc + q) ∧ zz s2 37 (wc + q) < P := fun q hq => by
        rw [el] at hq
        by_cases e : q = ts.length
        · subst e; rw [v37]; omega
        · rw [p37 _ (by omega)]; exact hrg q (by omega)
      have w11 : zz s2 17 11 = zz s 17 11 := (zz_of (f2.hi 17 (by decide)) 11).trans (zz_of (z0 17 (by decide) (by decide)) 11)
      -- behind a fault
      have bad : ∀ (f : Int) (j1 P1 w : Nat) (s7 : aZ), XFt t n ns f j1 s7 → PS P1 s7 → P ≤ P1 → P1 ≤ 17000 → w < P1 → zz s7 36 4 = ((wc + (ts.length + 1) : Nat) : Int) → WtF (wc + (ts.length + 1)) s2 s7 → FrY s2 s7 → a_W d 65 14 [.ref 36, iv (dep : Int), iv (wc : Int), iv (w : Int), iv ((ts.length : Int) + 1)] [] (mkH B s7 l) (XPo t n ns tn ta True G P0 wc K (.inl (f, j1)) B s0 l) := by
        intro f j1 P1 w s7 hF hS7 hP1 hP17 hw1 h4 hwt7 hf7
        rw [el2]
        refine x_arrF hB h2a G d K j1 P0 P1 wc w (a :: ts) _ s0 s7 l f (by omega) hF hS7 hP17 hw1 (by rw [el]; exact h4) (by rw [el]; omega) (fun q hq => ?_) (by omega) (hf.tr (fy.tr hf7)) (hwt2.tr hwt7 (by omega))
        rw [hwt7 _ (by rw [el] at hq; omega)]
        have := hrg2 q hq
        omega
      rw [pty_0] at hq
      rcases pLk_some hq with ⟨c, rfl⟩ | ⟨g0, hq⟩
      · refine a_W.imp (x_atomF hB (by omega) l _ (hA2.f c)) ?_
        rintro _ rfl
        exact ⟨_, s2, l, rfl, bad _ (j + 1) P 0 s2 (hA2.f c) hS2 (Nat.le_refl _) hP hS2.1 w4 (WtF.rf _ _) (FrY.rf _)⟩
      rcases pBd_some hq with ⟨e, r1, rfl⟩ | ⟨a2, j2, r1, r2⟩
      · refine a_W.imp (hA1 M (by omega) G (d - 1) dep (K + ts.length + 1) (j + 1) P (wc + (ts.length + 1)) s2 l _ (by omega) hdep r1 (by omega) hA2 hT2 hS2 w4 (by omega) hP (fun g => by have h1 := (hGG g).2.2.1; have h2 := (hGG g).2.2.2.1; have h3 := (hGG g).2.2.2.2.2.2.1; omega)) ?_
        rintro _ ⟨s7, w, P1, rfl, a2, a3, a8, a4, a5, a6, a7, -, ⟨T, j3, b1, -⟩ | ⟨f, j3, b1, b3⟩⟩
        · cases b1
        · cases b1
          exact ⟨_, s7, l, rfl, bad f j3 P1 w s7 b3 a5 a3 a8 a4 a6 a7 a2⟩
      · have hje := (pty_le t n M 1 dep (j + 1) _ (by decide) (fun c => absurd c (by decide)) (by omega) r1).1 a2 j2 rfl
        have hps := pty_pos t n M 1 dep (j + 1) a2 j2 (by decide) r1
        refine a_W.imp (hA1 M (by omega) G (d - 1) dep (K + ts.length + 1) (j + 1) P (wc + (ts.length + 1)) s2 l _ (by omega) hdep r1 (by omega) hA2 hT2 hS2 w4 (by omega) hP (fun g => by have h1 := (hGG g).2.2.1; have h2 := (hGG g).2.2.2.1; have h3 := (hGG g).2.2.2.2.2.2.1; omega)) ?_
        rintro _ ⟨s7, w, P1, rfl, c2, c3, c8, c4, c5, c6, c7, -, ⟨T, j3, b1, b3, bG⟩ | ⟨f, j3, b1, -⟩⟩
        rotate_left
        · cases b1
        cases b1
        refine ⟨_, s7, l, rfl, ?_⟩
        rw [el2]
        refine ih M (by omega) (fun M' h' => hA1 M' (by omega)) d j2 P1 a2 (a :: ts) w s0 s7 l q hd r2 hje.2 b3 (c2.ty hT2) c5 c8 (by omega) c4 (fun q hq => ?_) (by rw [el]; exact c6) (by rw [el]; omega) ?_ (fun g => ?_) (hf.tr (fy.tr c2)) (hwt2.tr c7 (by omega))
        · rw [c7 _ (by rw [el] at hq; omega)]
          have := hrg2 q hq
          omega
        · rw [el]
          show tyW a2 + (tyW a + sumW ts) + (ts.length + 1) ≤ j2
          omega
        · obtain ⟨b0, b2, b4, b5, b6, bL, b9⟩ := bG g
          obtain ⟨g1, g2, g3, g4, g5, g6, g8, g9, g7⟩ := hGG g
          refine ⟨WL.keep (fun k q g1 g2 _ g4 => b4 k g1 g2 q g4) (Nat.le_refl _) c3 _ (fun q hq => c7 q (by rw [el] at hq; omega)) (hWL2 g), PI.keep (fun _ _ _ _ _ _ => rfl) h0P (Nat.le_refl _) _ _ _ _ b5, by rw [el]; omega, b0.trans (w11.trans g4), ?_, g6.tr (fun k g1 g2 q hq => (b4 k g1 g2 q (by omega)).trans (kp k q g1 g2)) (Nat.le_refl _), g8, g9.push w5 bL, (g7.keep (fun k q g1 g2 _ g4 => (b4 k (by omega) (by omega) q g4).trans (kp k q (by omega) (by omega)))).cat b9⟩
          rw [b6, w6, g5, bF_or]
          rfl
  · rw [if_neg k8] at h
    cases h
    have ex : a_W d 65 58 [.ref 36, iv (dep : Int), iv (wc : Int), iv (x3 : Int), iv (ts.length : Int)] [] (mkH B s l) (XPo t n ns tn ta True G P0 wc K (.inr (arrF ts a, j)) B s0 l) := by
      refine a_W.imp (x_fold (t := t) (n := n) (ns := ns) (tn := tn) (ta := ta) hB (by omega) h2a l _ _ wc P0 ts a P x3 s hS h0P hP hx hw (by omega) hrg) ?_
      rintro _ ⟨s2, w, P2, rfl, a1, a2, a3, a4, a6, a9, a10, a7, a5, a8⟩
      refine ⟨s2, w, P2, rfl, hf.tr a1, by omega, a10, a7, a6, a4, hwt.tr (fun q _ => zz_of a3 q) (Nat.le_refl _), fun _ => a5, Or.inl ⟨_, j, rfl, hA.keep a2, fun g => ?_⟩⟩
      obtain ⟨g1, g2, g3, g4, g5, g6, g8, g9, g7⟩ := hGG g
      obtain ⟨r0, r1, r2, r3, r4, rL, r5⟩ := a8 (by omega) (g4.trans g8) g1 g2 (by omega) g7
      refine ⟨r1.trans g4, by omega, g6.tr r3 h0P, r4, ?_, g9.fin rL, r5⟩
      rw [r2, g5, arrF_B]
    exact w65_14 hB (by omega) _ _ _ _ s l ⟨⟨by omega, by omega⟩, fun _ => ex, fun _ => ⟨fun _ => ex, fun c => absurd (k6.symm.trans c) k8⟩⟩
theorem x_a0 (hB : a_Can B) (hcap : XCap t n ns) (h2a : ta.getD 2 0 = 2) (N : Nat) (hM : ∀ M, M ≤ N → XA1 B t n ns tn ta M) : XA0 B t n ns tn ta (N + 1) := by
  intro G d dep K i P wc s l res hd hdep h hi hA hT hS hw hwi hP hK
  have p0 := hS.1
  rw [pty_0] at h
  rcases pLk_some h with ⟨c, rfl⟩ | ⟨h0, h⟩
  · refine a_W.imp (x_readF hB (by omega) l _ hP hS (hA.f c)) ?_
    rintro _ ⟨s2, v, rfl, hv, hv01⟩
    have hF2 : XFt t n ns (ftT t n i) i (zu s2 36 5 v) := (hA.f c).keep (fun k hk => (zu_ne _ _ _ _ _ (by omega)).trans (hv.k k (by omega)))
    refine XPo.bad (w := 0) (hv.y.tr (FrY.z36 _ 5 _ (Or.inr (Or.inl rfl)))) p0 hP ((hv.ps hS).z (zz_ne _ _ _ _ _ _ (by omega)) (fun k _ _ j => zz_ne _ _ _ _ _ _ (by omega))) ?_ (fun q _ => ?_) hF2 (fun _ => ?_)
    · rw [zz_ne _ _ _ _ _ _ (by omega), zz_of (hv.k 36 (by decide))]; exact hw
    · rw [zz_ne _ _ _ _ _ _ (by omega), zz_of (hv.k 37 (by decide))]
    · rw [zz_same _ _ _ (by rcases hv01 with e | e <;> rw [e] <;> decide)]; exact hv01
  refine w65_0 hB (by omega) _ s l ?_
  rw [hw]
  rcases pBd_some h with ⟨e, r1, rfl⟩ | ⟨a, j, r1, r2⟩
  · refine a_W.imp (hM N (Nat.le_refl _) G (d - 1) dep K i P wc s l _ (by omega) hdep r1 hi hA hT hS hw hwi hP hK) ?_
    rintro _ ⟨s7, w, P1, rfl, a2, a3, a8, a4, a5, a6, a7, -, ⟨T, j3, b1, -⟩ | ⟨f, j3, b1, b3⟩⟩
    · cases b1
    · cases b1
      exact ⟨_, s7, l, rfl, x_arrF hB h2a G d K j3 P P1 wc w [] _ s s7 l f (by omega) b3 a5 a8 a4 a6 (by show wc + 0 ≤ 3001; omega) (fun q hq => absurd hq (Nat.not_lt_zero _)) a3 a2 a7⟩
  · have hje := (pty_le t n N 1 dep i _ (by decide) (fun c => absurd c (by decide)) hi r1).1 a j rfl
    have hps := pty_pos t n N 1 dep i a j (by decide) r1
    refine a_W.imp (hM N (Nat.le_refl _) G (d - 1) dep K i P wc s l _ (by omega) hdep r1 hi hA hT hS hw hwi hP hK) ?_
    rintro _ ⟨s7, w, P1, rfl, a2, a3, a8, a4, a5, a6, a7, -, ⟨T, j3, b1, b3, bG⟩ | ⟨f, j3, b1, -⟩⟩
    rotate_left
    · cases b1
    cases b1
    have e0 : resM (arrF []) res = res := by cases res <;> rfl
    have := x_arr hB hcap h2a G P wc dep K hdep N (fun M h => hM M (by omega)) d j P1 a [] w s s7 l res hd r2 hje.2 b3 (a2.ty hT) a5 a8 a3 a4 (fun q hq => absurd hq (Nat.not_lt_zero _)) a6 (by show 2 * (wc + 0) + 1 ≤ j; omega) (by show tyW a + 0 + 0 ≤ j; omega) (fun g => ⟨trivial, (bG g).2.2.2.1, (bG g).2.1, (bG g).1, (bG g).2.2.2.2.1, (bG g).2.2.1, (hK g).2, LgA.one (bG g).2.2.2.2.2.1, (bG g).2.2.2.2.2.2⟩) a2 a7
    rw [e0] at this
    exact ⟨_, s7, l, rfl, this⟩
/-- THE READER READS TYPES AS THEY PARSE -/
theorem x_types (hB : a_Can B) (hcap : XCap t n ns) (hta : ∀ i, ta.getD i 0 ≤ 2) (h2a : ta.getD 2 0 = 2) : ∀ N, XA0 B t n ns tn ta N ∧ XA1 B t n ns tn ta N ∧ XA2 B t n ns tn ta N := by
  intro N
  induction N using Nat.strongRecOn with
  | _ N ih =>
  cases N with
  | zero =>
    refine ⟨?_, ?_, ?_⟩
    · intro G d dep K i P wc s l res _ _ h; exact absurd (show (none : aPr) = some res from h) (by intro h; cases h)
    · intro G d dep K i P wc s l res _ _ h; exact absurd (show (none : aPr) = some res from h) (by intro h; cases h)
    · intro G d dep K i P wc s l res _ _ h; exact absurd (show (none : aPr) = some res from h) (by intro h; cases h)
  | succ N => exact ⟨x_a0 hB hcap h2a N (fun M h => (ih M (by omega)).2.1), x_a1 hB hcap hta h2a N (fun M h => (ih M (by omega)).2.2), x_a2 hB hcap N (ih N (by omega)).1⟩
/-- a written type that is no part of another -/
def XWo (t : Nat → Int) (n : Nat) (ns tn : List (List Int)) (ta : List Int) (G : Prop) (P0 wc K : Nat) (r : (Int × Nat) ⊕ (aT × Nat)) (B : aH) (s : aZ) (l : aZL) (q : aR) : Prop := ∃ (s2 : aZ) (w P2 : Nat) (v : Int), q = (.inl (some (iv (w : Int))), mkH B (zu s2 36 5 v) l) ∧ FrY s s2 ∧ P0 ≤ P2 ∧ P2 ≤ 17000 ∧ w < P2 ∧ PS P2 s2 ∧ zz s2 36 4 = (wc : Nat) ∧ WtF wc s s2 ∧ (v = 0 ∨ v = 1) ∧ ((∃ T j, r = .inr (T, j) ∧ XAt t n ns j s2 ∧ (G → zz s2 17 11 = zz s 17 11 ∧ P2 + K ≤ j + 10999 ∧ PFr P0 s s2 ∧ PI t n ns tn ta s2 P0 P2 T false w 0 ∧ zz s2 36 6 = bF (tyBad t n tn ta T) (zz s 36 6) ∧ (v = 1 ↔ (zz s 36 5 ≠ 0 ∨ LgT T)) ∧ NwO ta P0 P2 s2)) ∨ (∃ f j, r = .inl (f, j) ∧ XFt t n ns f j s2))
theorem x_written (hB : a_Can B) (hcap : XCap t n ns) (hta : ∀ i, ta.getD i 0 ≤ 2) (h2a : ta.getD 2 0 = 2) (G : Prop) (N d dep K i P wc : Nat) (s : aZ) (l : aZL) (res : (Int × Nat) ⊕ (aT × Nat)) (hd : 31 + 5 * (40 - dep) ≤ d) (hdep : dep ≤ 40) (h : pty t n N 0 dep i = some res) (hi : i ≤ 6000) (hA : XAt t n ns i s) (hT : XTy tn ta s) (hS : PS P s) (hw : zz s 36 4 = (wc : Nat)) (hwi : 2 * wc ≤ i) (hP : P ≤ 17000) (hK : G → P + K ≤ i + 10999) (h11 : G → zz s 17 11 = 0) : a_W d 65 0 [.ref 36, iv (dep : Int), .retAddr 0, .retAddr 0, .retAddr 0] [] (mkH B s l) (XWo t n ns tn ta G P wc K res B s l) := by
  refine a_W.imp ((x_types hB hcap hta h2a N).1 G d dep K i P wc s l res (by omega) hdep h hi hA hT hS hw hwi hP (fun g => ⟨hK g, h11 g⟩)) ?_
  rintro _ ⟨s2, w, P2, rfl, a2, a3, a9, a4, a5, a6, a7, a5v, a8⟩
  refine ⟨s2, w, P2, zz s2 36 5, by rw [zu_zz], a2, a3, a9, a4, a5, a6, a7, a5v trivial, ?_⟩
  rcases a8 with ⟨T, j, b1, b3, bG⟩ | c
  · refine Or.inl ⟨T, j, b1, b3, fun g => ?_⟩
    obtain ⟨c0, c1, c2, c3, c4, cL, c6⟩ := bG g
    refine ⟨c0, c1, c2, c3, c4, ⟨fun e => cL.2.1 (by rw [e]; decide), fun e => ?_⟩, c6⟩
    have hne : zz s2 36 5 ≠ 0 := e.elim cL.1 (cL.2.2 trivial)
    rcases a5v trivial with e | e
    · exact absurd e hne
    · exact e
  · exact Or.inr c
end
