/-! THE READER READS A TYPE: THE LOOPS -/
section
variable {B : aH} {t : Nat → Int} {n : Nat} {ns tn : List (List Int)} {ta : List Int}
theorem maxH_le : ∀ ts : List aT, maxH ts ≤ sumW ts := by
  intro ts
  induction ts with
  | nil => exact Nat.le_refl _
  | cons T ts ih =>
    show max (tyH T) (maxH ts) ≤ tyW T + sumW ts
    have := tyH_le T
    omega
theorem bad_row (i : Nat) (R : aT) : tyBad t n tn ta (.branch (4 * i + 1) R (.leaf (1, 0))) = (!gdN t n tn ta i (argN R) || tyBad t n tn ta R) := by
  show ((decide ((4 * i + 1) % 4 = 1) && !gdN t n tn ta ((4 * i + 1) / 4) (argN R)) || tyBad t n tn ta R || false) = _
  rw [show (4 * i + 1) % 4 = 1 by omega, show (4 * i + 1) / 4 = i by omega, Bool.or_false]
  rfl
/-- what is told of large types while a row is read -/
def LgR (lg : Int) (ts : List aT) (s : aZ) : Prop := (lg ≠ 0 → zz s 36 5 ≠ 0) ∧ (zz s 36 5 ≠ 0 → lg ≠ 0 ∨ 40 < sumW ts ∨ 12 < maxH ts)
theorem LgR.nil {lg : Int} {s : aZ} (e : zz s 36 5 = lg) : LgR lg [] s := ⟨fun c => by rw [e]; exact c, fun c => Or.inl (by rw [← e]; exact c)⟩
theorem LgR.push {lg : Int} {ts : List aT} {T : aT} {top : Prop} {s s2 : aZ} (h : LgR lg ts s) (g : LgC top T s s2) : LgR lg (T :: ts) s2 := by
  refine ⟨fun c => g.1 (h.1 c), fun c => ?_⟩
  have e1 : sumW (T :: ts) = tyW T + sumW ts := rfl
  have e2 : maxH (T :: ts) = max (tyH T) (maxH ts) := rfl
  rw [e1, e2]
  rcases g.2.1 c with c | c | c
  · rcases h.2 c with c | c | c
    · exact Or.inl c
    · exact Or.inr (Or.inl (by omega))
    · exact Or.inr (Or.inr (by omega))
  · exact Or.inr (Or.inl (by omega))
  · exact Or.inr (Or.inr (by omega))
theorem LgR.fin {ts : List aT} {T : aT} {s0 s s2 : aZ} (h : LgR (zz s0 36 5) ts s) (e : zz s2 36 5 = zz s 36 5) (hW : sumW ts ≤ tyW T) (hH : maxH ts ≤ tyH T) : LgC False T s0 s2 := by
  unfold LgC LgT
  rw [e]
  refine ⟨h.1, fun c => ?_, fun c => c.elim⟩
  rcases h.2 c with c | c | c
  · exact Or.inl c
  · exact Or.inr (Or.inl (by omega))
  · exact Or.inr (Or.inr (by omega))
/-- what stands of a name whose row is being read; where there is room more is known -/
def XRw (t : Nat → Int) (n : Nat) (ns tn : List (List Int)) (ta : List Int) (G : Prop) (P0 P wc : Nat) (wr ov lg : Int) (ts : List aT) (x3 x4 x5 x6 : Int) (s : aZ) : Prop := PS P s ∧ XTy tn ta s ∧ zz s 36 4 = (wc : Nat) ∧ P0 ≤ P ∧ P ≤ 17000 ∧ (-1 ≤ x3 ∧ x3 < P) ∧ (-1 ≤ x4 ∧ x4 < P) ∧ inR x6 ∧ ((1 ≤ ts.length → 0 ≤ x3) ∧ (2 ≤ ts.length → 0 ≤ x4)) ∧ (G → SL t n ns tn ta s P0 P ts x3 x4 ∧ x5 = 1 + (sumW ts : Int) ∧ x6 = (maxH ts : Int) ∧ zz s 36 6 = bF (anyB t n tn ta ts) wr ∧ zz s 17 11 = ov ∧ LgR lg ts s ∧ NwO ta P0 P s)
/-- the row ends at a fault -/
theorem x_rowF (hB : a_Can B) (G : Prop) (d K j P0 P wc i0 c : Nat) (x1 x3 x4 x5 x6 : Int) (u8 : Value) (s0 s : aZ) (l : aZL) (f : Int) (hd : 7 ≤ d) (hF : XFt t n ns f j s) (hS : PS P s) (hT : XTy tn ta s) (hw : zz s 36 4 = (wc : Nat)) (h0 : P0 ≤ P) (hP : P ≤ 17000) (h3 : -1 ≤ x3 ∧ x3 < P) (h4 : -1 ≤ x4 ∧ x4 < P) (h2a : ta.getD 2 0 = 2) (h34 : c = 2 → 0 ≤ x3 ∧ 0 ≤ x4) (hc : c ≤ 6000) (hf : FrY s0 s) (hwt : WtF wc s0 s) : a_W d 67 53 [.ref 36, iv x1, iv (fd tn (nmW t n (stT t n i0)) tn.length), iv x3, iv x4, iv x5, iv x6, iv (c : Int), u8] [] (mkH B s l) (XPo t n ns tn ta False G P0 wc K (.inl (f, j)) B s0 l) := by
  have ex : a_W d 67 162 [.ref 36, iv x1, iv (fd tn (nmW t n (stT t n i0)) tn.length), iv x3, iv x4, iv x5, iv x6, iv (c : Int), u8] [] (mkH B s l) (XPo t n ns tn ta False G P0 wc K (.inl (f, j)) B s0 l) := by
    refine x_rowX hB hd l P hP s hS hT x1 x3 x4 x5 x6 c i0 u8 hc h3 h4 h2a h34 _ ?_
    rintro s2 v P2 (⟨-, hN, h2n⟩ | ⟨-, s1, hN, e⟩)
    · have fr := fd_rng tn (nmW t n (stT t n i0))
      have tl := hT.1.2.2.2.1
      obtain ⟨z1, z2, z3, z4, y1, y2, y3, y4⟩ := hN.safe ⟨by omega, by omega⟩ h3 h4 hS h2n
      exact ⟨s2, v, P2, rfl, hf.tr y1, by omega, z3, z4, z1, (zz_of y4 4).trans hw, hwt.tr (fun j _ => zz_of y3 j) (Nat.le_refl _), False.elim, Or.inr ⟨f, j, rfl, hF.keep y2⟩⟩
    · obtain ⟨z1, z2, z3, z4, y1, y2, y3, y4⟩ := bad_safe hS hN s2 e
      exact ⟨s2, v, P2, rfl, hf.tr y1, by omega, z3, z4, z1, y4.trans hw, hwt.tr (fun j _ => zz_of y3 j) (Nat.le_refl _), False.elim, Or.inr ⟨f, j, rfl, hF.keep y2⟩⟩
  refine w67_53 hB (by omega) x1 _ x3 x4 x5 x6 _ u8 s l ⟨⟨by omega, by omega⟩, fun _ => ex, fun _ => ⟨fun _ => ex, fun c => absurd ?_ c⟩⟩
  rw [hF.k0]
  decide
theorem x_row (hB : a_Can B) (hcap : XCap t n ns) (hta : ∀ i, ta.getD i 0 ≤ 2) (h2a : ta.getD 2 0 = 2) (G : Prop) (P0 wc i0 dep K : Nat) (hdep : dep ≤ 40) : ∀ (N : Nat), (∀ M, M < N → XA2 B t n ns tn ta M) → ∀ (d j P : Nat) (ts : List aT) (x3 x4 x5 x6 : Int) (u8 : Value) (s0 s : aZ) (l : aZL) (res : (Int × Nat) ⊕ (aT × Nat)), 28 + 5 * (40 - dep) ≤ d → pty t n N 3 dep j = some res → j ≤ 6000 → XAt t n ns j s → XRw t n ns tn ta G P0 P wc (zz s0 36 6) (zz s0 17 11) (zz s0 36 5) ts x3 x4 x5 x6 s → sumW ts ≤ j → ts.length ≤ j → 2 * wc ≤ j → (G → P + (K + 1) ≤ j + 10999 ∧ zz s 17 11 = 0) → FrY s0 s → (G → PFr P0 s0 s) → WtF wc s0 s → a_W d 67 53 [.ref 36, iv (dep : Int), iv (fd tn (nmW t n (stT t n i0)) tn.length), iv x3, iv x4, iv x5, iv x6, iv (ts.length : Int), u8] [] (mkH B s l) (XPo t n ns tn ta False G P0 wc K (resM (fun R => .branch (4 * i0 + 1) (accF ts R) (.leaf (1, 0))) res) B s0 l) := by
  intro N
  induction N with
  | zero => intro _ d j P ts x3 x4 x5 x6 u8 s0 s l res _ h; exact absurd (show (none : aPr) = some res from h) (by intro h; cases h)
  | succ N ih =>
    intro hA2 d j P ts x3 x4 x5 x6 u8 s0 s l res hd h hj hA hR hsw hlen hwj hK hf hp hwt
    have ih := ih (fun M hM => hA2 M (by omega))
    obtain ⟨hS, hT, hw, h0P, hP, h3, h4, r6, h34, hGG⟩ := hR
    have mh := maxH_le ts
    rw [pty_3] at h
    rcases pLk_some h with ⟨c, rfl⟩ | ⟨h0, h⟩
    · exact x_rowF hB G d K j P0 P wc i0 ts.length _ x3 x4 x5 x6 u8 s0 s l _ (by omega) (hA.f c) hS hT hw h0P hP h3 h4 h2a (fun e => ⟨h34.1 (by omega), h34.2 (by omega)⟩) (by omega) hf hwt
    have hC := hA.1 h0
    have k6 : zz s 1 6 = kdT t n j := hC.2.2.2.2.1
    have hk := kd_rng h0
    by_cases hpart : kdT t n j = 1 ∨ kdT t n j = 2 ∨ kdT t n j = 4
    · have hs : stT t n j < n := by omega
      have j6 := (ft0 h0 hs).1
      have aft : ∀ (r1 : (Int × Nat) ⊕ (aT × Nat)) (q : aR), (∀ e, r1 = .inl e → res = .inl e ∧ e.2 ≤ 6000) → (∀ T1 j1, r1 = .inr (T1, j1) → j + tyW T1 ≤ j1 ∧ j1 ≤ 6000 ∧ j + 1 ≤ j1 ∧ ∃ q2, pty t n N 3 dep j1 = some q2 ∧ res = resM (fun R => .branch 2 T1 R) q2) → XPo t n ns tn ta False G P wc (K + 1) r1 B s l q → ∃ (v7 : Int) (s5 : Nat → Nat → Int32) (l6 : Nat → Nat → Int64), q = (.inl (some (iv v7)), mkH B s5 l6) ∧ a_W (d - 1) 50 0 [.ref 17, iv v7] [] (mkH B s5 l6) (fun r => ∃ (v10 : Int) (s8 : Nat → Nat → Int32) (l9 : Nat → Nat → Int64), r = (.inl (some (iv v10)), mkH B s8 l9) ∧ a_W (d - 1) 52 0 [.ref 17, iv v7] [] (mkH B s8 l9) (fun r => ∃ (v13 : Int) (s11 : Nat → Nat → Int32) (l12 : Nat → Nat → Int64), r = (.inl (some (iv v13)), mkH B s11 l12) ∧ (inR x6 ∧ inR v13 ∧ (((ts.length : Int) ≠ 0 → (((ts.length : Int) ≠ 1 → a_W d 67 53 [.ref 36, iv (dep : Int), iv (fd tn (nmW t n (stT t n i0)) tn.length), iv x3, iv x4, iv (x5 + v10), iv (max x6 v13), iv ((ts.length : Int) + 1), iv v7] [] (mkH B s11 l12) (XPo t n ns tn ta False G P0 wc K (resM (fun R => .branch (4 * i0 + 1) (accF ts R) (.leaf (1, 0))) res) B s0 l)) ∧ ((ts.length : Int) = 1 → a_W d 67 53 [.ref 36, iv (dep : Int), iv (fd tn (nmW t n (stT t n i0)) tn.length), iv x3, iv v7, iv (x5 + v10), iv (max x6 v13), iv ((ts.length : Int) + 1), iv v7] [] (mkH B s11 l12) (XPo t n ns tn ta False G P0 wc K (resM (fun R => .branch (4 * i0 + 1) (accF ts R) (.leaf (1, 0))) res) B s0 l)))) ∧ ((ts.length : Int) = 0 → a_W d 67 53 [.ref 36, iv (dep : Int), iv (fd tn (nmW t n (stT t n i0)) tn.length), iv v7, iv x4, iv (x5 + v10), iv (max x6 v13), iv ((ts.length : Int) + 1), iv v7] [] (mkH B s11 l12) (XPo t n ns tn ta False G P0 wc K (resM (fun R => .branch (4 * i0 + 1) (accF ts R) (.leaf (1, 0))) res) B s0 l)))))) := by
        rintro r1 _ hr1 hr2 ⟨s5, w, P1, rfl, a2, a3, a8, a4, a5, a6, a7, -, ⟨T1, j1, b1, b3, bG⟩ | ⟨f, j1, b1, b3⟩⟩
        · obtain ⟨w1, w2, wp, q2, w3, rfl⟩ := hr2 T1 j1 b1
          rw [resM_f (f := fun R => .branch (4 * i0 + 1) (accF ts R) (.leaf (1, 0))) rfl (fun _ => rfl)]
          refine ⟨_, s5, l, rfl, a_W.imp (x_sizeOf hB (by omega) l P1 a8 w s5 a4 a5.2.2.1) ?_⟩
          rintro _ ⟨s8, r, rfl, f1, f2, f3, f4, f5⟩
          have hS8 := f2.ps a5
          refine ⟨_, s8, l, rfl, a_W.imp (x_heightOf hB (by omega) l P1 a8 w s8 a4 hS8.2.2.1) ?_⟩
          rintro _ ⟨s9, r9, rfl, m1, m2, m3, m4, m5⟩
          have hS9 := m2.ps hS8
          have hv : Hv P1 s5 s9 := f2.tr m2
          have hGx : G → s9 = s5 ∧ zz s5 22 r = tyW T1 ∧ zz s8 23 r9 = tyH T1 := fun g => by
            obtain ⟨b0, b2, b4, b5, b6, bL, b9⟩ := bG g
            obtain ⟨n1, n2, n3, n4, n5⟩ := b5.node
            rw [natc] at n2 n3 n4
            obtain ⟨g1, g2⟩ := f3 n2 (by decide)
            subst g1
            subst g2
            obtain ⟨g3, g4⟩ := m3 n2 (by decide)
            subst g3
            subst g4
            exact ⟨rfl, n3, n4⟩
          have nxt : ∀ x3' x4' : Int, x3' = (if ts.length = 0 then (w : Int) else x3) → x4' = (if ts.length = 1 then (w : Int) else x4) → a_W d 67 53 [.ref 36, iv (dep : Int), iv (fd tn (nmW t n (stT t n i0)) tn.length), iv x3', iv x4', iv (x5 + zz s5 22 r), iv (max x6 (zz s8 23 r9)), iv ((ts.length : Int) + 1), iv (w : Int)] [] (mkH B s9 l) (XPo t n ns tn ta False G P0 wc K (resM (fun R => .branch (4 * i0 + 1) (accF ts (.branch 2 T1 R)) (.leaf (1, 0))) q2) B s0 l) := by
            intro x3' x4' q3 q4
            have el : (ts.length : Int) + 1 = (((T1 :: ts).length : Nat) : Int) := by rw [List.length_cons]; omega
            rw [el]
            refine ih d j1 P1 (T1 :: ts) x3' x4' _ _ _ s0 s9 l q2 hd w3 w2 (b3.keep (fun k hk => hv.k k (by omega))) ⟨hS9, hv.y.ty (a2.ty hT), (zz_of (hv.k 36 (by decide)) 4).trans a6, by omega, a8, ?_, ?_, inR_max r6 (inR_zz _ _ _), ⟨fun _ => ?_, fun hl => ?_⟩, fun g => ?_⟩ ?_ ?_ (by omega) (fun g => ?_) (hf.tr (a2.tr hv.y)) (fun g => ?_) (hwt.tr (a7.tr (fun q _ => zz_of (hv.k 37 (by decide)) q) (Nat.le_refl _)) (Nat.le_refl _))
            · rw [q3]; split <;> omega
            · rw [q4]; split <;> omega
            · rw [q3]
              split
              · omega
              · exact h34.1 (by omega)
            · rw [List.length_cons] at hl
              rw [q4]
              split
              · omega
              · exact h34.2 (by omega)
            · obtain ⟨b0, b2, b4, b5, b6, bL, b9⟩ := bG g
              obtain ⟨g1, g2, g3⟩ := hGx g
              obtain ⟨hSL, e5, e6, e36, e11, eL, eNw⟩ := hGG g
              rw [g1, g2, g3]
              have sl := SL.push (PI.keep (fun _ _ _ _ _ _ => rfl) h0P (Nat.le_refl _) _ _ _ _ b5) ts x3 x4 (SL.keep (fun k q g1 g2 _ g4 => b4 k g1 g2 q g4) (Nat.le_refl _) a3 ts x3 x4 hSL)
              rw [← q3, ← q4] at sl
              refine ⟨sl, ?_, ?_, ?_, b0.trans e11, eL.push bL, (eNw.keep (fun k j g1 g2 _ g4 => b4 k (by omega) (by omega) j g4)).cat b9⟩
              · rw [e5]
                show _ = 1 + ((tyW T1 + sumW ts : Nat) : Int)
                omega
              · rw [e6]
                show _ = ((max (tyH T1) (maxH ts) : Nat) : Int)
                omega
              · rw [b6, e36, bF_or]; rfl
            · show tyW T1 + sumW ts ≤ j1; omega
            · rw [List.length_cons]; omega
            · have h1 := (bG g).2.1
              have h2 := (bG g).1
              have h3 := zz_of (hv.k 17 (by decide)) 11
              have h4 := hK g
              omega
            · rw [(hGx g).1]; exact (hp g).tr (bG g).2.2.1 h0P
          refine ⟨_, s9, l, rfl, r6, inR_zz _ _ _, fun g => ⟨fun g2 => nxt _ _ (by rw [if_neg (by omega)]) (by rw [if_neg (by omega)]), fun g2 => nxt _ _ (by rw [if_neg (by omega)]) (by rw [if_pos (by omega)])⟩, fun g => nxt _ _ (by rw [if_pos (by omega)]) (by rw [if_neg (by omega)])⟩
        · obtain ⟨rfl, w2⟩ := hr1 (f, j1) b1
          refine ⟨_, s5, l, rfl, a_W.imp (x_sizeOf hB (by omega) l P1 a8 w s5 a4 a5.2.2.1) ?_⟩
          rintro _ ⟨s8, r, rfl, f1, f2, -⟩
          have hS8 := f2.ps a5
          refine ⟨_, s8, l, rfl, a_W.imp (x_heightOf hB (by omega) l P1 a8 w s8 a4 hS8.2.2.1) ?_⟩
          rintro _ ⟨s9, r9, rfl, m1, m2, -⟩
          have hS9 := m2.ps hS8
          have hF9 : XFt t n ns f j1 s9 := b3.keep (fun k hk => (m2.k k (by omega)).trans (f2.k k (by omega)))
          have hy : FrY s s9 := a2.tr (f2.y.tr m2.y)
          have nxt : ∀ x3' x4' x5' x6' : Int, (-1 ≤ x3' ∧ x3' < P1) → (-1 ≤ x4' ∧ x4' < P1) → (ts.length + 1 = 2 → 0 ≤ x3' ∧ 0 ≤ x4') → a_W d 67 53 [.ref 36, iv (dep : Int), iv (fd tn (nmW t n (stT t n i0)) tn.length), iv x3', iv x4', iv x5', iv x6', iv ((ts.length : Int) + 1), iv (w : Int)] [] (mkH B s9 l) (XPo t n ns tn ta False G P0 wc K (resM (fun R => .branch (4 * i0 + 1) (accF ts R) (.leaf (1, 0))) (.inl (f, j1))) B s0 l) := by
            intro x3' x4' x5' x6' q3 q4 q34
            have el : (ts.length : Int) + 1 = ((ts.length + 1 : Nat) : Int) := by omega
            rw [el]
            refine x_rowF hB G d K j1 P0 P1 wc i0 (ts.length + 1) _ x3' x4' x5' x6' _ s0 s9 l f (by omega) hF9 hS9 (hy.ty hT) ?_ (by omega) a8 q3 q4 h2a q34 (by omega) (hf.tr hy) ?_
            · rw [zz_of (m2.k 36 (by decide)), zz_of (f2.k 36 (by decide))]; exact a6
            · exact hwt.tr (a7.tr (fun q _ => (zz_of (m2.k 37 (by decide)) q).trans (zz_of (f2.k 37 (by decide)) q)) (Nat.le_refl _)) (Nat.le_refl _)
          exact ⟨_, s9, l, rfl, r6, inR_zz _ _ _, fun g => ⟨fun g2 => nxt _ _ _ _ ⟨by omega, by omega⟩ ⟨by omega, by omega⟩ (fun e => absurd e (by omega)), fun g2 => nxt _ _ _ _ ⟨by omega, by omega⟩ ⟨by omega, by omega⟩ (fun e => ⟨h34.1 (by omega), by omega⟩)⟩, fun g => nxt _ _ _ _ ⟨by omega, by omega⟩ ⟨by omega, by omega⟩ (fun e => absurd e (by omega))⟩
      refine w67_53 hB (by omega) _ _ x3 x4 x5 x6 _ u8 s l ⟨⟨by omega, by omega⟩, fun c => absurd c (by omega), fun _ => ⟨fun c => ?_, fun _ => ⟨fun n1 => ?_, fun k1 => ?_⟩⟩⟩
      · exfalso
        rw [k6] at c
        unfold z68 at c
        rcases hpart with e | e | e <;> rw [e] at c <;> exact absurd c (by decide)
      · rw [k6] at n1
        by_cases k4 : kdT t n j = 4
        · rw [if_neg n1, if_neg (by omega), if_pos k4] at h
          rcases pBd_some h with ⟨e, q1, q2⟩ | ⟨a, j2, q1, q2⟩
          · refine a_W.imp (x_rp hB hcap N (hA2 N (by omega)) G (d - 1) dep (K + 1) j P wc s l (.inl e) (by omega) hdep hj h0 (fun _ => q1) (fun c => absurd c (by omega)) (fun c => absurd k4 c) hC hT hS hw hwj hP (fun g => by have := hK g; omega)) (fun q hq => aft (.inl e) q (fun e' he' => ?_) (fun T1 j1 he' => by cases he') hq)
            cases he'
            exact ⟨q2, ((pty_le t n N 2 dep j _ (by decide) (fun _ => k4) hj q1).2 e.1 e.2 rfl).2⟩
          · refine a_W.imp (x_rp hB hcap N (hA2 N (by omega)) G (d - 1) dep (K + 1) j P wc s l (.inr (a, j2)) (by omega) hdep hj h0 (fun _ => q1) (fun c => absurd c (by omega)) (fun c => absurd k4 c) hC hT hS hw hwj hP (fun g => by have := hK g; omega)) (fun q hq => aft (.inr (a, j2)) q (fun e' he' => by cases he') (fun T1 j1 he' => ?_) hq)
            cases he'
            have := (pty_le t n N 2 dep j _ (by decide) (fun _ => k4) hj q1).1 a j2 rfl
            obtain ⟨q3, q4, q5⟩ := pBd_resM q2
            have hps := pty_pos t n N 2 dep j a j2 (by decide) q1
            exact ⟨this.1, this.2, by omega, q3, q4, q5⟩
        · have k2 : kdT t n j = 2 := by omega
          rw [if_neg n1, if_pos k2] at h
          refine a_W.imp (x_rp hB hcap N (hA2 N (by omega)) G (d - 1) dep (K + 1) j P wc s l (.inr (.leaf (0, j), j + 1)) (by omega) hdep hj h0 (fun c => absurd c k4) (fun _ => rfl) (fun _ c => absurd k2 c) hC hT hS hw hwj hP (fun g => by have := hK g; omega)) (fun q hq => aft (.inr (.leaf (0, j), j + 1)) q (fun e' he' => by cases he') (fun T1 j1 he' => ?_) hq)
          cases he'
          obtain ⟨q3, q4, q5⟩ := pBd_resM h
          refine ⟨?_, by omega, Nat.le_refl _, q3, q4, q5⟩
          rw [tyW_l, if_neg (show ¬ ((0 : Nat) = 1) by decide)]
          exact Nat.le_refl _
      · rw [k6] at k1
        rw [if_pos k1] at h
        refine a_W.imp (x_lone hB hcap h2a G (d - 1) (K + 1) j P wc s l (by omega) h0 k1 hC hT hS hw hP (fun g => by have := hK g; omega)) (fun q hq => aft (.inr (.branch (4 * j + 1) (.leaf (1, 0)) (.leaf (1, 0)), j + 1)) q (fun e' he' => by cases he') (fun T1 j1 he' => ?_) hq)
        cases he'
        obtain ⟨q3, q4, q5⟩ := pBd_resM h
        refine ⟨?_, by omega, Nat.le_refl _, q3, q4, q5⟩
        rw [tyW_b, if_neg (by omega), tyW_l, if_pos rfl]
        exact Nat.le_refl _
    · -- the row's end
      rw [if_neg (by omega), if_neg (by omega), if_neg (by omega)] at h
      cases h
      have eN : argN (accF ts (.leaf (1, 0))) = ts.length := accF_N ts _
      have eW : tyW (.branch (4 * i0 + 1) (accF ts (.leaf (1, 0))) (.leaf (1, 0))) = 1 + sumW ts := by
        rw [tyW_b, if_neg (by omega), accF_W, tyW_l, if_pos rfl]
        omega
      have eH : tyH (.branch (4 * i0 + 1) (accF ts (.leaf (1, 0))) (.leaf (1, 0))) = 1 + maxH ts := by
        rw [tyH_b, if_neg (by omega), accF_H, tyH_l, if_pos rfl]
        omega
      have eB : tyBad t n tn ta (.branch (4 * i0 + 1) (accF ts (.leaf (1, 0))) (.leaf (1, 0))) = (!gdN t n tn ta i0 ts.length || anyB t n tn ta ts) := by
        rw [bad_row, eN, accF_B]
        show (_ || (_ || false)) = _
        rw [Bool.or_false]
      have ex : a_W d 67 162 [.ref 36, iv (dep : Int), iv (fd tn (nmW t n (stT t n i0)) tn.length), iv x3, iv x4, iv x5, iv x6, iv (ts.length : Int), u8] [] (mkH B s l) (XPo t n ns tn ta False G P0 wc K (.inr (.branch (4 * i0 + 1) (accF ts (.leaf (1, 0))) (.leaf (1, 0)), j)) B s0 l) := by
        refine x_rowX hB (by omega) l P hP s hS hT _ x3 x4 x5 x6 ts.length i0 u8 (by omega) h3 h4 h2a (fun e => ⟨h34.1 (by omega), h34.2 (by omega)⟩) _ ?_
        rintro s2 v P2 (⟨hg, hPG, h2n⟩ | ⟨hg, s1, hPG, e⟩)
        · have fr := fd_rng tn (nmW t n (stT t n i0))
          have tl := hT.1.2.2.2.1
          obtain ⟨z1, z2, z3, z4, y1, y2, y3, y4⟩ := hPG.safe ⟨by omega, by omega⟩ h3 h4 hS h2n
          refine ⟨s2, v, P2, rfl, hf.tr y1, by omega, z3, z4, z1, (zz_of y4 4).trans hw, hwt.tr (fun j _ => zz_of y3 j) (Nat.le_refl _), False.elim, Or.inl ⟨_, j, rfl, hA.keep y2, fun g => ?_⟩⟩
          have hKg := hK g
          obtain ⟨hSL, e5, e6, e36, e11, eL, eNw⟩ := hGG g
          obtain ⟨rfl, rfl, hN⟩ := hPG.pn (by omega)
          obtain ⟨k1, k2, k3, k4, k5⟩ := hN.facts (by omega) ⟨by omega, by omega⟩ h3 h4 hS h2n
          have hl2 : ts.length ≤ 2 := by
            have h1 := (gdN_t.mp hg).2
            have h2 := hta (fd tn (nmW t n (stT t n i0)) tn.length).toNat
            omega
          obtain ⟨o1, o2, o3, o4, o5, o6, o7, o8⟩ := SL.rt ts x3 x4 hl2 hSL
          obtain ⟨e21, e22, e23⟩ := hN.exact o1 o2 ⟨o4, by omega⟩ ⟨o5, by omega⟩ ⟨o6, by omega⟩ ⟨o7, by omega⟩
          have pf : PFr v s s2 := fun k g1 g2 q hq => by
            by_cases e : k = 21
            · subst e; exact e21 q (by omega)
            · exact k5 k q g1 g2 e (by omega)
          have har : arT ta (fd tn (nmW t n (stT t n i0)) tn.length) = ts.length := by
            obtain ⟨o1', o2'⟩ := gdN_t.mp hg
            unfold arT
            rw [if_neg (by omega), o2']
            rfl
          have hsg := SL.sg ts x3 x4 hl2 hSL
          refine ⟨(k3 11 (by decide)).trans e11, by omega, (hp g).tr pf h0P, ?_, ?_, eL.fin (zz_of y4 5) (by rw [eW]; omega) (by rw [eH]; omega), (eNw.keep (fun k j g1 g2 _ g4 => pf k (by omega) (by omega) j g4)).cat (NwO.one k4 (by omega) (by omega) (by omega) (fun _ => by rw [har]; exact hsg))⟩
          · refine ⟨⟨by omega, by omega⟩, ?_⟩
            rw [natc, eW, eH]
            refine ⟨k4.2.2.2, by omega, by omega, Or.inr (Or.inl ⟨by omega, rfl, ?_, ?_, ?_⟩)⟩
            · rw [show (4 * i0 + 1) / 4 = i0 by omega, eN]; exact hg
            · rw [show (4 * i0 + 1) / 4 = i0 by omega]; exact k4.1
            · rw [k4.2.1, k4.2.2.1]
              exact PI.keep (fun k q g1 g2 _ g4 => pf k g1 g2 q g4) (Nat.le_refl _) (by omega) _ _ _ _ (SL.row ts x3 x4 hl2 hSL)
          · rw [zz_of y4, e36, eB, hg]; rfl
        · obtain ⟨z1, z2, z3, z4, y1, y2, y3, y4⟩ := bad_safe hS hPG s2 e
          refine ⟨s2, v, P2, rfl, hf.tr y1, by omega, z3, z4, z1, y4.trans hw, hwt.tr (fun j _ => zz_of y3 j) (Nat.le_refl _), False.elim, Or.inl ⟨_, j, rfl, hA.keep y2, fun g => ?_⟩⟩
          have hKg := hK g
          obtain ⟨hSL, e5, e6, e36, e11, eL, eNw⟩ := hGG g
          obtain ⟨rfl, rfl, hN⟩ := hPG.pn (by omega)
          obtain ⟨b1, b2, b3, b4, b5, b6, b7, b8, b9, b10, b11⟩ := bad_node (by omega) hS hN s2 e
          refine ⟨b6.trans e11, by omega, (hp g).tr b7 h0P, ?_, ?_, eL.fin b11 (by rw [eW]; omega) (by rw [eH]; omega), (eNw.keep (fun k j g1 g2 _ g4 => b7 k (by omega) (by omega) j g4)).cat (NwO.one ⟨b8.1, b8.2.1, b8.2.2.1, b8.2.2.2⟩ (by omega) (by omega) (by omega) (fun c => absurd rfl c))⟩
          · refine ⟨⟨by omega, by omega⟩, ?_⟩
            rw [natc, eW, eH, b9 ⟨by omega, by omega⟩, b10 ⟨by omega, by omega⟩]
            refine ⟨b8.2.2.2, by omega, by omega, Or.inr (Or.inr ⟨by omega, rfl, ?_, b8.1, b8.2.1, b8.2.2.1⟩)⟩
            rw [show (4 * i0 + 1) / 4 = i0 by omega, eN]; exact hg
          · rw [b5, eB, hg]; rfl
      refine w67_53 hB (by omega) _ _ x3 x4 x5 x6 _ u8 s l ⟨⟨by omega, by omega⟩, fun _ => ex, fun _ => ⟨fun _ => ex, fun c => absurd ?_ c⟩⟩
      rw [k6]
      unfold z68
      omega
theorem x_a1 (hB : a_Can B) (hcap : XCap t n ns) (hta : ∀ i, ta.getD i 0 ≤ 2) (h2a : ta.getD 2 0 = 2) (N : Nat) (hM : ∀ M, M ≤ N → XA2 B t n ns tn ta M) : XA1 B t n ns tn ta (N + 1) := by
  intro G d dep K i P wc s l res hd hdep h hi hA hT hS hw hwi hP hK
  have p0 := hS.1
  rw [pty_1] at h
  rcases pLk_some h with ⟨c, rfl⟩ | ⟨h0, h⟩
  · refine a_W.imp (x_atomF hB (by omega) l _ (hA.f c)) ?_
    rintro _ rfl
    exact XPo.bad (w := 0) (FrY.rf s) p0 hP hS hw (WtF.rf _ _) (hA.f c) False.elim
  have hC := hA.1 h0
  have k6 : zz s 1 6 = kdT t n i := hC.2.2.2.2.1
  have hk := kd_rng h0
  refine w66_0 hB (by omega) _ s l ⟨fun n1 => ?_, fun k1 => ?_⟩
  · rw [k6] at n1
    have hr : (kdT t n i = 4 → pty t n N 2 dep i = some res) ∧ (kdT t n i = 2 → res = .inr (.leaf (0, i), i + 1)) ∧ (kdT t n i ≠ 4 → kdT t n i ≠ 2 → res = .inl (2, i)) := by
      refine ⟨fun c => ?_, fun c => ?_, fun c1 c2 => ?_⟩
      · rw [if_pos c] at h; exact h
      · rw [if_neg (by omega), if_pos c] at h; cases h; rfl
      · rw [if_neg c1, if_neg c2, if_neg n1] at h; cases h; rfl
    refine a_W.imp (x_rp hB hcap N (hM N (Nat.le_refl _)) G (d - 1) dep K i P wc s l res (by omega) hdep hi h0 hr.1 hr.2.1 hr.2.2 hC hT hS hw hwi hP hK) ?_
    rintro q ⟨s2, x, P2, rfl, a2⟩
    exact ⟨_, s2, l, rfl, s2, x, P2, rfl, a2⟩
  · rw [k6] at k1
    have hs : stT t n i < n := by omega
    have i6 := (ft0 h0 hs).1
    rw [if_neg (by omega), if_neg (by omega), if_pos k1] at h
    obtain ⟨q, hq, rfl⟩ := pBd_resM h
    have run : a_W (d - 1) 67 0 [.ref 36, iv (dep : Int), .retAddr 0, .retAddr 0, .retAddr 0, .retAddr 0, .retAddr 0, .retAddr 0, .retAddr 0] [] (mkH B s l) (XPo t n ns tn ta False G P wc K (resM (fun a => .branch (4 * i + 1) a (.leaf (1, 0))) q) B s l) := by
      refine w67_0 hB (by omega) _ s l (a_W.imp (x_nm hB (by omega) l h0 k1 hC hT) ?_)
      rintro _ rfl
      refine ⟨_, s, l, rfl, a_W.imp (x_advance hB (by omega) hcap l i h0 hs hC) ?_⟩
      rintro _ ⟨s1, rfl, hA1, f1, -⟩
      refine ⟨s1, l, rfl, ?_⟩
      have h11 : zz s1 17 11 = zz s 17 11 := zz_of (f1.hi 17 (by decide)) 11
      have := x_row hB hcap hta h2a G P wc i dep K hdep N (fun M h => hM M (by omega)) (d - 1) (i + 1) P [] (-1) (-1) 1 0 (.retAddr 0) s s1 l q (by omega) hq (by omega) hA1 ⟨f1.ps hS, f1.y.ty hT, (zz_of (f1.hi 36 (by decide)) 4).trans hw, Nat.le_refl _, hP, ⟨by omega, by omega⟩, ⟨by omega, by omega⟩, by decide, ⟨fun c => absurd c (by decide), fun c => absurd c (by decide)⟩, fun _ => ⟨⟨rfl, rfl⟩, rfl, rfl, zz_of (f1.hi 36 (by decide)) 6, zz_of (f1.hi 17 (by decide)) 11, LgR.nil (zz_of (f1.hi 36 (by decide)) 5), NwO.nil _ _ _⟩⟩ (Nat.zero_le _) (Nat.zero_le _) (by omega) (fun g => by have := hK g; omega) f1.y (fun _ => f1.p P) (f1.wt wc)
      exact this
    refine a_W.imp run ?_
    rintro q ⟨s2, x, P2, rfl, a2⟩
    exact ⟨_, s2, l, rfl, s2, x, P2, rfl, a2⟩
/-- the atoms that wait, the last first -/
def WL (t : Nat → Int) (n : Nat) (ns tn : List (List Int)) (ta : List Int) (s : aZ) (lo hi wc : Nat) : List aT → Prop
  | [] => True
  | T :: ts => PI t n ns tn ta s lo hi T false (zz s 37 (wc + ts.length)) 0 ∧ WL t n ns tn ta s lo hi wc ts
theorem WL.keep {s s2 : aZ} {lo hi lo2 hi2 wc : Nat} (he : ∀ k j, 18 ≤ k → k ≤ 23 → lo ≤ j → j < hi → zz s2 k j = zz s k j) (h1 : lo2 ≤ lo) (h2 : hi ≤ hi2) : ∀ (ts : List aT), (∀ j, j < wc + ts.length → zz s2 37 j = zz s 37 j) → WL t n ns tn ta s lo hi wc ts → WL t n ns tn ta s2 lo2 hi2 wc ts := by
  intro ts
  induction ts with
  | nil => intro _ _; trivial
  | cons T ts ih =>
    intro h37 h
    rw [List.length_cons] at h37
    obtain ⟨a1, a2⟩ := h
    refine ⟨?_, ih (fun j hj => h37 j (by omega)) a2⟩
    rw [h37 _ (by omega)]
    exact PI.keep he h1 h2 _ _ _ _ a1
theorem WL.rng {s : aZ} {lo hi wc : Nat} : ∀ (ts : List aT), WL t n ns tn ta s lo hi wc ts → ∀ j, j < ts.length → 0 ≤ zz s 37 (wc + j) ∧ zz s 37 (wc + j) < hi := by
  intro ts
  induction ts with
  | nil => intro _ j hj; exact absurd hj (Nat.not_lt_zero _)
  | cons T ts ih =>
    intro h j hj
    obtain ⟨a1, a2⟩ := h
    rw [List.length_cons] at hj
    by_cases e : j = ts.length
    · subst e
      have := a1.node.1
      omega
    · exact ih a2 j (by omega)
/-- what waits is folded -/
theorem x_fold (hB : a_Can B) {d : Nat} (hd : 7 ≤ d) (h2a : ta.getD 2 0 = 2) (l : aZL) (x1 x4 : Int) (wc P0 : Nat) : ∀ (ts : List aT) (a : aT) (P x3 : Nat) (s : aZ), PS P s → P0 ≤ P → P ≤ 17000 → x3 < P → zz s 36 4 = ((wc + ts.length : Nat) : Int) → wc + ts.length ≤ 3001 → (∀ j, j < ts.length → 0 ≤ zz s 37 (wc + j) ∧ zz s 37 (wc + j) < P) → a_W d 65 58 [.ref 36, iv x1, iv (wc : Int), iv (x3 : Int), iv x4] [] (mkH B s l) (fun q => ∃ (s2 : aZ) (w P2 : Nat), q = (.inl (some (iv (w : Int))), mkH B s2 l) ∧ FrY s s2 ∧ (∀ k, k ≤ 7 → s2 k = s k) ∧ s2 37 = s 37 ∧ zz s2 36 4 = (wc : Nat) ∧ PS P2 s2 ∧ P ≤ P2 ∧ P2 ≤ 17000 ∧ w < P2 ∧ (zz s2 36 5 = 0 ∨ zz s2 36 5 = 1) ∧ (P + ts.length ≤ 17000 → zz s 17 11 = 0 → WL t n ns tn ta s P0 P wc ts → PI t n ns tn ta s P0 P a false x3 0 → tyW a + sumW ts + ts.length ≤ 50000 → NwO ta P0 P s → P2 = P + ts.length ∧ zz s2 17 11 = zz s 17 11 ∧ zz s2 36 6 = zz s 36 6 ∧ PFr P s s2 ∧ PI t n ns tn ta s2 P0 P2 (arrF ts a) false w 0 ∧ (zz s2 36 5 ≠ 0 ↔ (zz s 36 5 ≠ 0 ∨ LgT (arrF ts a))) ∧ NwO ta P0 P2 s2)) := by
  intro ts
  induction ts with
  | nil =>
    intro a P x3 s hS h0 hP hx hw h31 h37
    have e0 : (([] : List aT).length) = 0 := rfl
    rw [e0] at hw
    refine a_W.imp (x_lgE hB (by omega) l x1 (wc : Int) x3 x4 P hP s hS hx ⟨by omega, by omega⟩ (by omega)) ?_
    rintro _ ⟨s9, v, rfl, hv, hv01, hvE⟩
    have e5 : zz (zu s9 36 5 v) 36 5 = v := zz_same _ _ _ (by rcases hv01 with e | e <;> rw [e] <;> decide)
    refine ⟨_, x3, P, rfl, hv.y.tr (FrY.z36 _ 5 _ (Or.inr (Or.inl rfl))), fun k hk => (zu_ne _ _ _ _ _ (by omega)).trans (hv.k k (by omega)), (zu_ne _ _ _ _ _ (by decide)).trans (hv.k 37 (by decide)), ?_, (hv.ps hS).z (zz_ne _ _ _ _ _ _ (by omega)) (fun k _ _ j => zz_ne _ _ _ _ _ _ (by omega)), Nat.le_refl _, hP, hx, by rw [e5]; exact hv01, fun _ h11 _ h _ hN => ?_⟩
    · rw [zz_ne _ _ _ _ _ _ (by omega), zz_of (hv.k 36 (by decide))]; exact hw
    · obtain ⟨o1, o2, o3, o4, o5⟩ := h.node
      rw [natc] at o2 o3 o4
      obtain ⟨rfl, e⟩ := hvE h11 a ⟨o2, o3, o4⟩
      have zk : ∀ k j, k ≠ 36 → zz (zu s9 36 5 v) k j = zz s9 k j := fun k j hk => zz_ne _ _ _ _ _ _ (fun q => hk q.1)
      refine ⟨rfl, zk 17 11 (by decide), zz_ne _ _ _ _ _ _ (by omega), fun k g1 g2 j _ => zk k j (by omega), PI.keep (fun k j g1 g2 _ _ => zk k j (by omega)) (Nat.le_refl _) (Nat.le_refl _) _ _ _ _ h, ?_, hN.keep (fun k j g1 g2 _ _ => zk k j (by omega))⟩
      rw [e5]
      exact e
  | cons T ts ih =>
    intro a P x3 s hS h0 hP hx hw h31 h37
    have el : (T :: ts).length = ts.length + 1 := List.length_cons
    rw [el] at hw h31 h37
    rw [el]
    have y := h37 ts.length (Nat.lt_succ_self _)
    have ew : zz s 36 4 - 1 = ((wc + ts.length : Nat) : Int) := by omega
    refine w65_58 hB (by omega) x1 _ _ x4 s l ⟨⟨by omega, by omega⟩, fun h => absurd h (by omega), fun _ => ⟨⟨by omega, by omega⟩, ?_⟩⟩
    rw [ew, natc]
    have hS1 : PS P (zu s 36 4 ((wc + ts.length : Nat) : Int)) := hS.z (zz_ne _ _ _ _ _ _ (by omega)) (fun k _ _ j => zz_ne _ _ _ _ _ _ (by omega))
    have f0 : FrY s (zu s 36 4 ((wc + ts.length : Nat) : Int)) := FrY.z36 s 4 _ (Or.inl rfl)
    have z0 : ∀ k, k ≠ 36 → zu s 36 4 ((wc + ts.length : Nat) : Int) k = s k := fun k hk => zu_ne _ _ _ _ _ hk
    have z4 : zz (zu s 36 4 ((wc + ts.length : Nat) : Int)) 36 4 = ((wc + ts.length : Nat) : Int) := zz_same _ _ _ ⟨by omega, by omega⟩
    have z6 : zz (zu s 36 4 ((wc + ts.length : Nat) : Int)) 36 6 = zz s 36 6 := zz_ne _ _ _ _ _ _ (by omega)
    have z5 : zz (zu s 36 4 ((wc + ts.length : Nat) : Int)) 36 5 = zz s 36 5 := zz_ne _ _ _ _ _ _ (by omega)
    generalize zu s 36 4 ((wc + ts.length : Nat) : Int) = s1 at *
    have y37 : ∀ j, zz s1 37 j = zz s 37 j := fun j => zz_of (z0 37 (by decide)) j
    refine a_W.imp (x_writG hB (by omega) l P hP s1 hS1 2 (zz s 37 (wc + ts.length)) x3 (by decide) ⟨by omega, by omega⟩ ⟨by omega, by omega⟩) ?_
    rintro _ ⟨s2, w1, P1, rfl, hPG⟩
    obtain ⟨v1, v2, v3, v4, y1, y2, y3, y4⟩ := hPG.safe (by decide) ⟨by omega, by omega⟩ ⟨by omega, by omega⟩ hS1
    refine ⟨_, s2, l, rfl, a_W.imp (ih (.branch 3 T a) P1 w1 s2 v1 (by omega) v3 v4 ((zz_of y4 4).trans z4) (by omega) (fun j hj => ?_)) ?_⟩
    · rw [zz_of y3, y37]
      have := h37 j (by omega)
      omega
    rintro _ ⟨s3, w, P2, rfl, a1, a2, a3, a4, a6, a9, a10, a7, a5, a8⟩
    refine ⟨s3, w, P2, rfl, f0.tr (y1.tr a1), fun k hk => (a2 k hk).trans ((y2 k hk).trans (z0 k (by omega))), a3.trans (y3.trans (z0 37 (by decide))), a4, a6, by omega, a10, a7, a5, fun hR h11 hW hA hB hNw => ?_⟩
    obtain ⟨rfl, rfl, hN⟩ := hPG.pn (by omega)
    obtain ⟨k1, k2, k3, k4, k5⟩ := hN.facts (by omega) (by decide) ⟨by omega, by omega⟩ ⟨by omega, by omega⟩ hS1
    obtain ⟨w1', w2⟩ := hW
    have hB' : tyW a + (tyW T + sumW ts) + (ts.length + 1) ≤ 50000 := hB
    obtain ⟨m1, m2, m3, m4, m5⟩ := w1'.node
    obtain ⟨o1, o2, o3, o4, o5⟩ := hA.node
    rw [natc] at o2 o3 o4
    have hT := tyH_le T
    have hTa := tyH_le a
    have q1 : ∀ k j, k ≠ 36 → zz s1 k j = zz s k j := fun k j hk => zz_of (z0 k hk) j
    have s22 : szP s1 22 (zz s 37 (wc + ts.length)) = tyW T := by unfold szP; rw [if_neg (by omega), q1 22 _ (by decide)]; exact m3
    have s23 : szP s1 23 (zz s 37 (wc + ts.length)) = tyH T := by unfold szP; rw [if_neg (by omega), q1 23 _ (by decide)]; exact m4
    have u22 : szP s1 22 (x3 : Int) = tyW a := by unfold szP; rw [if_neg (by omega), natc, q1 22 _ (by decide)]; exact o3
    have u23 : szP s1 23 (x3 : Int) = tyH a := by unfold szP; rw [if_neg (by omega), natc, q1 23 _ (by decide)]; exact o4
    obtain ⟨e21, e22, e23⟩ := hN.exact (Or.inr ((q1 21 _ (by decide)).trans m2)) (Or.inr (by rw [natc, q1 21 _ (by decide)]; exact o2)) (by rw [s22]; omega) (by rw [u22]; omega) (by rw [s23]; omega) (by rw [u23]; omega)
    rw [s22, u22] at e22
    rw [s23, u23] at e23
    have pf : PFr w1 s s2 := fun k g1 g2 q hq => by
      rw [← q1 k q (by omega)]
      by_cases e : k = 21
      · subst e; exact e21 q (by omega)
      · exact k5 k q g1 g2 e (by omega)
    have hkp : ∀ k j, 18 ≤ k → k ≤ 23 → P0 ≤ j → j < w1 → zz s2 k j = zz s k j := fun k j g1 g2 _ g4 => pf k g1 g2 j g4
    have eW : tyW (.branch 3 T a) = 1 + (tyW T + tyW a) := by rw [tyW_b, if_neg (by decide)]
    have eH : tyH (.branch 3 T a) = 1 + max (tyH T) (tyH a) := by rw [tyH_b, if_neg (by decide)]
    have hPI : PI t n ns tn ta s2 P0 (w1 + 1) (.branch 3 T a) false (w1 : Int) 0 := by
      refine ⟨⟨by omega, by omega⟩, ?_⟩
      rw [natc, eW, eH]
      refine ⟨k4.2.2.2, by omega, by omega, Or.inl ⟨rfl, k4.1, ?_, ?_⟩⟩
      · rw [k4.2.1]; exact PI.keep hkp (Nat.le_refl _) (by omega) _ _ _ _ w1'
      · rw [k4.2.2.1]; exact PI.keep hkp (Nat.le_refl _) (by omega) _ _ _ _ hA
    have har : arT ta 2 = 2 := by
      unfold arT
      rw [if_neg (by decide), show (2 : Int).toNat = 2 from rfl, h2a]
      rfl
    have hN2 : NwO ta P0 (w1 + 1) s2 := (hNw.keep (fun k j g1 g2 _ g4 => pf k (by omega) (by omega) j g4)).cat (NwO.one k4 (by omega) (by omega) (by decide) (fun _ => by rw [har]; exact ⟨by omega, by omega⟩))
    have n11 : zz s2 17 11 = zz s 17 11 := (k3 11 (by decide)).trans (zz_of (z0 17 (by decide)) 11)
    obtain ⟨r0, r1, r2, r3, r4, rL, r5⟩ := a8 (by omega) (n11.trans h11) (WL.keep hkp (Nat.le_refl _) (by omega) ts (fun j _ => (zz_of y3 j).trans (y37 j)) w2) hPI (by rw [eW]; omega) hN2
    refine ⟨by omega, r1.trans n11, r2.trans ((zz_of y4 6).trans z6), pf.tr r3 (by omega), r4, ?_, r5⟩
    rw [rL, zz_of y4, z5]
    rfl
end
