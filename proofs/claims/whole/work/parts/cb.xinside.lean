/-! THE READER READS WHAT STANDS IN ( ), AND ATOMS -/
section
variable {t : Nat → Int} {n : Nat} {ns tn : List (List Int)} {ta : List Int} {cn : List (List Int)} {ct : List aT} {B : aH}
def XH0 (t : Nat → Int) (n : Nat) (ns tn : List (List Int)) (ta : List Int) (cn : List (List Int)) (ct : List aT) (B : aH) (N : Nat) : Prop := ∀ (d dep i P c sc wc : Nat) (s : aZ) (l : aZL) (env : List (List Int)) (res : (Int × Nat) ⊕ (aT × Nat)), 60 + 5 * (40 - dep) ≤ d → dep ≤ 40 → ptm t n N 0 dep [] noT i = some res → i ≤ 6000 → XAt t n ns i s → XRs tn ta cn ct P c sc wc s → XEn t n s sc env → 2 * wc ≤ i → a_W d 57 0 [.ref 38, iv (dep : Int), .retAddr 0, .retAddr 0, .retAddr 0, .retAddr 0] [] (mkH B s l) (XTo t n ns tn ta cn ct P c sc wc i env res B s l)
def XH4 (t : Nat → Int) (n : Nat) (ns tn : List (List Int)) (ta : List Int) (cn : List (List Int)) (ct : List aT) (B : aH) (N : Nat) : Prop := ∀ (d dep i P c sc wc : Nat) (s : aZ) (l : aZL) (env : List (List Int)) (res : (Int × Nat) ⊕ (aT × Nat)), 57 + 5 * (40 - dep) ≤ d → dep ≤ 40 → ptm t n N 4 dep [] noT i = some res → i ≤ 6000 → XAt t n ns i s → XRs tn ta cn ct P c sc wc s → XEn t n s sc env → 2 * wc ≤ i → a_W d 93 0 [.ref 38, iv (dep : Int), .retAddr 0] [] (mkH B s l) (XTo t n ns tn ta cn ct P c sc wc i env res B s l)
theorem tkC_sg {i : Nat} (h0 : ftT t n i = 0) (hk : 10 ≤ kdT t n i ∧ kdT t n i ≤ 22) (env : List (List Int)) : tkC t n cn i = rsv t n cn (sgT (kdT t n i).toNat) env := by
  show _ = sgR cn (kdT t n i).toNat
  unfold tkC sgR
  rw [nm_op h0 hk]
  by_cases e : kdT t n i = 14
  · rw [if_pos e, if_pos (by omega)]
  · rw [if_neg e, if_neg (by omega), show (((kdT t n i).toNat : Nat) : Int) = kdT t n i by omega]
theorem x_inside (hB : a_Can B) (hcap : XCap t n ns) (hta : ∀ i, ta.getD i 0 ≤ 2) (h2 : 2 < tn.length) (h2a : ta.getD 2 0 = 2) (hW : ∀ c, c < cn.length → wfC tn.length ta (ct.getD c cNo)) (h12 : 12 ≤ cn.length) (N : Nat) (ih : XH0 t n ns tn ta cn ct B N) (d dep i P c sc wc : Nat) (s : aZ) (l : aZL) (env : List (List Int)) (res : (Int × Nat) ⊕ (aT × Nat)) (hd : 56 + 5 * (40 - dep) ≤ d) (hdep : dep ≤ 40) (h0 : ftT t n i = 0) (hk : kdT t n i = 4) (h : pLk t n (i + 1) (if z96 (kdT t n (i + 1)) ≠ 0 ∨ (10 ≤ kdT t n (i + 1) ∧ kdT t n (i + 1) ≤ 13 ∧ stT t n (i + 2) < n ∧ t (stT t n (i + 2)) = 41) then pLk t n (i + 2) (if kdT t n (i + 2) = 5 then some (.inr (sgT (kdT t n (i + 1)).toNat, i + 3)) else some (.inl (2, i + 2))) else if 40 ≤ dep then some (.inl (8, i + 1)) else pBd (ptm t n N 0 (dep + 1) [] noT (i + 1)) (pIn t n N dep)) = some res) (hi : i ≤ 6000) (hA : XAt t n ns i s) (hR : XRs tn ta cn ct P c sc wc s) (hE : XEn t n s sc env) (hwc : 2 * wc ≤ i) : a_W d 94 0 [.ref 38, iv (dep : Int), .retAddr 0, .retAddr 0] [] (mkH B s l) (XTo t n ns tn ta cn ct P c sc wc i env res B s l) := by
  obtain ⟨a1, a2⟩ := lt_nx h0 (by omega)
  refine w94_0 hB (by omega) _ s l (a_W.imp (x_advance hB (by omega) hcap l i h0 a1 (hA.1 h0)) ?_)
  rintro _ ⟨s1, rfl, hA1, f1, -⟩
  have hR1 := hR.x f1
  have hE1 := hE.x f1
  have fin : ∀ (r : (Int × Nat) ⊕ (aT × Nat)) (s2 : aZ) (w P2 c2 : Nat), XTi t n ns tn ta cn ct P c sc wc (i + 1) env r s1 s2 w P2 c2 → XTo t n ns tn ta cn ct P c sc wc i env r B s l (.inl (some (iv (w : Int))), mkH B s2 l) := fun r s2 w P2 c2 h => ⟨s2, w, P2, c2, rfl, XTi.pre f1 (by omega) h⟩
  refine ⟨s1, l, rfl, a_W.imp (x_lone95 hB (by omega) l hA1) ?_⟩
  rintro _ ⟨v5, rfl, r5, hv⟩
  refine ⟨_, s1, l, rfl, r5, fun v0 => ?_, fun v1 => ?_⟩
  rotate_left
  · -- one sign
    obtain ⟨h1, cl⟩ := hv.mp v1
    rcases pLk_some h with ⟨c, -⟩ | ⟨-, h⟩
    · exact absurd h1 c
    rw [if_pos cl] at h
    have hkk : 10 ≤ kdT t n (i + 1) ∧ kdT t n (i + 1) ≤ 22 := by
      rcases cl with q | q
      · have := z96_k q; omega
      · omega
    obtain ⟨b1, b2⟩ := lt_nx h1 (by omega)
    refine a_W.imp (x_conTok (t := t) (n := n) (ns := ns) hB (by omega) l h2a hW h12 hR1 (scT s1 sc) h1 (hA1.1 h1) (Or.inr hkk)) ?_
    rintro _ ⟨s2, w, P2, c2, rfl, hno⟩
    have eK := tkC_sg (cn := cn) h1 hkk env
    have hX := XTi.no (T := sgT (kdT t n (i + 1)).toNat) (by omega) hA1 (by rw [eK]; exact ⟨(sgR_w _ _).1, (sgR_w _ _).2.2⟩) eK hno
    have hA2 : XAt t n ns (i + 1) s2 := hA1.keep hno.2.2.2.2.1
    refine ⟨_, s2, l, rfl, a_W.imp (x_advance hB (by omega) hcap l (i + 1) h1 b1 (hA2.1 h1)) ?_⟩
    rintro _ ⟨s3, rfl, hA3, f3, -⟩
    refine ⟨s3, l, rfl, a_W.imp (x_expect hB (by omega) hcap l (i + 2) 5 (by decide) hA3) ?_⟩
    rintro _ ⟨s4, rfl, f4, hh⟩
    refine ⟨s4, l, rfl, ?_⟩
    rcases hh with ⟨q1, q2, -, hA4⟩ | ⟨q1, q2, gF⟩ | ⟨q1, gF⟩
    · rcases pLk_some h with ⟨c, -⟩ | ⟨-, h⟩
      · exact absurd q1 c
      rw [if_pos q2] at h
      cases h
      exact fin _ _ _ _ _ (hX.suf (f3.tr f4) (by omega) hA4)
    · rcases pLk_some h with ⟨c, -⟩ | ⟨-, h⟩
      · exact absurd q1 c
      rw [if_neg q2] at h
      cases h
      exact fin _ _ _ _ _ (hX.die (f3.tr f4) gF)
    · rcases pLk_some h with ⟨-, e⟩ | ⟨c, -⟩
      · subst e
        exact fin _ _ _ _ _ (hX.die (f3.tr f4) gF)
      · exact absurd c q1
  · -- a term
    by_cases h1 : ftT t n (i + 1) = 0
    rotate_left
    · have gF := hA1.f h1
      rcases pLk_some h with ⟨-, e⟩ | ⟨c, -⟩
      rotate_left
      · exact absurd c h1
      subst e
      have er : XTo t n ns tn ta cn ct P c sc wc i env (.inl (ftT t n (i + 1), i + 1)) B s l (.inl (some (iv 0)), mkH B s1 l) := fin _ s1 0 P c (XTi.nil hR1 (FrX.rf s1) gF)
      refine w61_0 hB (by omega) _ s1 l ⟨⟨by omega, by omega⟩, fun hlt => ?_, fun hge => ⟨fun _ => ⟨_, s1, l, rfl, by decide, fun c => absurd c (by decide), fun _ => er⟩, fun c => absurd (gF.2.2.1.symm.trans c) gF.2.1⟩⟩
      refine ⟨_, s1, l, rfl, by decide, fun _ => a_W.imp (x_termF hB (by omega) l _ gF hR1.2.2.2.2.2.2.1.1) ?_, fun c => absurd rfl c⟩
      rintro _ rfl
      refine ⟨_, s1, l, rfl, fun _ => w94_104 hB (by omega) _ _ _ s1 l (a_W.imp (x_expect_f hB (by omega) l 5 (by decide) gF) ?_), fun c => absurd (gF.k0.symm.trans c) (by decide)⟩
      rintro _ rfl
      exact ⟨s1, l, rfl, er⟩
    rcases pLk_some h with ⟨c, -⟩ | ⟨-, h⟩
    · exact absurd h1 c
    rw [if_neg (fun cl => absurd v0 (hv.mpr ⟨h1, cl⟩))] at h
    by_cases d4 : 40 ≤ dep
    · rw [if_pos d4] at h
      cases h
      obtain ⟨gF, fF⟩ := (hA1.1 h1).die 8 (by decide) (by decide)
      exact w61_0 hB (by omega) _ s1 l ⟨⟨by omega, by omega⟩, fun hlt => absurd hlt (by omega), fun hge => ⟨fun c => absurd (hA1.1 h1).2.1 c, fun _ => ⟨_, _, l, rfl, by decide, fun c => absurd c (by decide), fun _ => fin _ _ 0 P c (XTi.nil hR1 fF gF)⟩⟩⟩
    rw [if_neg d4] at h
    refine w61_0 hB (by omega) _ s1 l ⟨⟨by omega, by omega⟩, fun hlt => ⟨_, s1, l, rfl, by decide, fun _ => ?_, fun c => absurd rfl c⟩, fun hge => absurd hge (by omega)⟩
    rw [show (dep : Int) + 1 = ((dep + 1 : Nat) : Int) by omega]
    rcases pBd_some h with ⟨e, r1, e2⟩ | ⟨T, j, r1, r2⟩
    · refine a_W.imp (ih (d - 1) (dep + 1) (i + 1) P c sc wc s1 l env _ (by omega) (by omega) r1 (by omega) hA1 hR1 hE1 (by omega)) ?_
      rintro _ ⟨s2, w, P2, c2, rfl, hX⟩
      obtain ⟨f, j, hh, gF⟩ : ∃ f j, (Sum.inl e : (Int × Nat) ⊕ (aT × Nat)) = .inl (f, j) ∧ XFt t n ns f j s2 := by
        rcases hX.2.2.2.2 with ⟨T, j, hh, -⟩ | hh
        · cases hh
        · exact hh
      cases hh
      subst e2
      refine ⟨_, s2, l, rfl, fun _ => w94_104 hB (by omega) _ _ _ s2 l (a_W.imp (x_expect_f hB (by omega) l 5 (by decide) gF) ?_), fun c => absurd (gF.k0.symm.trans c) (by decide)⟩
      rintro _ rfl
      exact ⟨s2, l, rfl, fin _ _ _ _ _ hX⟩
    · obtain ⟨k1, k2, -, g0, k5, -, -⟩ := ptm_R t n N 0 (dep + 1) [] noT (i + 1) _ (by decide) (by omega) (I0D _ _ _ _ _ (by omega)) r1
      have k1 : i + 1 ≤ j := k1
      have k2 : j ≤ 6000 := k2
      have g0 : ftT t n j = 0 := g0 (by decide)
      refine a_W.imp (ih (d - 1) (dep + 1) (i + 1) P c sc wc s1 l env _ (by omega) (by omega) r1 (by omega) hA1 hR1 hE1 (by omega)) ?_
      rintro _ ⟨s2, w, P2, c2, rfl, hX⟩
      have hX0 := hX
      have x1 := hX.R
      obtain ⟨-, x2, x3, x4, ⟨T', j', hh, hA2, xo, xG⟩ | ⟨f, j', hh, -⟩⟩ := hX0
      rotate_left
      · cases hh
      cases hh
      have k6 := hA2.k6 g0
      unfold pIn at r2
      refine ⟨_, s2, l, rfl, fun n6 => ?_, fun e6 => ?_⟩
      · rw [if_neg (by rw [← k6]; exact n6)] at r2
        refine w94_104 hB (by omega) _ _ _ s2 l (a_W.imp (x_expect hB (by omega) hcap l j 5 (by decide) hA2) ?_)
        rintro _ ⟨s3, rfl, f3, hh⟩
        refine ⟨s3, l, rfl, ?_⟩
        rcases hh with ⟨q1, q2, -, hA3⟩ | ⟨q1, q2, gF⟩ | ⟨q1, gF⟩
        · rw [if_pos q2] at r2
          cases r2
          exact fin _ _ _ _ _ (hX.suf f3 (by omega) hA3)
        · rw [if_neg q2] at r2
          cases r2
          exact fin _ _ _ _ _ (hX.die f3 gF)
        · exact absurd g0 q1
      · have e6' : kdT t n j = 6 := k6.symm.trans e6
        rw [if_pos e6'] at r2
        obtain ⟨j1, j2⟩ := lt_nx g0 (by omega)
        refine a_W.imp (x_advance hB (by omega) hcap l j g0 j1 (hA2.1 g0)) ?_
        rintro _ ⟨s17, rfl, hA17, f17, -⟩
        have hR17 := x1.x f17
        have hw17 : w < c2 := x2
        have e45 : zz s17 45 7 = zz s2 45 7 := zz_of (f17.hi 45 (by decide)) 7
        have e17 : ∀ j, zz s17 17 j = zz s2 17 j := fun j => zz_of (f17.hi 17 (by decide)) j
        have hc5 : c2 ≤ 501 := x1.2.2.2.2.1.2.2
        -- the type
        have ty : ∀ (r : (Int × Nat) ⊕ (aT × Nat)), pty t n N 0 (dep + 1) (j + 1) = some r → (∀ (s23 : aZ) (P3 : Nat), XRs tn ta cn ct P3 c2 sc wc s23 → XFr c sc wc s1 s23 → XMo P c P3 c2 s1 s23 → ((∃ Ty k, r = .inr (Ty, k) ∧ XAt t n ns k s23 ∧ XTi t n ns tn ta cn ct P c sc wc (i + 1) env (.inr (.branch 2 T Ty, k)) s1 s23 w P3 c2) ∨ (∃ f k, r = .inl (f, k) ∧ XFt t n ns f k s23)) → a_W d 94 104 [.ref 38, iv (dep : Int), iv (w : Int), .retAddr 0] [] (mkH B s23 l) (XTo t n ns tn ta cn ct P c sc wc i env res B s l) ∧ ∀ u3, a_W d 94 104 [.ref 38, iv (dep : Int), iv (w : Int), u3] [] (mkH B s23 l) (XTo t n ns tn ta cn ct P c sc wc i env res B s l)) → a_W (d - 1) 65 0 [.ref 36, iv (((dep + 1 : Nat)) : Int), .retAddr 0, .retAddr 0, .retAddr 0] [] (mkH B s17 l) (fun r => ∃ (v21 : Int) (s19 : Nat → Nat → Int32) (l20 : Nat → Nat → Int64), r = (.inl (some (iv v21)), mkH B s19 l20) ∧ ((0 ≤ (w : Int) ∧ (w : Int) < 501) ∧ a_W (d - 1) 89 0 [.ref 17, iv (zz s19 49 (w : Int).toNat), iv v21, .retAddr 0, .retAddr 0, .retAddr 0] [] (mkH B s19 l20) (fun r => ∃ (s23 : Nat → Nat → Int32) (l24 : Nat → Nat → Int64), r = (.inl none, mkH B s23 l24) ∧ a_W d 94 104 [.ref 38, iv (dep : Int), iv (w : Int), iv v21] [] (mkH B s23 l24) (XTo t n ns tn ta cn ct P c sc wc i env res B s l)))) := by
          intro r hr cont
          refine a_W.imp (x_wr hB hcap hta h2 h2a N (d - 1) (dep + 1) (j + 1) P2 c2 sc wc s17 l _ (by omega) (by omega) hr (by omega) hA17 hR17) ?_
          rintro _ ⟨s19, y, P3, rfl, g1, g2, g3, g4, g5, hh⟩
          refine ⟨_, s19, l, rfl, ⟨by omega, by omega⟩, ?_⟩
          rw [natc]
          have t1 := (g2.2.2.2.2.2.2.2.2.1 w hw17).2.2
          obtain ⟨tw, etw⟩ : ∃ z : Nat, zz s19 49 w = z := ⟨(zz s19 49 w).toNat, by omega⟩
          rw [etw]
          refine a_W.imp (x_eqT (ta := ta) hB (by omega) l g2.2.1 tw y (by omega) g4 s19 g2.1) ?_
          rintro _ ⟨s23, rfl, fa, hS, m10, m11, he⟩
          have hR23 := g2.lo fa.lo hS (Nat.le_refl _) g2.2.1
          have fr23 : XFr c sc wc s1 s23 := x3.tr (((f17.lo.tr g1).tr fa.lo).fr c sc wc) XFrr
          have e45' : zz s23 45 7 = zz s2 45 7 := by rw [zz_of (fa.lo.1 45 (by decide)) 7, zz_of (g1.1 45 (by decide)) 7, e45]
          have mo23 : XMo P c P3 c2 s1 s23 := ⟨Nat.le_trans x4.1 g3, x4.2.1, fun e => by rw [e45']; exact x4.2.2.1 e, fun e => m10 (by rw [g5, e17]; exact x4.2.2.2 e)⟩
          refine ⟨s23, l, rfl, (cont s23 P3 hR23 fr23 mo23 ?_).2 _⟩
          rcases hh with ⟨Ty, k, e, gA, gW⟩ | ⟨f, k, e, gF⟩
          · have gA' : XAt t n ns k s23 := gA.keep (fun q hq => fa.1 q (by omega))
            refine Or.inl ⟨Ty, k, e, gA', ⟨wc, ⟨Nat.le_refl _, Or.inl rfl⟩, hR23⟩, x2, fr23, mo23, Or.inl ⟨_, _, rfl, gA', fun e => xo (by rw [← e45']; exact e), fun hG => ?_⟩⟩
            have hG' : G1 s1 P c sc (i + 1) T := hG
            have hx := xG hG'
            obtain ⟨G1', G2', G3', G4'⟩ := hG'
            have hrw := rsv_w t n j cn T env k5.1
            have p2 := hx.1.2
            rw [hrw.2.2] at p2
            have hWX := gW (by rw [e17, hx.2.1.2]; exact G2') (by omega)
            exact RX.as (sc := sc) (wc := wc) hx (coK_rsv _ _ _ _ _) f17.lo f17.se.vw e17 (fun q => zz_of (f17.hi 36 (by decide)) q) hR17.1 (by omega) hWX g1 g5 g3 fa m10 m11 (by rw [etw, natc]; exact he) x4.1
          · exact Or.inr ⟨f, k, e, gF.keep (fun q hq => fa.1 q (by omega))⟩
        refine ⟨s17, l, rfl, ?_⟩
        rcases pBd_some r2 with ⟨e, q1, q2⟩ | ⟨Ty, k, q1, q2⟩
        · refine ty _ q1 (fun s23 P3 hR23 fr23 mo23 hh => ?_)
          rcases hh with ⟨_, _, hh, -⟩ | ⟨f, k, hh, gF⟩
          · cases hh
          cases hh
          subst q2
          have go : ∀ u3, a_W d 94 104 [.ref 38, iv (dep : Int), iv (w : Int), u3] [] (mkH B s23 l) (XTo t n ns tn ta cn ct P c sc wc i env (.inl (f, k)) B s l) := by
            intro u3
            refine w94_104 hB (by omega) _ _ _ s23 l (a_W.imp (x_expect_f hB (by omega) l 5 (by decide) gF) ?_)
            rintro _ rfl
            exact ⟨s23, l, rfl, fin _ _ _ _ _ ⟨⟨wc, ⟨Nat.le_refl _, Or.inl rfl⟩, hR23⟩, x2, fr23, mo23, Or.inr ⟨f, k, rfl, gF⟩⟩⟩
          exact ⟨go _, go⟩
        · have r3' := (pty_le t n N 0 (dep + 1) (j + 1) _ (by decide) (fun c => absurd c (by decide)) (by omega) q1).1 Ty k rfl
          have r4' := pty0_ft t n N (dep + 1) (j + 1) Ty k q1
          refine ty _ q1 (fun s23 P3 hR23 fr23 mo23 hh => ?_)
          rcases hh with ⟨Ty', k', hh, hA23, hX23⟩ | ⟨f, k, hh, -⟩
          rotate_left
          · cases hh
          cases hh
          have go : ∀ u3, a_W d 94 104 [.ref 38, iv (dep : Int), iv (w : Int), u3] [] (mkH B s23 l) (XTo t n ns tn ta cn ct P c sc wc i env res B s l) := by
            intro u3
            refine w94_104 hB (by omega) _ _ _ s23 l (a_W.imp (x_expect hB (by omega) hcap l k 5 (by decide) hA23) ?_)
            rintro _ ⟨s3, rfl, f3, hh⟩
            refine ⟨s3, l, rfl, ?_⟩
            rcases hh with ⟨q3, q4, -, hA3⟩ | ⟨q3, q4, gF⟩ | ⟨q3, gF⟩
            · rw [if_pos q4] at q2
              cases q2
              exact fin _ _ _ _ _ (hX23.suf f3 (by omega) hA3)
            · rw [if_neg q4] at q2
              cases q2
              exact fin _ _ _ _ _ (hX23.die f3 gF)
            · exact absurd r4' q3
          exact ⟨go _, go⟩
theorem x_atom (hB : a_Can B) (hcap : XCap t n ns) (hta : ∀ i, ta.getD i 0 ≤ 2) (h2 : 2 < tn.length) (h2a : ta.getD 2 0 = 2) (hW : ∀ c, c < cn.length → wfC tn.length ta (ct.getD c cNo)) (h12 : 12 ≤ cn.length) (N : Nat) (ih : XH0 t n ns tn ta cn ct B N) : XH4 t n ns tn ta cn ct B (N + 1) := by
  intro d dep i P c sc wc s l env res hd hdep h hi hA hR hE hwc
  rw [ptm_4] at h
  rcases pLk_some h with ⟨h0, e⟩ | ⟨h0, h⟩
  · have gF := hA.f h0
    subst e
    refine a_W.imp (x_tatomF hB (by omega) l _ gF) ?_
    rintro _ rfl
    exact ⟨s, 0, P, c, rfl, XTi.nil hR (FrX.rf s) gF⟩
  have k6 := hA.k6 h0
  have hC := hA.1 h0
  refine w93_0 hB (by omega) _ s l ⟨fun n4 => ⟨fun n3 => ⟨fun n1 => ?_, fun e1 => ?_⟩, fun e3 => ?_⟩, fun e4 => ?_⟩
  · rw [k6] at n4 n3 n1
    rw [if_neg n4, if_neg n3, if_neg n1] at h
    cases h
    refine a_W.imp (x_expect hB (by omega) hcap l i 1 (by decide) hA) ?_
    rintro _ ⟨s3, rfl, f3, ⟨-, q, -⟩ | ⟨-, -, gF⟩ | ⟨q, -⟩⟩
    · exact absurd q n1
    · exact ⟨s3, l, rfl, s3, 0, P, c, rfl, XTi.nil hR f3 gF⟩
    · exact absurd h0 q
  · rw [k6] at n4 n3 e1
    rw [if_neg n4, if_neg n3, if_pos e1] at h
    cases h
    obtain ⟨es, hs1, hs2⟩ := hE
    refine a_W.imp (x_name hB (by omega) l h2a hW h12 hR h0 hC e1 es hs1 env hs2) ?_
    rintro _ ⟨s2, w, P2, c2, rfl, hno⟩
    have hX := XTi.no (T := .leaf (0, i)) hi hA (by have := lfK_w t n cn (0, i) env (Nat.zero_le _); exact ⟨this.1, this.2.2⟩) rfl hno
    have hA2 : XAt t n ns i s2 := hA.keep hno.2.2.2.2.1
    refine ⟨_, s2, l, rfl, a_W.imp (x_expect hB (by omega) hcap l i 1 (by decide) hA2) ?_⟩
    rintro _ ⟨s3, rfl, f3, ⟨-, -, -, hA3⟩ | ⟨-, q, -⟩ | ⟨q, -⟩⟩
    · exact ⟨s3, l, rfl, s3, w, P2, c2, rfl, hX.suf f3 (by omega) hA3⟩
    · exact absurd e1 q
    · exact absurd h0 q
  · rw [k6] at n4 e3
    rw [if_neg n4, if_pos e3] at h
    cases h
    obtain ⟨a1, a2⟩ := lt_nx h0 (by omega)
    have e9 : zz s 1 9 = dgV t (n - stT t n i) (stT t n i) 0 := hC.2.2.2.2.2.2.2.2.1 e3
    obtain ⟨d1, d2⟩ := dgV_49 h0 e3
    obtain ⟨v, ev⟩ : ∃ v : Nat, dgV t (n - stT t n i) (stT t n i) 0 = v := ⟨(dgV t (n - stT t n i) (stT t n i) 0).toNat, by omega⟩
    rw [e9, ev, natc]
    have hρ : ∀ k ∈ scT s sc, k < P := scT_lt sc hR.2.2.2.2.2.2.2.2.2.1
    refine a_W.imp (x_num (t := t) (n := n) (ns := ns) hB (by omega) l h2a hW h12 hR (scT s sc) hρ v (by omega)) ?_
    rintro _ ⟨s2, w, P2, c2, rfl, hno⟩
    have hX := XTi.no (T := .leaf (2, v)) (env := env) hi hA (by obtain ⟨q1, q2, q3⟩ := numK_w v; exact ⟨q1.trans (by rfl), q3.trans (by rfl)⟩) rfl hno
    have hA2 : XAt t n ns i s2 := hA.keep hno.2.2.2.2.1
    refine ⟨_, s2, l, rfl, a_W.imp (x_advance hB (by omega) hcap l i h0 a1 (hA2.1 h0)) ?_⟩
    rintro _ ⟨s3, rfl, hA3, f3, -⟩
    exact ⟨s3, l, rfl, s3, w, P2, c2, rfl, hX.suf f3 (by omega) hA3⟩
  · rw [k6] at e4
    rw [if_pos e4] at h
    refine a_W.imp (x_inside hB hcap hta h2 h2a hW h12 N ih (d - 1) dep i P c sc wc s l env res (by omega) hdep h0 e4 h hi hA hR hE hwc) ?_
    rintro _ ⟨s2, w, P2, c2, rfl, hX⟩
    exact ⟨_, s2, l, rfl, s2, w, P2, c2, rfl, hX⟩
end
