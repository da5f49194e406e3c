/-! THE READER READS TERMS AS THEY PARSE -/
section
variable {t : Nat → Int} {n : Nat} {ns tn : List (List Int)} {ta : List Int} {cn : List (List Int)} {ct : List aT} {B : aH}
theorem x_applyF (hB : a_Can B) (h2a : ta.getD 2 0 = 2) (d sc wc0 i0 P0 c0 : Nat) (env : List (List Int)) (s0 : aZ) (l : aZL) (hd : 10 ≤ d) (g : Int) (hg : inR g) (x3 : Int) (f : Int) (j : Nat) : ∀ (r w P c : Nat) (s : aZ), XRs tn ta cn ct P c sc (wc0 + r) s → w < c → XFt t n ns f j s → XFr c0 sc wc0 s0 s → XMo P0 c0 P c s0 s → a_W d 103 3 [.ref 38, iv (wc0 : Int), iv g, iv x3, iv (w : Int)] [] (mkH B s l) (XTo t n ns tn ta cn ct P0 c0 sc wc0 i0 env (.inl (f, j)) B s0 l) := by
  intro r
  induction r with
  | zero =>
    intro w P c s hR hw hF hf hm
    have h7 := hR.2.2.2.2.2.2.1
    have h7' : zz s 38 8 = ((wc0 + 0 : Nat) : Int) := h7.1
    have h72 : wc0 + 0 ≤ 3001 := h7.2
    exact w103_3 hB (by omega) _ _ _ _ s l ⟨⟨by omega, by omega⟩, fun _ => w103_62 hB _ _ _ _ s l ⟨s, w, P, c, rfl, ⟨wc0 + 0, ⟨Nat.le_refl _, Or.inl rfl⟩, hR⟩, hw, hf, hm, Or.inr ⟨f, j, rfl, hF⟩⟩, fun c => absurd c (by omega)⟩
  | succ r ih =>
    intro w P c s hR hw hF hf hm
    have h7 := hR.2.2.2.2.2.2.1
    have h11 := hR.2.2.2.2.2.2.2.2.2.2
    have e8 : zz s 38 8 - 1 = ((wc0 + r : Nat) : Int) := by omega
    refine w103_3 hB (by omega) _ _ _ _ s l ⟨⟨by omega, by omega⟩, fun c => absurd c (by omega), fun _ => ⟨⟨by omega, by omega⟩, hg, ?_⟩⟩
    rw [e8, natc]
    refine ⟨fun _ => w103_62 hB _ _ _ _ s l ⟨s, w, P, c, rfl, ⟨wc0 + (r + 1), ⟨by omega, Or.inr ⟨_, rfl⟩⟩, hR⟩, hw, hf, hm, Or.inr ⟨f, j, rfl, hF⟩⟩, fun _ => ?_⟩
    have hcell := h11 (wc0 + r) (by omega)
    obtain ⟨wq, ewq⟩ : ∃ y : Nat, zz s 43 (wc0 + r) = y := ⟨(zz s 43 (wc0 + r)).toNat, by omega⟩
    rw [ewq] at hcell ⊢
    have hRp : XRs tn ta cn ct P c sc (wc0 + r) (zu s 38 8 ((wc0 + r : Nat) : Int)) := XRs.pw hR
    have frp := fun c sc wc => XFr.z38 s ((wc0 + r : Nat) : Int) c sc wc
    have zk : ∀ k, k ≠ 38 → (zu s 38 8 ((wc0 + r : Nat) : Int)) k = s k := fun k hk => zu_ne _ _ _ _ _ hk
    generalize (zu s 38 8 ((wc0 + r : Nat) : Int)) = sp at *
    refine a_W.imp (x_app hB (by omega) l h2a hRp wq w (by omega) hw) ?_
    rintro _ ⟨s6, w6, P6, c6, rfl, p1, p2, p3, p4, p5, -, -⟩
    have mo : XMo P c P6 c6 s s6 := ⟨p3.1, p3.2.1, fun e => p3.2.2.1 (by rw [zz_of (zk 45 (by decide)) 7]; exact e), fun e => p3.2.2.2 (by rw [zz_of (zk 17 (by decide)) 10]; exact e)⟩
    exact ⟨_, s6, l, rfl, ih w6 P6 c6 s6 p1 p4 (hF.keep (fun k hk => (p5 k (by omega)).trans (zk k (by omega)))) (hf.tr ((frp c0 sc wc0).tr p2 ⟨hm.2.1, Nat.le_refl _, by omega⟩) XFrr) (hm.tr mo)⟩
theorem x_endF (hB : a_Can B) (h2a : ta.getD 2 0 = 2) (d sc wc0 i0 P0 c0 : Nat) (env : List (List Int)) (s0 : aZ) (l : aZL) (hd : 11 ≤ d) (x1 : Int) (k : Nat) (hk : k ≤ 6000) (u5 : Value) {f : Int} {j W w P c : Nat} {s : aZ} (hR : XRs tn ta cn ct P c sc W s) (hW : wc0 ≤ W) (hw : w < c) (hF : XFt t n ns f j s) (hf : XFr c0 sc wc0 s0 s) (hm : XMo P0 c0 P c s0 s) : a_W d 57 14 [.ref 38, iv x1, iv (wc0 : Int), iv (w : Int), iv (k : Int), u5] [] (mkH B s l) (XTo t n ns tn ta cn ct P0 c0 sc wc0 i0 env (.inl (f, j)) B s0 l) := by
  have k0 := hF.k0
  have hz : z96 (zz s 1 6) = 0 := by rw [k0]; decide
  obtain ⟨r, er⟩ : ∃ r, W = wc0 + r := ⟨W - wc0, by omega⟩
  subst er
  have en : a_W d 57 132 [.ref 38, iv x1, iv (wc0 : Int), iv (w : Int), iv (k : Int), u5] [] (mkH B s l) (XTo t n ns tn ta cn ct P0 c0 sc wc0 i0 env (.inl (f, j)) B s0 l) := by
    refine w57_132 hB (by omega) _ _ _ _ _ s l (w103_0 hB _ _ _ s l (a_W.imp (x_applyF hB h2a (d - 1) sc wc0 i0 P0 c0 env s0 l (by omega) 0 (by decide) _ f j r w P c s hR hw hF hf hm) ?_))
    rintro _ ⟨s2, w2, P2, c2, rfl, hX⟩
    exact ⟨_, s2, l, rfl, s2, w2, P2, c2, rfl, hX⟩
  exact w57_14 hB (by omega) _ _ _ _ _ s l ⟨⟨by omega, by omega⟩, fun _ => en, fun _ => ⟨fun _ => en, fun c => absurd c (by omega)⟩⟩
theorem x_toper0F (hB : a_Can B) {d : Nat} (hd : 7 ≤ d) (l : aZL) (x1 : Int) {f : Int} {i : Nat} {s : aZ} (h : XFt t n ns f i s) : a_W d 58 0 [.ref 38, iv x1, .retAddr 0, .retAddr 0, .retAddr 0] [] (mkH B s l) (fun q => q = (.inl (some (iv 0)), mkH B s l)) := by
  have k0 := h.k0
  exact w58_0 hB _ s l (w58_2 hB (by omega) _ _ s l ⟨by decide, fun c => absurd c (by decide), fun _ => ⟨fun _ => x_toperF hB (by omega) l x1 h, fun c => absurd (k0.symm.trans c) (by decide)⟩⟩)
/-- an operator's operand is put aside -/
theorem XRs.put {P c sc wc : Nat} {s : aZ} (h : XRs tn ta cn ct P c sc wc s) (w : Nat) (hw : w < c) (g : Int) (hwc : wc < 3001) : XRs tn ta cn ct P c sc (wc + 1) (zu (zu (zu s 43 wc (w : Int)) 44 wc g) 38 8 ((wc : Int) + 1)) := by
  obtain ⟨h1, h2, h3, h4, h5, h6, h7, h8, h9, h10, h11⟩ := h
  have z : ∀ k j, k ≠ 38 → k ≠ 43 → k ≠ 44 → zz (zu (zu (zu s 43 wc (w : Int)) 44 wc g) 38 8 ((wc : Int) + 1)) k j = zz s k j := fun k j a b c => by rw [zz_ne _ _ _ _ _ _ (by omega), zz_ne _ _ _ _ _ _ (by omega), zz_ne _ _ _ _ _ _ (by omega)]
  have zk : ∀ k, k ≠ 38 → k ≠ 43 → k ≠ 44 → (zu (zu (zu s 43 wc (w : Int)) 44 wc g) 38 8 ((wc : Int) + 1)) k = s k := fun k a b c => by rw [zu_ne _ _ _ _ _ a, zu_ne _ _ _ _ _ c, zu_ne _ _ _ _ _ b]
  refine ⟨h1.z (z 17 8 (by decide) (by decide) (by decide)) (fun k k1 k2 j => z k j (by omega) (by omega) (by omega)), h2, h3.fr (fun k k1 k2 => zk k (by omega) (by omega) (by omega)), h4.fr (fun k k1 k2 => zk k (by omega) (by omega) (by omega)), ⟨(z 45 6 (by decide) (by decide) (by decide)).trans h5.1, h5.2⟩, ⟨(z 39 3 (by decide) (by decide) (by decide)).trans h6.1, h6.2⟩, ⟨(zz_same _ _ _ ⟨by omega, by omega⟩).trans (by omega), by omega⟩, ⟨(z 36 4 (by decide) (by decide) (by decide)).trans h8.1, (z 50 0 (by decide) (by decide) (by decide)).trans h8.2⟩, fun j hj => ?_, fun j hj => ?_, fun j hj => ?_⟩
  · rw [z 47 j (by decide) (by decide) (by decide), z 48 j (by decide) (by decide) (by decide), z 49 j (by decide) (by decide) (by decide)]; exact h9 j hj
  · rw [z 42 j (by decide) (by decide) (by decide)]; exact h10 j hj
  · rw [zz_ne _ _ _ _ _ _ (by omega), zz_ne _ _ _ _ _ _ (by omega)]
    by_cases e : j = wc
    · subst e
      rw [zz_same _ _ _ ⟨by omega, by omega⟩]
      omega
    · rw [zz_ne _ _ _ _ _ _ (by omega)]
      exact h11 j (by omega)
/-- an operand before an operator becomes what waits -/
theorem XLp.push {sc wc0 i0 P0 c0 : Nat} {env : List (List Int)} {s0 : aZ} {st : aSt} {x : aT} {i : Nat} {s s1 s5 s14 : aZ} {P c w P1 c1 v3 P5 c5 v6 : Nat} {kd : Nat} (hρ : ∀ k ∈ scT s0 sc, k < P0) (hi : i ≤ 6000) (hst : ∀ q ∈ st, ∃ jj, tmOk t n jj q.2) (hx : ∃ jj, tmOk t n jj x) (h : XLp t n ns tn ta cn ct sc wc0 i0 P0 c0 env s0 st x i s P c w) (hno : XRs tn ta cn ct P1 c1 sc (wc0 + st.length) s1 ∧ XFr c sc (wc0 + st.length) s s1 ∧ XMo P c P1 c1 s s1 ∧ v3 < c1 ∧ (∀ k, k ≤ 7 → s1 k = s k) ∧ (zz s1 45 7 = 0 → zz s 45 7 = 0 ∧ c1 = c + tmW (sgR cn kd)) ∧ (zz s 45 7 = 0 → c + tmW (sgR cn kd) ≤ 501 → P + csT (sgR cn kd) ≤ 17000 → ∀ i, RX t n ns tn ta ct (scT s0 sc) (sgR cn kd) i i s P c s1 P1 c1 v3)) (app : XRs tn ta cn ct P5 c5 sc (wc0 + st.length) s5 ∧ XFr c1 sc (wc0 + st.length) s1 s5 ∧ XMo P1 c1 P5 c5 s1 s5 ∧ v6 < c5 ∧ (∀ k, (k < 17 ∨ (24 < k ∧ k < 45) ∨ 50 < k) → s5 k = s1 k) ∧ (zz s5 45 7 = 0 → zz s1 45 7 = 0 ∧ c5 = c1 + 1) ∧ (zz s1 45 7 = 0 → c1 < 501 → P1 + 2 ≤ 17000 → AppX ta P1 c1 v3 w s1 P5 s5 v6 c5)) (e14 : SE s5 s14) (f14 : XFr c5 sc (wc0 + st.length) s5 s14) (h43 : zz s14 43 (wc0 + st.length) = v6) (h44 : zz s14 44 (wc0 + st.length) = z96 (kd : Int)) {s16 : aZ} {a : aT} {j w2 P2 c2 : Nat} (hok : ∃ jj, tmOk t n jj a) (hop : XTi t n ns tn ta cn ct P5 c5 sc (wc0 + (st.length + 1)) (i + 1) env (.inr (a, j)) s14 s16 w2 P2 c2) : XLp t n ns tn ta cn ct sc wc0 i0 P0 c0 env s0 ((kd, x) :: st) a j s16 P2 c2 w2 := by
  obtain ⟨a1, a2, a3, a4, a5, a6, a7⟩ := h
  obtain ⟨n1, n2, n3, n4, n5, n6, n7⟩ := hno
  obtain ⟨p1, p2, p3, p4, p5, p6, p7⟩ := app
  have r1 := hop.R
  obtain ⟨-, r2, r3, r4, ⟨a', j', hh, rA, ro, rG⟩ | ⟨f, j', hh, -⟩⟩ := hop
  rotate_left
  · cases hh
  cases hh
  obtain ⟨w1, -, w3⟩ := sgR_w cn kd
  rw [w1] at n6 n7
  rw [w3] at n7
  have e45 : zz s14 45 7 = zz s5 45 7 := zz_of (e14.1 45 (by decide)) 7
  have e17 : ∀ j, zz s14 17 j = zz s5 17 j := fun j => zz_of (e14.1 17 (by decide)) j
  have mo14 : XMo P5 c5 P5 c5 s5 s14 := ⟨Nat.le_refl _, Nat.le_refl _, fun e => by rw [e45]; exact e, fun e => by rw [e17]; exact e⟩
  have f0 : XFr c0 sc wc0 s0 s14 := ((a3.tr (n2.wm (wc := wc0) (by omega)) ⟨a4.2.1, Nat.le_refl _, Nat.le_refl _⟩).tr (p2.wm (wc := wc0) (by omega)) ⟨Nat.le_trans a4.2.1 n3.2.1, Nat.le_refl _, Nat.le_refl _⟩).tr (f14.wm (wc := wc0) (by omega)) ⟨Nat.le_trans (Nat.le_trans a4.2.1 n3.2.1) p3.2.1, Nat.le_refl _, Nat.le_refl _⟩
  have m0 : XMo P0 c0 P5 c5 s0 s14 := ((a4.tr n3).tr p3).tr mo14
  have hlen : ((kd, x) :: st).length = st.length + 1 := rfl
  have sw : stW ((kd, x) :: st) = tmW x + 3 + stW st := rfl
  have sv : stV ((kd, x) :: st) = tmW x + 2 + stV st := rfl
  have sC : stC ((kd, x) :: st) = csT x + 44 + stC st := rfl
  have sD : stD ((kd, x) :: st) = csT x + 42 + stD st := rfl
  have k44 : ∀ k, k < wc0 + st.length → zz s14 44 k = zz s 44 k := fun k hk => (f14.2.2.2.2.2 44 k (by decide) (by decide) hk).trans ((p2.2.2.2.2.2 44 k (by decide) (by decide) hk).trans (n2.2.2.2.2.2 44 k (by decide) (by decide) hk))
  have hst14 : StS s14 wc0 ((kd, x) :: st) := ⟨h44, a5.keep st k44⟩
  refine ⟨r1, r2, f0.tr (r3.wm (wc := wc0) (by omega)) ⟨m0.2.1, Nat.le_refl _, Nat.le_refl _⟩, m0.tr r4, hst14.keep _ (fun k hk => r3.2.2.2.2.2 44 k (by decide) (by decide) hk), fun e => ?_, fun hG => ?_⟩
  · obtain ⟨e1, e2⟩ := ro e
    obtain ⟨e3, e4⟩ := p6 (e45.symm.trans e1)
    obtain ⟨e5, e6⟩ := n6 e3
    obtain ⟨e7, e8⟩ := a6 e5
    exact ⟨e7, by omega⟩
  · obtain ⟨g1, g2, g3, g4⟩ := hG
    obtain ⟨j1, sq, Pq, cq, hO, hXx, hfx, hmx⟩ := a7 ⟨g1, g2, by omega, by omega⟩
    obtain ⟨b1, b2, b3, b4, b5⟩ := OCh.b st j1 sq Pq cq hst hO
    obtain ⟨jx, hx'⟩ := hx
    have y1 := rsv_w t n jx cn x env hx'
    have px := hXx.1
    rw [y1.1, y1.2.2] at px
    have h1 := tmH_le x
    have sl := stV_le st
    have hK := n7 hXx.2.1.1 (by omega) (by omega) i
    have pK := hK.1
    rw [w1, w3] at pK
    have hr := (R2.mk hXx hK n2 n3 (fun k hk => Nat.lt_of_lt_of_le (hρ k hk) b3) hmx.1).swap
    have hA := p7 hK.2.1.1 (by omega) (by omega)
    have cS : coK (sgR cn kd) := by
      unfold sgR
      split
      · exact (by decide : (6 : Nat) ≠ 2)
      · exact coK_cn _ _
    have hap := RX.ap hr cS (coK_rsv _ _ _ _ _) hA p2 p3 (fun k hk => p5 k (by omega)) (Nat.le_trans hmx.1 n3.1) ⟨by rw [(sgR_w cn kd).2.1]; omega, by rw [y1.2.1]; omega⟩
    have hO2 : OCh t n ns tn ta cn ct (scT s0 sc) env sc wc0 s0 P0 c0 i0 ((kd, x) :: st) (i + 1) s14 P5 c5 := ⟨j1, sq, Pq, cq, v6, hO, (hap.to e14).ij (by omega), h43, ((hmx.tr n3).tr p3).tr mo14, ((hfx.tr n2 ⟨hmx.2.1, Nat.le_refl _, Nat.le_refl _⟩).tr p2 ⟨Nat.le_trans hmx.2.1 n3.2.1, Nat.le_refl _, Nat.le_refl _⟩).tr f14 ⟨Nat.le_trans (Nat.le_trans hmx.2.1 n3.2.1) p3.2.1, Nat.le_refl _, Nat.le_refl _⟩⟩
    obtain ⟨d1, d2, d3, d4, d5⟩ := OCh.b _ _ _ _ _ (fun q hq => by
      rcases List.mem_cons.mp hq with rfl | hq
      · exact ⟨jx, hx'⟩
      · exact hst q hq) hO2
    have sl2 := stV_le ((kd, x) :: st)
    rw [hlen] at sl2
    have hxa := rG ⟨d5 g1, d4.trans g2, by omega, by omega⟩
    have esc : scT s14 sc = scT s0 sc := scT.keep sc (fun k hk => f0.2.2.2.2.1 42 k (by decide) (by decide) hk)
    rw [esc] at hxa
    exact ⟨i + 1, s14, P5, c5, hO2, hxa, r3, r4⟩
theorem x_ops (hB : a_Can B) (hcap : XCap t n ns) (h2a : ta.getD 2 0 = 2) (hW : ∀ c, c < cn.length → wfC tn.length ta (ct.getD c cNo)) (h12 : 12 ≤ cn.length) (d dep sc wc0 i0 P0 c0 : Nat) (env : List (List Int)) (s0 : aZ) (l : aZL) (hd : 60 + 5 * (40 - dep) ≤ d) (hdep : dep ≤ 40) (hρ : ∀ k ∈ scT s0 sc, k < P0) (hE : XEn t n s0 sc env) : ∀ N, (∀ N', N' < N → XH2 t n ns tn ta cn ct B N') → ∀ (st : aSt) (x : aT) (i k w P c : Nat) (s : aZ) (u5 : Value) (res : (Int × Nat) ⊕ (aT × Nat)), ptm t n N 1 dep st x i = some res → i ≤ 6000 → k ≤ i → StD t n i dep st → tmD t n i dep x → XAt t n ns i s → XLp t n ns tn ta cn ct sc wc0 i0 P0 c0 env s0 st x i s P c w → 2 * (wc0 + st.length) + 1 ≤ i → a_W d 57 14 [.ref 38, iv (dep : Int), iv (wc0 : Int), iv (w : Int), iv (k : Int), u5] [] (mkH B s l) (XTo t n ns tn ta cn ct P0 c0 sc wc0 i0 env res B s0 l) := by
  intro N
  induction N using Nat.strongRecOn with
  | _ N ih =>
    intro hH st x i k w P c s u5 res h hi hk hst hx hA hX hwc
    have hX0 := hX
    obtain ⟨a1, a2, a3, a4, a5, a6, a7⟩ := hX0
    have tOk : ∀ q ∈ st, ∃ jj, tmOk t n jj q.2 := fun q hq => ⟨i, (hst q hq).2.1⟩
    have tR : ∀ q ∈ st, 10 ≤ q.1 ∧ q.1 ≤ 22 := fun q hq => ⟨by have := (hst q hq).1; omega, (hst q hq).1.2⟩
    cases N with
    | zero => cases h
    | succ N =>
      rw [ptm_1] at h
      rcases pLk_some h with ⟨h0, e⟩ | ⟨h0, h⟩
      · subst e
        exact x_endF hB h2a d sc wc0 i0 P0 c0 env s0 l (by omega) _ k (by omega) u5 a1 (by omega) a2 (hA.f h0) a3 a4
      have k6 := hA.k6 h0
      have p96 := z96_0 (kdT t n i)
      by_cases c0' : z96 (kdT t n i) = 0
      · rw [if_pos c0'] at h
        cases h
        have en : a_W d 57 132 [.ref 38, iv (dep : Int), iv (wc0 : Int), iv (w : Int), iv (k : Int), u5] [] (mkH B s l) (XTo t n ns tn ta cn ct P0 c0 sc wc0 i0 env (.inr ((stl 0 st x).2, i)) B s0 l) := by
          refine w57_132 hB (by omega) _ _ _ _ _ s l (w103_0 hB _ _ _ s l (a_W.imp (x_apply hB h2a (d - 1) sc wc0 i0 P0 c0 env s0 l (by omega) hρ 0 (by decide) i hi _ st x w P c s tOk ⟨i, hx.1⟩ tR hX) ?_))
          rintro _ ⟨s2, w2, P2, c2, rfl, z1, z2⟩
          have e0 := stl_0 st x (fun q hq => by
            have := (hst q hq).1
            intro c
            unfold z96 at c
            omega)
          rw [e0] at z2
          obtain ⟨b1, b2, b3, b4, -, b6, b7⟩ := z2
          refine ⟨_, s2, l, rfl, s2, w2, P2, c2, rfl, ⟨wc0, ⟨Nat.le_refl _, Or.inl rfl⟩, b1⟩, b2, b3, b4, Or.inl ⟨_, _, rfl, hA.keep z1, fun e => ?_, fun hG => ?_⟩⟩
          · obtain ⟨e1, e2⟩ := b6 e
            have : stV [] = 0 := rfl
            exact ⟨e1, by omega⟩
          · obtain ⟨g1, g2, g3, g4⟩ := hG
            have q1 : stW [] = 0 := rfl
            have q2 : stC [] = 0 := rfl
            obtain ⟨j1, s1, P1, c1, ⟨rfl, rfl, rfl, rfl⟩, hXx, -, -⟩ := b7 ⟨g1, g2, by omega, by omega⟩
            exact hXx
        exact w57_14 hB (by omega) _ _ _ _ _ s l ⟨⟨by omega, by omega⟩, fun _ => en, fun _ => ⟨fun _ => en, fun c => absurd c (by rw [k6]; omega)⟩⟩
      rw [if_neg c0'] at h
      have hkk := z96_k c0'
      obtain ⟨l1, l2⟩ := lt_nx h0 (by omega)
      refine w57_14 hB (by omega) _ _ _ _ _ s l ⟨⟨by omega, by omega⟩, fun c => absurd c (by omega), fun _ => ⟨fun c => absurd c (by rw [k6]; omega), fun _ => ?_⟩⟩
      rw [k6]
      have rg : inR (z96 (kdT t n i)) := ⟨by omega, by unfold z96; omega⟩
      obtain ⟨kd, ekd⟩ : ∃ kd : Nat, kdT t n i = kd := ⟨(kdT t n i).toNat, by omega⟩
      refine w103_0 hB _ _ _ s l (a_W.imp (x_apply hB h2a (d - 1) sc wc0 i0 P0 c0 env s0 l (by omega) hρ (z96 (kdT t n i)) rg i hi _ st x w P c s tOk ⟨i, hx.1⟩ tR hX) ?_)
      rintro _ ⟨s4, w4, P4, c4, rfl, z1, z2⟩
      have hA4 := hA.keep z1
      obtain ⟨hs', hx'⟩ := tmD.stl (z96 (kdT t n i)) st x hst hx
      have hl' := (stl_w (z96 (kdT t n i)) st x).2.2.2
      have z20 := z2
      generalize eS : (stl (z96 (kdT t n i)) st x).1 = st' at *
      generalize eX : (stl (z96 (kdT t n i)) st x).2 = x' at *
      obtain ⟨b1, b2, b3, b4, b5, b6, b7⟩ := z20
      have h7 := b1.2.2.2.2.2.2.1
      refine ⟨_, s4, l, rfl, ?_⟩
      -- the operator is read
      have go : ¬ (z96 (kdT t n i) = 5 ∧ top5 (stl 5 st x).1 = true) → a_W d 57 95 [.ref 38, iv (dep : Int), iv (wc0 : Int), iv (w4 : Int), iv (k : Int), iv (z96 (kdT t n i))] [] (mkH B s4 l) (XTo t n ns tn ta cn ct P0 c0 sc wc0 i0 env res B s0 l) := by
        intro hno5
        rw [if_neg hno5] at h
        have tOk' : ∀ q ∈ st', ∃ jj, tmOk t n jj q.2 := fun q hq => ⟨i, (hs' q hq).2.1⟩
        refine w57_95 hB (by omega) _ _ _ _ _ s4 l (a_W.imp (x_conTok (t := t) (n := n) (ns := ns) hB (by omega) l h2a hW h12 b1 (scT s0 sc) h0 (hA4.1 h0) (Or.inr (by omega))) ?_)
        rintro _ ⟨s1, v3, P1, c1, rfl, hno⟩
        have eK : tkC t n cn i = sgR cn kd := by
          have := tkC_sg (cn := cn) h0 (by omega) env
          rw [this, ekd, natc]
          rfl
        rw [eK] at hno
        refine ⟨_, s1, l, rfl, a_W.imp (x_app hB (by omega) l h2a hno.1 v3 w4 hno.2.2.2.1 (Nat.lt_of_lt_of_le b2 hno.2.2.1.2.1)) ?_⟩
        rintro _ ⟨s5, v6, P5, c5, rfl, app⟩
        have h75 := app.1.2.2.2.2.2.2.1
        have hA5 : XAt t n ns i s5 := (hA4.keep hno.2.2.2.2.1).keep (fun k hk => app.2.2.2.2.1 k (by omega))
        refine ⟨_, s5, l, rfl, fun c => absurd c (by omega), fun _ => ⟨⟨by omega, by omega⟩, ?_⟩⟩
        rw [h75.1, natc]
        have hR6 := XRs.put app.1 v6 app.2.2.2.1 (z96 (kdT t n i)) (by omega)
        have zk : ∀ k, k ≠ 38 → k ≠ 43 → k ≠ 44 → (zu (zu (zu s5 43 (wc0 + st'.length) (v6 : Int)) 44 (wc0 + st'.length) (z96 (kdT t n i))) 38 8 (((wc0 + st'.length : Nat) : Int) + 1)) k = s5 k := fun k a b c => by rw [zu_ne _ _ _ _ _ a, zu_ne _ _ _ _ _ c, zu_ne _ _ _ _ _ b]
        have z389 : zz (zu (zu (zu s5 43 (wc0 + st'.length) (v6 : Int)) 44 (wc0 + st'.length) (z96 (kdT t n i))) 38 8 (((wc0 + st'.length : Nat) : Int) + 1)) 38 9 = zz s5 38 9 := by rw [zz_ne _ _ _ _ _ _ (by omega), zz_ne _ _ _ _ _ _ (by omega), zz_ne _ _ _ _ _ _ (by omega)]
        have z43 : zz (zu (zu (zu s5 43 (wc0 + st'.length) (v6 : Int)) 44 (wc0 + st'.length) (z96 (kdT t n i))) 38 8 (((wc0 + st'.length : Nat) : Int) + 1)) 43 (wc0 + st'.length) = v6 := by rw [zz_ne _ _ _ _ _ _ (by omega), zz_ne _ _ _ _ _ _ (by omega), zz_same _ _ _ ⟨by omega, by have := app.2.2.2.1; have := app.1.2.2.2.2.1; omega⟩]
        have z44 : zz (zu (zu (zu s5 43 (wc0 + st'.length) (v6 : Int)) 44 (wc0 + st'.length) (z96 (kdT t n i))) 38 8 (((wc0 + st'.length : Nat) : Int) + 1)) 44 (wc0 + st'.length) = z96 (kdT t n i) := by rw [zz_ne _ _ _ _ _ _ (by omega), zz_same _ _ _ rg]
        have zf : ∀ k j, 43 ≤ k → k ≤ 44 → j < wc0 + st'.length → zz (zu (zu (zu s5 43 (wc0 + st'.length) (v6 : Int)) 44 (wc0 + st'.length) (z96 (kdT t n i))) 38 8 (((wc0 + st'.length : Nat) : Int) + 1)) k j = zz s5 k j := fun k j h1 h2 hj => by rw [zz_ne _ _ _ _ _ _ (by omega), zz_ne _ _ _ _ _ _ (by omega), zz_ne _ _ _ _ _ _ (by omega)]
        generalize (zu (zu (zu s5 43 (wc0 + st'.length) (v6 : Int)) 44 (wc0 + st'.length) (z96 (kdT t n i))) 38 8 (((wc0 + st'.length : Nat) : Int) + 1)) = s6 at *
        have hA6 : XAt t n ns i s6 := hA5.keep (fun k hk => zk k (by omega) (by omega) (by omega))
        refine a_W.imp (x_advance hB (by omega) hcap l i h0 l1 (hA6.1 h0)) ?_
        rintro _ ⟨s14, rfl, hA14, f14, -⟩
        refine ⟨s14, l, rfl, ?_⟩
        have hR14 := hR6.x f14
        have se : SE s5 s14 := SE.tr ⟨fun k hk => zk k (by omega) (by omega) (by omega), z389⟩ f14.se
        have fr6 : XFr c5 sc (wc0 + st'.length) s5 s6 := ⟨fun k hk => zk k (by omega) (by omega) (by omega), fun j _ => zz_of (zk 1 (by decide) (by decide) (by decide)) j, zz_of (zk 17 (by decide) (by decide) (by decide)) 9, fun k j h1 h2 _ => zz_of (zk k (by omega) (by omega) (by omega)) j, fun k j h1 h2 _ => zz_of (zk k (by omega) (by omega) (by omega)) j, zf⟩
        have fr14 : XFr c5 sc (wc0 + st'.length) s5 s14 := fr6.tr (f14.lo.fr c5 sc (wc0 + st'.length)) XFrr
        have e45 : zz s14 45 7 = zz s5 45 7 := zz_of (se.1 45 (by decide)) 7
        have mo14 : XMo P5 c5 P5 c5 s5 s14 := ⟨Nat.le_refl _, Nat.le_refl _, fun e => by rw [e45]; exact e, fun e => by rw [zz_of (se.1 17 (by decide)) 10]; exact e⟩
        have hno3 := hno.2.2.1
        have app3 := app.2.2.1
        have f0 : XFr c0 sc wc0 s0 s14 := ((b3.tr (hno.2.1.wm (wc := wc0) (by omega)) ⟨b4.2.1, Nat.le_refl _, Nat.le_refl _⟩).tr (app.2.1.wm (wc := wc0) (by omega)) ⟨Nat.le_trans b4.2.1 hno3.2.1, Nat.le_refl _, Nat.le_refl _⟩).tr (fr14.wm (wc := wc0) (by omega)) ⟨Nat.le_trans (Nat.le_trans b4.2.1 hno3.2.1) app3.2.1, Nat.le_refl _, Nat.le_refl _⟩
        have m0 : XMo P0 c0 P5 c5 s0 s14 := ((b4.tr hno3).tr app3).tr mo14
        have hc5 := app.1.2.2.2.2.1
        have flt : ∀ (s16 : aZ) (W w2 P2 c2 : Nat) (f : Int) (j : Nat), XRs tn ta cn ct P2 c2 sc W s16 → wc0 ≤ W → w2 < c2 → XFt t n ns f j s16 → XFr c5 sc wc0 s14 s16 → XMo P5 c5 P2 c2 s14 s16 → a_W d 57 14 [.ref 38, iv (dep : Int), iv (wc0 : Int), iv (w2 : Int), iv ((k : Int) + 1), iv (z96 (kdT t n i))] [] (mkH B s16 l) (XTo t n ns tn ta cn ct P0 c0 sc wc0 i0 env (.inl (f, j)) B s0 l) := by
          intro s16 W w2 P2 c2 f j q1 q2 q3 q4 q5 q6
          rw [show (k : Int) + 1 = ((k + 1 : Nat) : Int) by omega]
          exact x_endF hB h2a d sc wc0 i0 P0 c0 env s0 l (by omega) _ (k + 1) (by omega) _ q1 q2 q3 q4 (f0.tr q5 ⟨m0.2.1, Nat.le_refl _, Nat.le_refl _⟩) (m0.tr q6)
        cases N with
        | zero => cases h
        | succ M =>
          rw [ptm_0] at h
          rcases pLk_some h with ⟨h1, e⟩ | ⟨h1, h⟩
          · have gF := hA14.f h1
            subst e
            refine a_W.imp (x_toper0F hB (by omega) l _ gF) ?_
            rintro _ rfl
            exact ⟨_, s14, l, rfl, flt s14 _ 0 P5 c5 _ _ hR14 (by omega) (by omega) gF (XFr.rf _ _ _ _) (XMo.rf _ _ _)⟩
          have hE14 : XEn t n s14 sc env := hE.fr f0 (Nat.le_refl _) m0.2.2.1
          rcases pBd_some h with ⟨e, r1, e2⟩ | ⟨a, j, r1, r2⟩
          · refine a_W.imp (hH M (by omega) (d - 1) dep (i + 1) P5 c5 sc _ s14 l env _ (by omega) hdep r1 (by omega) hA14 hR14 hE14 (by omega)) ?_
            rintro _ ⟨s16, w2, P2, c2, rfl, ⟨W, hWW, y1⟩, y2, y3, y4, ⟨T, j, hh, -⟩ | ⟨f, j, hh, gF⟩⟩
            · cases hh
            cases hh
            subst e2
            exact ⟨_, s16, l, rfl, flt s16 W w2 P2 c2 f j y1 (by have := hWW.1; omega) y2 gF (y3.wm (by omega)) y4⟩
          · obtain ⟨q1, q2, q3, -, q5, -, -⟩ := ptm_R t n M 2 dep [] noT (i + 1) _ (by decide) (by omega) (I0D _ _ _ _ _ (by omega)) r1
            have q3 : i + 1 < j := q3 (by decide) (by decide)
            have q2 : j ≤ 6000 := q2
            refine a_W.imp (hH M (by omega) (d - 1) dep (i + 1) P5 c5 sc (wc0 + (st'.length + 1)) s14 l env _ (by omega) hdep r1 (by omega) hA14 hR14 hE14 (by omega)) ?_
            rintro _ ⟨s16, w2, P2, c2, rfl, hop⟩
            have hLp := XLp.push hρ hi tOk' ⟨i, hx'.1⟩ z2 hno app se fr14 ((zz_of (f14.hi 43 (by decide)) _).trans z43) (by rw [zz_of (f14.hi 44 (by decide)) _, z44, ekd]) ⟨j, q5.1⟩ hop
            refine ⟨_, s16, l, rfl, ?_⟩
            rw [show (k : Int) + 1 = ((k + 1 : Nat) : Int) by omega]
            have hA16 : XAt t n ns j s16 := by
              rcases hop.2.2.2.2 with ⟨T, j', hh, g, -⟩ | ⟨f, j', hh, -⟩
              · cases hh
                exact g
              · cases hh
            rw [ekd, natc] at r2
            refine ih M (by omega) (fun N' hN => hH N' (by omega)) ((kd, x') :: st') a j (k + 1) w2 P2 c2 s16 _ res r2 q2 (by omega) (fun q hq => ?_) q5 hA16 hLp (by rw [List.length_cons]; omega)
            rcases List.mem_cons.mp hq with rfl | hq
            · exact ⟨⟨by show 14 ≤ kd; omega, by show kd ≤ 22; omega⟩, hx'.mono (by omega)⟩
            · exact (hs'.mono (by omega)) q hq
      refine ⟨fun n5 => go (fun c => n5 c.1), fun e5 => ⟨⟨by omega, by omega⟩, fun hle => go ?_, fun hgt => ?_⟩⟩
      · rintro ⟨-, ht⟩
        rw [← e5, eS] at ht
        have : st' = [] := List.eq_nil_of_length_eq_zero (by omega)
        rw [this] at ht
        exact absurd ht (by decide)
      · cases st' with
        | nil =>
          have h7' : zz s4 38 8 = ((wc0 + 0 : Nat) : Int) := h7.1
          omega
        | cons q' st'' =>
          have h7' : zz s4 38 8 = ((wc0 + (st''.length + 1) : Nat) : Int) := h7.1
          have h72 : wc0 + (st''.length + 1) ≤ 3001 := h7.2
          have e8 : (zz s4 38 8 - 1).toNat = wc0 + st''.length := by omega
          rw [e8, b5.1]
          refine ⟨⟨by omega, by omega⟩, fun n5 => go ?_, fun y5 => ?_⟩
          · rintro ⟨-, ht⟩
            rw [← e5, eS] at ht
            exact n5 (of_decide_eq_true ht)
          · have ht : z96 (kdT t n i) = 5 ∧ top5 (stl 5 st x).1 = true := ⟨e5, by rw [← e5, eS]; exact decide_eq_true y5⟩
            rw [if_pos ht] at h
            cases h
            obtain ⟨gF, fF⟩ := (hA4.1 h0).die 2 (by decide) (by decide)
            refine ⟨fun c => absurd (hA4.1 h0).2.1 c, fun _ => ⟨_, w4, P4, c4, rfl, ⟨_, ⟨by omega, Or.inr ⟨_, rfl⟩⟩, b1.x fF⟩, b2, b3.tr (fF.lo.fr c0 sc wc0) XFrr, b4.tr ⟨Nat.le_refl _, Nat.le_refl _, fun e => by rw [zz_of (fF.hi 45 (by decide)) 7]; exact e, fun e => by rw [zz_of (fF.hi 17 (by decide)) 10]; exact e⟩, Or.inr ⟨2, i, rfl, gF⟩⟩⟩
theorem x_read (hB : a_Can B) (hcap : XCap t n ns) (h2a : ta.getD 2 0 = 2) (hW : ∀ c, c < cn.length → wfC tn.length ta (ct.getD c cNo)) (h12 : 12 ≤ cn.length) (N : Nat) (hH : ∀ N', N' < N → XH2 t n ns tn ta cn ct B N') : XH0 t n ns tn ta cn ct B N := by
  intro d dep i P c sc wc s l env res hd hdep h hi hA hR hE hwc
  have h7 := hR.2.2.2.2.2.2.1
  have hc := hR.2.2.2.2.1
  have hρ : ∀ k ∈ scT s sc, k < P := scT_lt sc hR.2.2.2.2.2.2.2.2.2.1
  cases N with
  | zero => cases h
  | succ N =>
    rw [ptm_0] at h
    refine w57_0 hB (by omega) _ s l ?_
    rw [h7.1]
    rcases pLk_some h with ⟨h0, e⟩ | ⟨h0, h⟩
    · have gF := hA.f h0
      subst e
      refine a_W.imp (x_toper0F hB (by omega) l _ gF) ?_
      rintro _ rfl
      exact ⟨_, s, l, rfl, x_endF hB h2a d sc wc i P c env s l (by omega) _ 0 (by omega) _ (w := 0) hR (Nat.le_refl _) (by omega) gF (XFr.rf _ _ _ _) (XMo.rf _ _ _)⟩
    rcases pBd_some h with ⟨e, r1, e2⟩ | ⟨a, j, r1, r2⟩
    · refine a_W.imp (hH N (Nat.lt_succ_self _) (d - 1) dep i P c sc wc s l env _ (by omega) hdep r1 hi hA hR hE hwc) ?_
      rintro _ ⟨s16, w2, P2, c2, rfl, ⟨W, hWW, y1⟩, y2, y3, y4, ⟨T, j, hh, -⟩ | ⟨f, j, hh, gF⟩⟩
      · cases hh
      cases hh
      subst e2
      exact ⟨_, s16, l, rfl, x_endF hB h2a d sc wc i P c env s l (by omega) _ 0 (by omega) _ y1 hWW.1 y2 gF y3 y4⟩
    · obtain ⟨q1, q2, q3, -, q5, -, -⟩ := ptm_R t n N 2 dep [] noT i _ (by decide) hi (I0D _ _ _ _ _ (by omega)) r1
      have q3 : i < j := q3 (by decide) (by decide)
      have q2 : j ≤ 6000 := q2
      refine a_W.imp (hH N (Nat.lt_succ_self _) (d - 1) dep i P c sc wc s l env _ (by omega) hdep r1 hi hA hR hE hwc) ?_
      rintro _ ⟨s16, w2, P2, c2, rfl, hop⟩
      have y1 := hop.R
      obtain ⟨-, y2, y3, y4, ⟨a', j', hh, yA, yo, yG⟩ | ⟨f, j', hh, -⟩⟩ := hop
      rotate_left
      · cases hh
      cases hh
      have e1 : stV [] = 0 := rfl
      have e2 : stW [] = 0 := rfl
      have e3 : stC [] = 0 := rfl
      have e4 : ([] : aSt).length = 0 := rfl
      refine ⟨_, s16, l, rfl, x_ops hB hcap h2a hW h12 d dep sc wc i P c env s l hd hdep hρ hE N (fun N' hN => hH N' (by omega)) [] a j 0 w2 P2 c2 s16 _ res r2 q2 (by omega) (fun q hq => absurd hq List.not_mem_nil) q5 yA ⟨y1, y2, y3, y4, trivial, fun e => ?_, fun hG => ?_⟩ (by omega)⟩
      · obtain ⟨z1, z2⟩ := yo e
        exact ⟨z1, by omega⟩
      · obtain ⟨g1, g2, g3, g4⟩ := hG
        exact ⟨i, s, P, c, ⟨rfl, rfl, rfl, rfl⟩, yG ⟨g1, g2, by omega, by omega⟩, y3, y4⟩
/-- THE READER READS TERMS AS THEY PARSE -/
theorem x_terms (hB : a_Can B) (hcap : XCap t n ns) (hta : ∀ i, ta.getD i 0 ≤ 2) (h2 : 2 < tn.length) (h2a : ta.getD 2 0 = 2) (hW : ∀ c, c < cn.length → wfC tn.length ta (ct.getD c cNo)) (hcn : CnO cn) : ∀ N, XH0 t n ns tn ta cn ct B N ∧ XH4 t n ns tn ta cn ct B N := by
  intro N
  induction N using Nat.strongRecOn with
  | _ N ih =>
    refine ⟨x_read hB hcap h2a hW hcn.1 N (fun N' hN => x_operand hB hcap hta h2 h2a hW hcn N' (fun N2 h => ih N2 (by omega))), ?_⟩
    cases N with
    | zero => intro d dep i P c sc wc s l env res _ _ h; cases h
    | succ N => exact x_atom hB hcap hta h2 h2a hW hcn.1 N (ih N (Nat.lt_succ_self _)).1
end
