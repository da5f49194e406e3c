/-! THE READER READS OPERANDS; WHAT WAITS IS APPLIED -/
def stV : aSt → Nat
  | [] => 0
  | q :: st => tmW q.2 + 2 + stV st
def stD : aSt → Nat
  | [] => 0
  | q :: st => csT q.2 + 42 + stD st
theorem stV_le : ∀ st : aSt, stV st + st.length = stW st ∧ stD st + 2 * st.length = stC st := by
  intro st
  induction st with
  | nil => exact ⟨rfl, rfl⟩
  | cons q st ih =>
    obtain ⟨h1, h2⟩ := ih
    rw [List.length_cons]
    exact ⟨by show tmW q.2 + 2 + stV st + _ = tmW q.2 + 3 + stW st; omega, by show csT q.2 + 42 + stD st + _ = csT q.2 + 44 + stC st; omega⟩
/-- the strengths of what waits -/
def StS (s : aZ) (wc0 : Nat) : aSt → Prop
  | [] => True
  | q :: st => zz s 44 (wc0 + st.length) = z96 (q.1 : Int) ∧ StS s wc0 st
theorem StS.keep {s s2 : aZ} {wc0 : Nat} : ∀ st : aSt, (∀ k, k < wc0 + st.length → zz s2 44 k = zz s 44 k) → StS s wc0 st → StS s2 wc0 st := by
  intro st
  induction st with
  | nil => intro _ _; trivial
  | cons q st ih =>
    intro he h
    rw [List.length_cons] at he
    exact ⟨(he _ (by omega)).trans h.1, ih (fun k hk => he k (by omega)) h.2⟩
section
variable {t : Nat → Int} {n : Nat} {ns tn : List (List Int)} {ta : List Int} {cn : List (List Int)} {ct : List aT} {B : aH}
def XH2 (t : Nat → Int) (n : Nat) (ns tn : List (List Int)) (ta : List Int) (cn : List (List Int)) (ct : List aT) (B : aH) (N : Nat) : Prop := ∀ (d dep i P c sc wc : Nat) (s : aZ) (l : aZL) (env : List (List Int)) (res : (Int × Nat) ⊕ (aT × Nat)), 59 + 5 * (40 - dep) ≤ d → dep ≤ 40 → ptm t n N 2 dep [] noT i = some res → i ≤ 6000 → XAt t n ns i s → XRs tn ta cn ct P c sc wc s → XEn t n s sc env → 2 * wc ≤ i → a_W d 58 0 [.ref 38, iv (dep : Int), .retAddr 0, .retAddr 0, .retAddr 0] [] (mkH B s l) (XTo t n ns tn ta cn ct P c sc wc i env res B s l)
theorem x_tatomsF (hB : a_Can B) {d : Nat} (hd : 6 ≤ d) (l : aZL) (x1 : Int) {f : Int} {i : Nat} {s : aZ} (h : XFt t n ns f i s) : a_W d 92 0 [.ref 38, iv x1, .retAddr 0, .retAddr 0] [] (mkH B s l) (fun q => q = (.inl (some (iv 0)), mkH B s l)) := by
  have k0 := h.k0
  refine w92_0 hB (by omega) _ s l (a_W.imp (x_tatomF hB (by omega) l x1 h) ?_)
  rintro _ rfl
  exact ⟨_, s, l, rfl, w92_8 hB (by omega) _ _ _ s l ⟨by decide, fun c => absurd c (by decide), fun _ => ⟨fun _ => w92_48 hB _ _ _ s l rfl, fun c => absurd (by rw [k0]; decide) c⟩⟩⟩
theorem x_oloop (hB : a_Can B) (hcap : XCap t n ns) (hta : ∀ i, ta.getD i 0 ≤ 2) (h2 : 2 < tn.length) (h2a : ta.getD 2 0 = 2) (hW : ∀ c, c < cn.length → wfC tn.length ta (ct.getD c cNo)) (hcn : CnO cn) (d dep i0 P c sc wc : Nat) (s0 : aZ) (l : aZL) (env : List (List Int)) (hd : 59 + 5 * (40 - dep) ≤ d) (hdep : dep ≤ 40) (hR : XRs tn ta cn ct P c sc wc s0) (hE : XEn t n s0 sc env) (hwc : 2 * wc ≤ i0) : ∀ N, (∀ N', N' < N → XH0 t n ns tn ta cn ct B N' ∧ XH4 t n ns tn ta cn ct B N') → ∀ (i k : Nat) (s : aZ) (res : (Int × Nat) ⊕ (aT × Nat)), ptm t n N 2 dep [] noT i = some res → i ≤ 6000 → k ≤ i → i0 ≤ i → FrX s0 s → XAt t n ns i s → a_W d 58 2 [.ref 38, iv (dep : Int), iv (k : Int), .retAddr 0, .retAddr 0] [] (mkH B s l) (XTo t n ns tn ta cn ct P c sc wc i0 env (mapN k res) B s0 l) := by
  have hρ : ∀ k ∈ scT s0 sc, k < P := scT_lt sc hR.2.2.2.2.2.2.2.2.2.1
  intro N
  induction N with
  | zero => intro _ i k s res h; cases h
  | succ N ih =>
    intro hH i k s res h hi hk hi0 hf hA
    have hR1 := hR.x hf
    have hE1 := hE.x hf
    have hok : ∀ T j, res = .inr (T, j) → j ≤ 6000 ∧ ∃ q, tmOk t n q T := by
      rintro T j rfl
      obtain ⟨-, k2, -, -, k5, -, -⟩ := ptm_R t n (N + 1) 2 dep [] noT i _ (by decide) hi (I0D _ _ _ _ _ (by omega)) h
      exact ⟨k2, j, k5.1⟩
    have fin : ∀ (s2 : aZ) (w P2 c2 : Nat), XTi t n ns tn ta cn ct P c sc wc i env res s s2 w P2 c2 → a_W d 58 64 [.ref 38, iv (dep : Int), iv (k : Int), iv (w : Int), iv 0] [] (mkH B s2 l) (XTo t n ns tn ta cn ct P c sc wc i0 env (mapN k res) B s0 l) := fun s2 w P2 c2 hX => x_nots hB h2a hW hcn d sc wc i0 P c s0 l env (by omega) hρ _ k (by omega) k 0 w P2 c2 s2 res (by omega) (hX.pre hf hi0) hok
    rw [ptm_2] at h
    rcases pLk_some h with ⟨h0, e⟩ | ⟨h0, h⟩
    · have gF := hA.f h0
      have k0 := gF.k0
      have go : a_W d 58 34 [.ref 38, iv (dep : Int), iv (k : Int), .retAddr 0, .retAddr 0] [] (mkH B s l) (XTo t n ns tn ta cn ct P c sc wc i0 env (mapN k res) B s0 l) := by
        refine w58_34 hB (by omega) _ _ s l ⟨fun _ => a_W.imp (x_tatomsF hB (by omega) l _ gF) ?_, fun c => absurd (by rw [k0]; decide) c⟩
        rintro _ rfl
        subst e
        exact ⟨_, s, l, rfl, fin s 0 P c (XTi.nil hR1 (FrX.rf s) gF)⟩
      exact w58_2 hB (by omega) _ _ s l ⟨⟨by omega, by omega⟩, fun _ => go, fun _ => ⟨fun _ => go, fun c => absurd (k0.symm.trans c) (by decide)⟩⟩
    have k6 := hA.k6 h0
    by_cases k13 : kdT t n i = 13
    · rw [if_pos k13] at h
      obtain ⟨b1, b2⟩ := lt_nx h0 (by omega)
      refine w58_2 hB (by omega) _ _ s l ⟨⟨by omega, by omega⟩, fun c => absurd c (by omega), fun _ => ⟨fun c => absurd (k6.trans k13) c, fun _ => a_W.imp (x_advance hB (by omega) hcap l i h0 b1 (hA.1 h0)) ?_⟩⟩
      rintro _ ⟨s4, rfl, hA4, f4, -⟩
      refine ⟨s4, l, rfl, ?_⟩
      rw [show (k : Int) + 1 = ((k + 1 : Nat) : Int) by omega]
      rcases pBd_some h with ⟨e, r1, e2⟩ | ⟨a, j, r1, r2⟩
      · subst e2
        exact ih (fun N' hN => hH N' (by omega)) (i + 1) (k + 1) s4 (.inl e) r1 (by omega) (by omega) (by omega) (hf.tr f4) hA4
      · cases r2
        exact ih (fun N' hN => hH N' (by omega)) (i + 1) (k + 1) s4 (.inr (a, j)) r1 (by omega) (by omega) (by omega) (hf.tr f4) hA4
    rw [if_neg k13] at h
    have go : a_W d 58 34 [.ref 38, iv (dep : Int), iv (k : Int), .retAddr 0, .retAddr 0] [] (mkH B s l) (XTo t n ns tn ta cn ct P c sc wc i0 env (mapN k res) B s0 l) := by
      by_cases k9 : z59 (kdT t n i) ≠ 0
      · rw [if_pos k9] at h
        refine w58_34 hB (by omega) _ _ s l ⟨fun c => absurd (by rw [← k6]; exact c) k9, fun _ => a_W.imp (x_binder hB hcap hta h2 h2a hW hcn N (fun N' hN => (hH N' (by omega)).1) (d - 1) dep i P c sc wc s l env res (by omega) hdep h0 k9 h hi hA hR1 hE1 (by omega)) ?_⟩
        rintro _ ⟨s2, w, P2, c2, rfl, hX⟩
        exact ⟨_, s2, l, rfl, fin s2 w P2 c2 hX⟩
      · rw [if_neg k9] at h
        refine w58_34 hB (by omega) _ _ s l ⟨fun _ => w92_0 hB (by omega) _ s l ?_, fun c => absurd (by rw [← k6]; exact c) k9⟩
        rcases pBd_some h with ⟨e, r1, e2⟩ | ⟨a, j, r1, r2⟩
        · refine a_W.imp ((hH N (Nat.lt_succ_self _)).2 (d - 1 - 1) dep i P c sc wc s l env _ (by omega) hdep r1 hi hA hR1 hE1 (by omega)) ?_
          rintro _ ⟨s2, w, P2, c2, rfl, hX⟩
          have k0 : zz s2 1 6 = 0 := by
            rcases hX.2.2.2.2 with ⟨_, _, hh, -⟩ | ⟨f, j, -, g⟩
            · cases hh
            · exact g.k0
          subst e2
          refine ⟨_, s2, l, rfl, w92_8 hB (by omega) _ _ _ s2 l ⟨by decide, fun c => absurd c (by decide), fun _ => ⟨fun _ => w92_48 hB _ _ _ s2 l ⟨_, s2, l, rfl, fin s2 w P2 c2 hX⟩, fun c => absurd (by rw [k0]; decide) c⟩⟩⟩
        · obtain ⟨k1, k2, k3, -, k5, -, -⟩ := ptm_R t n N 4 dep [] noT i _ (by decide) hi (I0D _ _ _ _ _ (by omega)) r1
          have k3 : i < j := k3 (by decide) (by decide)
          have k2 : j ≤ 6000 := k2
          refine a_W.imp ((hH N (Nat.lt_succ_self _)).2 (d - 1 - 1) dep i P c sc wc s l env _ (by omega) hdep r1 hi hA hR1 hE1 (by omega)) ?_
          rintro _ ⟨s2, w, P2, c2, rfl, hX⟩
          refine ⟨_, s2, l, rfl, a_W.imp (x_atoms hB h2a (d - 1) dep sc wc i P c s l env (by omega) hdep (scT_lt sc hR1.2.2.2.2.2.2.2.2.2.1) hE1 (by omega) N (fun N' hN => (hH N' (by omega)).2) j 0 w P2 c2 a s2 res r2 k2 (by omega) (by omega) k5 hX) ?_⟩
          rintro _ ⟨s3, w3, P3, c3, rfl, hX3⟩
          exact ⟨_, s3, l, rfl, fin s3 w3 P3 c3 hX3⟩
    exact w58_2 hB (by omega) _ _ s l ⟨⟨by omega, by omega⟩, fun _ => go, fun _ => ⟨fun _ => go, fun c => absurd (k6.symm.trans c) k13⟩⟩
theorem x_operand (hB : a_Can B) (hcap : XCap t n ns) (hta : ∀ i, ta.getD i 0 ≤ 2) (h2 : 2 < tn.length) (h2a : ta.getD 2 0 = 2) (hW : ∀ c, c < cn.length → wfC tn.length ta (ct.getD c cNo)) (hcn : CnO cn) (N : Nat) (hH : ∀ N', N' < N → XH0 t n ns tn ta cn ct B N' ∧ XH4 t n ns tn ta cn ct B N') : XH2 t n ns tn ta cn ct B N := by
  intro d dep i P c sc wc s l env res hd hdep h hi hA hR hE hwc
  have key := x_oloop hB hcap hta h2 h2a hW hcn d dep i P c sc wc s l env hd hdep hR hE hwc N hH i 0 s res h hi (by omega) (by omega) (FrX.rf s) hA
  refine w58_0 hB _ s l (a_W.imp key ?_)
  intro q hq
  cases res with
  | inl e => exact hq
  | inr r => exact hq
/-- what there must be room for -/
def G2 (s : aZ) (P c sc i W C : Nat) : Prop := zz s 45 7 = 0 ∧ zz s 17 11 = 0 ∧ c + W + sc ≤ 501 ∧ P + C ≤ i + 10999
/-- the operands that wait, the last first -/
def OCh (t : Nat → Int) (n : Nat) (ns tn : List (List Int)) (ta : List Int) (cn : List (List Int)) (ct : List aT) (ρ : List Nat) (env : List (List Int)) (sc wc0 : Nat) (s0 : aZ) (P0 c0 i0 : Nat) : aSt → Nat → aZ → Nat → Nat → Prop
  | [], j, s, P, c => j = i0 ∧ s = s0 ∧ P = P0 ∧ c = c0
  | q :: st, j, s, P, c => ∃ (j1 : Nat) (s1 : aZ) (P1 c1 w : Nat), OCh t n ns tn ta cn ct ρ env sc wc0 s0 P0 c0 i0 st j1 s1 P1 c1 ∧ RX t n ns tn ta ct ρ (apT (sgR cn q.1) (rsv t n cn q.2 env)) j1 j s1 P1 c1 s P c w ∧ zz s 43 (wc0 + st.length) = w ∧ XMo P1 c1 P c s1 s ∧ XFr c1 sc (wc0 + st.length) s1 s
theorem OCh.b {ρ : List Nat} {env : List (List Int)} {sc wc0 : Nat} {s0 : aZ} {P0 c0 i0 : Nat} : ∀ (st : aSt) (j : Nat) (s : aZ) (P c : Nat), (∀ q ∈ st, ∃ jj, tmOk t n jj q.2) → OCh t n ns tn ta cn ct ρ env sc wc0 s0 P0 c0 i0 st j s P c → c = c0 + stV st ∧ P + i0 ≤ P0 + stD st + j ∧ P0 ≤ P ∧ zz s 17 11 = zz s0 17 11 ∧ (zz s0 45 7 = 0 → zz s 45 7 = 0) := by
  intro st
  induction st with
  | nil =>
    rintro j s P c _ ⟨rfl, rfl, rfl, rfl⟩
    exact ⟨rfl, Nat.le_refl _, Nat.le_refl _, rfl, id⟩
  | cons q st ih =>
    rintro j s P c ho ⟨j1, s1, P1, c1, w, h1, h2, h3, h4, h5⟩
    obtain ⟨b1, b2, b3, b4, b5⟩ := ih j1 s1 P1 c1 (fun r hr => ho r (List.mem_cons_of_mem _ hr)) h1
    obtain ⟨jj, hq⟩ := ho q List.mem_cons_self
    have w1 := rsv_w t n jj cn q.2 env hq
    have w2 := sgR_w cn q.1
    have p := h2.1
    rw [tmW_ap, csT_ap, w1.1, w1.2.2, w2.1, w2.2.2] at p
    have e1 : stV (q :: st) = tmW q.2 + 2 + stV st := rfl
    have e2 : stD (q :: st) = csT q.2 + 42 + stD st := rfl
    have hm := h4.1
    exact ⟨by omega, by omega, by omega, h2.2.1.2.trans b4, fun _ => h2.2.1.1⟩
/-- behind an operand x, st waits -/
def XLp (t : Nat → Int) (n : Nat) (ns tn : List (List Int)) (ta : List Int) (cn : List (List Int)) (ct : List aT) (sc wc0 i0 P0 c0 : Nat) (env : List (List Int)) (s0 : aZ) (st : aSt) (x : aT) (i : Nat) (s : aZ) (P c w : Nat) : Prop := XRs tn ta cn ct P c sc (wc0 + st.length) s ∧ w < c ∧ XFr c0 sc wc0 s0 s ∧ XMo P0 c0 P c s0 s ∧ StS s wc0 st ∧ (zz s 45 7 = 0 → zz s0 45 7 = 0 ∧ c = c0 + stV st + tmW x) ∧ (G2 s0 P0 c0 sc i0 (stW st + tmW x) (stC st + csT x) → ∃ (j1 : Nat) (s1 : aZ) (P1 c1 : Nat), OCh t n ns tn ta cn ct (scT s0 sc) env sc wc0 s0 P0 c0 i0 st j1 s1 P1 c1 ∧ RX t n ns tn ta ct (scT s0 sc) (rsv t n cn x env) j1 i s1 P1 c1 s P c w ∧ XFr c1 sc (wc0 + st.length) s1 s ∧ XMo P1 c1 P c s1 s)
theorem XRs.pw {P c sc wc : Nat} {s : aZ} (h : XRs tn ta cn ct P c sc (wc + 1) s) : XRs tn ta cn ct P c sc wc (zu s 38 8 (wc : Int)) := by
  obtain ⟨h1, h2, h3, h4, h5, h6, h7, h8, h9, h10, h11⟩ := h
  have z : ∀ k j, k ≠ 38 → zz (zu s 38 8 (wc : Int)) k j = zz s k j := fun k j hk => zz_ne _ _ _ _ _ _ (by omega)
  have zk : ∀ k, k ≠ 38 → (zu s 38 8 (wc : Int)) k = s k := fun k hk => zu_ne _ _ _ _ _ hk
  refine ⟨h1.z (z 17 8 (by decide)) (fun k k1 k2 j => z k j (by omega)), h2, h3.fr (fun k k1 k2 => zk k (by omega)), h4.fr (fun k k1 k2 => zk k (by omega)), ⟨(z 45 6 (by decide)).trans h5.1, h5.2⟩, ⟨(z 39 3 (by decide)).trans h6.1, h6.2⟩, ⟨zz_same _ _ _ ⟨by omega, by omega⟩, by omega⟩, ⟨(z 36 4 (by decide)).trans h8.1, (z 50 0 (by decide)).trans h8.2⟩, fun j hj => ?_, fun j hj => ?_, fun j hj => ?_⟩
  · rw [z 47 j (by decide), z 48 j (by decide), z 49 j (by decide)]; exact h9 j hj
  · rw [z 42 j (by decide)]; exact h10 j hj
  · rw [z 43 j (by decide)]; exact h11 j (by omega)
theorem SE.z38 (s : aZ) (x : Int) : SE s (zu s 38 8 x) := ⟨fun k h => zu_ne _ _ _ _ _ (by omega), zz_ne _ _ _ _ _ _ (by omega)⟩
theorem XFr.z38 (s : aZ) (x : Int) (c sc wc : Nat) : XFr c sc wc s (zu s 38 8 x) := ⟨fun k hk => zu_ne _ _ _ _ _ (by omega), fun j _ => zz_ne _ _ _ _ _ _ (by omega), zz_ne _ _ _ _ _ _ (by omega), fun k j h1 h2 _ => zz_ne _ _ _ _ _ _ (by omega), fun k j h1 h2 _ => zz_ne _ _ _ _ _ _ (by omega), fun k j h1 h2 _ => zz_ne _ _ _ _ _ _ (by omega)⟩
theorem x_apply (hB : a_Can B) (h2a : ta.getD 2 0 = 2) (d sc wc0 i0 P0 c0 : Nat) (env : List (List Int)) (s0 : aZ) (l : aZL) (hd : 10 ≤ d) (hρ : ∀ k ∈ scT s0 sc, k < P0) (g : Int) (hg : inR g) (i : Nat) (hi : i ≤ 6000) (x3 : Int) : ∀ (st : aSt) (x : aT) (w P c : Nat) (s : aZ), (∀ q ∈ st, ∃ jj, tmOk t n jj q.2) → (∃ jj, tmOk t n jj x) → (∀ q ∈ st, 10 ≤ q.1 ∧ q.1 ≤ 22) → XLp t n ns tn ta cn ct sc wc0 i0 P0 c0 env s0 st x i s P c w → a_W d 103 3 [.ref 38, iv (wc0 : Int), iv g, iv x3, iv (w : Int)] [] (mkH B s l) (fun q => ∃ (s2 : aZ) (w2 P2 c2 : Nat), q = (.inl (some (iv (w2 : Int))), mkH B s2 l) ∧ (∀ k, k ≤ 7 → s2 k = s k) ∧ XLp t n ns tn ta cn ct sc wc0 i0 P0 c0 env s0 (stl g st x).1 (stl g st x).2 i s2 P2 c2 w2) := by
  intro st
  induction st with
  | nil =>
    intro x w P c s _ _ _ hX
    have h7 := hX.1.2.2.2.2.2.2.1
    have h7' : zz s 38 8 = ((wc0 + 0 : Nat) : Int) := h7.1
    exact w103_3 hB (by omega) _ _ _ _ s l ⟨⟨by omega, by have : wc0 + 0 ≤ 3001 := h7.2; omega⟩, fun _ => w103_62 hB _ _ _ _ s l ⟨s, w, P, c, rfl, fun _ _ => rfl, hX⟩, fun c => absurd c (by omega)⟩
  | cons q st ih =>
    intro x w P c s ho hox hoq hX
    have hX0 := hX
    obtain ⟨a1, a2, a3, a4, ⟨a5, a5'⟩, a6, a7⟩ := hX0
    have hlen : (q :: st).length = st.length + 1 := rfl
    have h7 := a1.2.2.2.2.2.2.1
    rw [hlen] at h7
    have h11 := a1.2.2.2.2.2.2.2.2.2.2
    rw [hlen] at h11
    have e8 : zz s 38 8 - 1 = ((wc0 + st.length : Nat) : Int) := by omega
    refine w103_3 hB (by omega) _ _ _ _ s l ⟨⟨by omega, by omega⟩, fun c => absurd c (by omega), fun _ => ⟨⟨by omega, by omega⟩, hg, ?_⟩⟩
    rw [e8, natc, a5]
    have same : z104 (z96 (q.1 : Int)) g = 0 → a_W d 103 62 [.ref 38, iv (wc0 : Int), iv g, iv x3, iv (w : Int)] [] (mkH B s l) (fun q' => ∃ (s2 : aZ) (w2 P2 c2 : Nat), q' = (.inl (some (iv (w2 : Int))), mkH B s2 l) ∧ (∀ k, k ≤ 7 → s2 k = s k) ∧ XLp t n ns tn ta cn ct sc wc0 i0 P0 c0 env s0 (stl g (q :: st) x).1 (stl g (q :: st) x).2 i s2 P2 c2 w2) := fun e => by
      rw [stl_c, if_neg (fun c => c e)]
      exact w103_62 hB _ _ _ _ s l ⟨s, w, P, c, rfl, fun _ _ => rfl, hX⟩
    refine ⟨same, fun e => ?_⟩
    rw [stl_c, if_pos e]
    have hcell := h11 (wc0 + st.length) (by omega)
    obtain ⟨wq, ewq⟩ : ∃ y : Nat, zz s 43 (wc0 + st.length) = y := ⟨(zz s 43 (wc0 + st.length)).toNat, by omega⟩
    rw [ewq] at hcell ⊢
    have hRp : XRs tn ta cn ct P c sc (wc0 + st.length) (zu s 38 8 ((wc0 + st.length : Nat) : Int)) := XRs.pw (by rw [hlen] at a1; exact a1)
    have sep := SE.z38 s ((wc0 + st.length : Nat) : Int)
    have frp := fun c sc wc => XFr.z38 s ((wc0 + st.length : Nat) : Int) c sc wc
    have zk : ∀ k, k ≠ 38 → (zu s 38 8 ((wc0 + st.length : Nat) : Int)) k = s k := fun k hk => zu_ne _ _ _ _ _ hk
    generalize (zu s 38 8 ((wc0 + st.length : Nat) : Int)) = sp at *
    have e45 : zz sp 45 7 = zz s 45 7 := zz_of (zk 45 (by decide)) 7
    have e10 : zz sp 17 10 = zz s 17 10 := zz_of (zk 17 (by decide)) 10
    refine a_W.imp (x_app hB (by omega) l h2a hRp wq w (by omega) a2) ?_
    rintro _ ⟨s6, w6, P6, c6, rfl, p1, p2, p3, p4, p5, p6, p7⟩
    refine ⟨_, s6, l, rfl, ?_⟩
    have mo : XMo P c P6 c6 s s6 := ⟨p3.1, p3.2.1, fun e => p3.2.2.1 (by rw [e45]; exact e), fun e => p3.2.2.2 (by rw [e10]; exact e)⟩
    obtain ⟨w1, w2, w3⟩ := op_w q.1 q.2 x
    have sw : stW (q :: st) = tmW q.2 + 3 + stW st := rfl
    have sv : stV (q :: st) = tmW q.2 + 2 + stV st := rfl
    have sC : stC (q :: st) = csT q.2 + 44 + stC st := rfl
    have sD : stD (q :: st) = csT q.2 + 42 + stD st := rfl
    obtain ⟨jq, hq⟩ := ho q List.mem_cons_self
    obtain ⟨jx, hx⟩ := hox
    have hqr := hoq q List.mem_cons_self
    have nx : XLp t n ns tn ta cn ct sc wc0 i0 P0 c0 env s0 st (opT q.1 q.2 x) i s6 P6 c6 w6 := by
      refine ⟨p1, p4, a3.tr ((frp c0 sc wc0).tr p2 ⟨a4.2.1, Nat.le_refl _, by omega⟩) XFrr, a4.tr mo, a5'.keep st (fun k _ => (zz_of (p5 44 (by decide)) k).trans (zz_of (zk 44 (by decide)) k)), fun e => ?_, fun hG => ?_⟩
      · obtain ⟨e1, e2⟩ := p6 e
        obtain ⟨e3, e4⟩ := a6 (e45.symm.trans e1)
        exact ⟨e3, by omega⟩
      · obtain ⟨g1, g2, g3, g4⟩ := hG
        obtain ⟨j1, s1, P1, c1, hO, hXx, hfx, hmx⟩ := a7 ⟨g1, g2, by omega, by omega⟩
        obtain ⟨b1, b2, b3, b4, b5⟩ := OCh.b (q :: st) j1 s1 P1 c1 ho hO
        obtain ⟨j2, s2, P2, c2, wq', hO2, hXq, h43, hmq, hfq⟩ := hO
        obtain ⟨d1, d2, d3, d4, d5⟩ := OCh.b st j2 s2 P2 c2 (fun r hr => ho r (List.mem_cons_of_mem _ hr)) hO2
        have eq' : wq = wq' := by
          have := hfx.2.2.2.2.2 43 (wc0 + st.length) (by decide) (by decide) (by rw [hlen]; omega)
          omega
        subst eq'
        have y1 := rsv_w t n jx cn x env hx
        have px := hXx.1
        rw [y1.1, y1.2.2] at px
        have y2 := rsv_w t n jq cn q.2 env hq
        have y3 := sgR_w cn q.1
        have h1 := tmH_le x
        have h2 := tmH_le q.2
        have sl := stV_le (q :: st)
        rw [hlen] at sl
        have hr := R2.mk hXq (hXx.to sep) (hfx.tr (frp c1 sc (wc0 + (q :: st).length)) XFrr) ⟨hmx.1, hmx.2.1, fun e => by rw [e45]; exact hmx.2.2.1 e, fun e => by rw [e10]; exact hmx.2.2.2 e⟩ (fun k hk => Nat.lt_of_lt_of_le (hρ k hk) d3) hmq.1
        have hA := p7 (e45.trans hXx.2.1.1) (by omega) (by omega)
        have hap := RX.ap hr (Or.inl ⟨rfl, by unfold sgR; split; exact (by decide : (6 : Nat) ≠ 2); exact coK_cn _ _, coK_rsv _ _ _ _ _⟩) (coK_rsv _ _ _ _ _) hA p2 p3 (fun k hk => p5 k (by omega)) (Nat.le_trans hmq.1 hmx.1) ⟨by rw [tmH_ap, y2.2.1, y3.2.1]; omega, by rw [y1.2.1]; omega⟩
        refine ⟨j2, s2, P2, c2, hO2, hap, ?_, (hmq.tr hmx).tr mo⟩
        exact hfq.tr ((hfx.wm (wc := wc0 + st.length) (by rw [hlen]; omega)).tr ((frp c1 sc (wc0 + st.length)).tr p2 ⟨hmx.2.1, Nat.le_refl _, Nat.le_refl _⟩) XFrr) ⟨hmq.2.1, Nat.le_refl _, Nat.le_refl _⟩
    refine a_W.imp (ih (opT q.1 q.2 x) w6 P6 c6 s6 (fun r hr => ho r (List.mem_cons_of_mem _ hr)) ⟨max jq jx, Or.inl ⟨rfl, Or.inl ⟨rfl, Or.inr (Or.inl ⟨rfl, hqr⟩), tmOk.mono (Nat.le_max_left _ _) _ hq⟩, tmOk.mono (Nat.le_max_right _ _) _ hx⟩⟩ (fun r hr => hoq r (List.mem_cons_of_mem _ hr)) nx) ?_
    rintro _ ⟨s9, w9, P9, c9, rfl, z1, z2⟩
    exact ⟨s9, w9, P9, c9, rfl, fun k hk => (z1 k hk).trans ((p5 k (by omega)).trans (zk k (by omega))), z2⟩
end
