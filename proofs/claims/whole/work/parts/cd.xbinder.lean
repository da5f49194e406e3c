/-! THE READER READS BINDERS -/
section
variable {t : Nat → Int} {n : Nat} {ns tn : List (List Int)} {ta : List Int} {cn : List (List Int)} {ct : List aT} {B : aH}
/-- a binder's variables, read so far -/
def XVs (t : Nat → Int) (n : Nat) (ns tn : List (List Int)) (ta : List Int) (cn : List (List Int)) (ct : List aT) (sc0 wc i0 P0 c0 : Nat) (env0 : List (List Int)) (s0 : aZ) (us : aSt) (i m P : Nat) (s : aZ) : Prop := XRs tn ta cn ct P c0 (sc0 + m) wc s ∧ XFr c0 sc0 wc s0 s ∧ XMo P0 c0 P c0 s0 s ∧ (zz s 45 7 = 0 → m = us.length ∧ zz s0 45 7 = 0) ∧ XEn t n s (sc0 + m) (envU t n us env0) ∧ (zz s0 45 7 = 0 → zz s0 17 11 = 0 → sc0 + us.length ≤ 500 → P0 + us.length ≤ i0 + 10999 → VCh t n ns tn ta sc0 s0 P0 i0 us i s P)
theorem VCh.o {sc0 : Nat} {s0 : aZ} {P0 i0 : Nat} {us : aSt} {j : Nat} {s : aZ} {P : Nat} (h : VCh t n ns tn ta sc0 s0 P0 i0 us j s P) (h0 : zz s0 45 7 = 0) : zz s 45 7 = 0 := by
  cases us with
  | nil =>
    obtain ⟨-, rfl, -⟩ := h
    exact h0
  | cons q us => exact (VCh.P _ _ _ _ h).2.2.2.1 (by intro c; cases c)
theorem XVs.step {sc0 wc i0 P0 c0 : Nat} {env0 : List (List Int)} {s0 : aZ} {us : aSt} {i m P : Nat} {s s2 : aZ} {P2 j N dep : Nat} {T : aT} (hi : i ≤ 6000) (hp : pvr t n N dep i = some (.inr (T, j))) (h : XVs t n ns tn ta cn ct sc0 wc i0 P0 c0 env0 s0 us i m P s) (hf : XFr c0 (sc0 + m) wc s s2) (hm : XMo P c0 P2 c0 s s2) (hor : (sc0 + m = 500 ∧ XRs tn ta cn ct P2 c0 (sc0 + m) wc s2 ∧ zz s2 45 7 ≠ 0) ∨ (sc0 + m < 500 ∧ XRs tn ta cn ct P2 c0 (sc0 + m + 1) wc s2 ∧ zz s2 45 7 = zz s 45 7)) (h40 : sc0 + m < 500 → zz s2 40 (sc0 + m) = stT t n (vtk t n i) ∧ zz s2 41 (sc0 + m) = tkE t n (stT t n (vtk t n i))) (hV : zz s 45 7 = 0 → zz s 17 11 = 0 → sc0 + m < 500 → P + 1 ≤ i + 10999 → VX t n ns tn ta T i j s P s2 P2 (zz s2 42 (sc0 + m)).toNat) : ∃ m2, XVs t n ns tn ta cn ct sc0 wc i0 P0 c0 env0 s0 ((vtk t n i, T) :: us) j m2 P2 s2 := by
  obtain ⟨h1, h2, h3, h4, ⟨es, h5, h5'⟩, h6⟩ := h
  obtain ⟨q1, q2, q3, q4, q5, q6⟩ := pvr_R hi hp
  have fr : XFr c0 sc0 wc s0 s2 := h2.tr hf ⟨Nat.le_refl _, by omega, Nat.le_refl _⟩
  have mo := h3.tr hm
  have hlen : ((vtk t n i, T) :: us).length = us.length + 1 := rfl
  have es2 : XSc t n s2 es (sc0 + m) := XSc.keep es _ (fun j hj => ⟨hf.2.2.2.2.1 40 j (by decide) (by decide) hj, hf.2.2.2.2.1 41 j (by decide) (by decide) hj⟩) h5
  rcases hor with ⟨o1, o2, o3⟩ | ⟨o1, o2, o3⟩
  · refine ⟨m, o2, fr, mo, fun e => absurd e o3, ⟨es, es2, fun e => absurd e o3⟩, fun e1 e2 e3 e4 => ?_⟩
    rw [hlen] at e3 e4
    have v := h6 e1 e2 (by omega) (by omega)
    have := (h4 (v.o e1)).1
    omega
  · refine ⟨m + 1, o2, fr, mo, fun e => ?_, ⟨vtk t n i :: es, ⟨⟨q5.mono (by omega), (h40 o1).1, (h40 o1).2⟩, es2⟩, fun e => ?_⟩, fun e1 e2 e3 e4 => ?_⟩
    · obtain ⟨a, b⟩ := h4 (o3.symm.trans e)
      exact ⟨by rw [hlen]; omega, b⟩
    · have := h5' (o3.symm.trans e)
      show nmK t n (vtk t n i) :: envU t n us env0 = nmK t n (vtk t n i) :: es.map (nmK t n)
      rw [this]
    · rw [hlen] at e3 e4
      have v := h6 e1 e2 (by omega) (by omega)
      have o := v.o e1
      have em := (h4 o).1
      subst em
      have vp := VCh.P _ _ _ _ v
      exact ⟨i, s, P, v, hV o (vp.2.2.1.trans e2) o1 (by omega), fun k hk => hf.2.2.2.2.1 42 k (by decide) (by decide) hk⟩
/-- behind a fault the variables are bound all the same -/
theorem x_bndF (hB : a_Can B) {d : Nat} (hd : 12 ≤ d) (l : aZL) (h2a : ta.getD 2 0 = 2) (hW : ∀ c, c < cn.length → wfC tn.length ta (ct.getD c cNo)) (hcn : CnO cn) (kb : Nat) (hkb : 9 ≤ kb ∧ kb ≤ 12) (cB : Int) (hc9 : kb = 9 → cB = -1) (hcB : kb ≠ 9 → cB = fd cn (opN (kb : Int)) cn.length) (sc0 wc i0 P0 c0 : Nat) (env0 : List (List Int)) (s0 : aZ) (hρ : ∀ y ∈ scT s0 sc0, y < P0) (hs5 : sc0 ≤ 500) {f : Int} {j m w P c W : Nat} {s : aZ} (hF : XFt t n ns f j s) (hR : XRs tn ta cn ct P c (sc0 + m) W s) (hWW : wc ≤ W) (hw : w < c) (hf : XFr c0 sc0 wc s0 s) (hm : XMo P0 c0 P c s0 s) : a_W d 78 0 [.ref 38, iv (sc0 : Int), iv cB, iv (w : Int), .retAddr 0] [] (mkH B s l) (XTo t n ns tn ta cn ct P0 c0 sc0 wc i0 env0 (.inl (f, j)) B s0 l) := by
  have hρs : ∀ y ∈ scT s sc0, y < P := scT_lt sc0 (fun j hj => hR.2.2.2.2.2.2.2.2.2.1 j (by omega))
  refine w78_0 hB _ _ _ s l (a_W.imp (x_bind (t := t) (n := n) (ns := ns) hB hd l h2a hW hcn kb hkb cB hc9 hcB sc0 W (w : Int) env0 s P c 0 0 (by decide) (by decide) hρs hs5 False s m [] noT w P c s hR hw (XFr.rf _ _ _ _) (XMo.rf _ _ _) (fun _ _ => rfl) (fun g => absurd g id) (fun g => absurd g id) (fun g => absurd g id)) ?_)
  rintro _ ⟨s2, w2, P2, c2, rfl, b1, b2, b3, b4, b5, -, -⟩
  exact ⟨s2, w2, P2, c2, rfl, ⟨W, ⟨hWW, Or.inr ⟨_, rfl⟩⟩, b1⟩, b2, hf.tr b3 ⟨hm.2.1, Nat.le_refl _, hWW⟩, hm.tr b4, Or.inr ⟨f, j, rfl, hF.keep b5⟩⟩
/-- a binder's term has been read: it is bound -/
def R78 (d : Nat) (B : aH) (cB : Int) (sc0 : Nat) (X : aR → Prop) (r : aR) : Prop := ∃ (v10 : Int) (s8 : Nat → Nat → Int32) (l9 : Nat → Nat → Int64), r = (.inl (some (iv v10)), mkH B s8 l9) ∧ a_W d 78 0 [.ref 38, iv (sc0 : Int), iv cB, iv v10, .retAddr 0] [] (mkH B s8 l9) (fun r => ∃ (v13 : Int) (s11 : Nat → Nat → Int32) (l12 : Nat → Nat → Int64), r = (.inl (some (iv v13)), mkH B s11 l12) ∧ X (.inl (some (iv v13)), mkH B s11 l12))
theorem x_tailF (hB : a_Can B) {d : Nat} (hd : 13 ≤ d) (l : aZL) (h2a : ta.getD 2 0 = 2) (hW : ∀ c, c < cn.length → wfC tn.length ta (ct.getD c cNo)) (hcn : CnO cn) (kb : Nat) (hkb : 9 ≤ kb ∧ kb ≤ 12) (cB : Int) (hc9 : kb = 9 → cB = -1) (hcB : kb ≠ 9 → cB = fd cn (opN (kb : Int)) cn.length) (sc0 wc i0 P0 c0 : Nat) (env0 : List (List Int)) (s0 : aZ) (hρ : ∀ y ∈ scT s0 sc0, y < P0) (hs5 : sc0 ≤ 500) {f : Int} {j m P c : Nat} {s : aZ} (hF : XFt t n ns f j s) (hR : XRs tn ta cn ct P c (sc0 + m) wc s) (hf : XFr c0 sc0 wc s0 s) (hm : XMo P0 c0 P c s0 s) (x1 : Int) (k : Nat) (hk : 1 ≤ k ∧ k ≤ 6000) (u3 u4 u5 : Value) : a_W d 38 2 [.ref 38, iv x1, iv (k : Int), u3, u4, u5] [] (mkH B s l) (R78 d B cB sc0 (XTo t n ns tn ta cn ct P0 c0 sc0 wc i0 env0 (.inl (f, j)) B s0 l)) := by
  have h5 := hR.2.2.2.2.1
  have k0 := hF.k0
  have en : a_W d 38 164 [.ref 38, iv x1, iv (k : Int), u3, u4, u5] [] (mkH B s l) (R78 d B cB sc0 (XTo t n ns tn ta cn ct P0 c0 sc0 wc i0 env0 (.inl (f, j)) B s0 l)) := by
    refine w38_164 hB (by omega) _ _ _ _ _ s l (a_W.imp (x_expect_f hB (by omega) l 7 (by decide) hF) ?_)
    rintro _ rfl
    refine ⟨s, l, rfl, a_W.imp (x_termF hB (by omega) l _ hF hR.2.2.2.2.2.2.1.1) ?_⟩
    rintro _ rfl
    refine ⟨_, s, l, rfl, _, s, l, rfl, a_W.imp (x_bndF hB (by omega) l h2a hW hcn kb hkb cB hc9 hcB sc0 wc i0 P0 c0 env0 s0 hρ hs5 (w := 0) hF hR (Nat.le_refl _) (by omega) hf hm) ?_⟩
    rintro _ ⟨s2, w2, P2, c2, rfl, hX⟩
    exact ⟨_, s2, l, rfl, s2, w2, P2, c2, rfl, hX⟩
  exact w38_2 hB _ _ _ _ _ s l ⟨⟨by omega, by omega⟩, fun _ => en, fun _ => ⟨fun c => absurd c (by omega), fun _ => ⟨fun c => absurd (k0.symm.trans c) (by decide), fun _ => ⟨fun _ => en, fun c => absurd (k0.symm.trans c) (by decide)⟩⟩⟩⟩
def XLP (t : Nat → Int) (n : Nat) (ns tn : List (List Int)) (ta : List Int) (cn : List (List Int)) (ct : List aT) (B : aH) (d dep kb : Nat) (cB : Int) (sc0 wc i0 P0 c0 : Nat) (env0 : List (List Int)) (s0 : aZ) (l : aZL) (N : Nat) : Prop := ∀ (us : aSt) (i k m P : Nat) (s : aZ) (res : (Int × Nat) ⊕ (aT × Nat)) (u3 u4 u5 : Value), ptm t n N 6 (dep + 1) us (sgT kb) i = some res → i ≤ 6000 → (1 ≤ k ∧ k ≤ i) → i0 ≤ i → VsD t n i us → XAt t n ns i s → XVs t n ns tn ta cn ct sc0 wc i0 P0 c0 env0 s0 us i m P s → a_W d 38 2 [.ref 38, iv ((dep + 1 : Nat) : Int), iv (k : Int), u3, u4, u5] [] (mkH B s l) (R78 d B cB sc0 (XTo t n ns tn ta cn ct P0 c0 sc0 wc i0 env0 res B s0 l))
/-- one more variable -/
theorem x_vone (hB : a_Can B) (hcap : XCap t n ns) (hta : ∀ i, ta.getD i 0 ≤ 2) (h2 : 2 < tn.length) (h2a : ta.getD 2 0 = 2) (hW : ∀ c, c < cn.length → wfC tn.length ta (ct.getD c cNo)) (hcn : CnO cn) (d dep kb : Nat) (hd : 57 + 5 * (40 - dep) ≤ d) (hdep : dep < 40) (hkb : 9 ≤ kb ∧ kb ≤ 12) (cB : Int) (hc9 : kb = 9 → cB = -1) (hcB : kb ≠ 9 → cB = fd cn (opN (kb : Int)) cn.length) (sc0 wc i0 P0 c0 : Nat) (env0 : List (List Int)) (s0 : aZ) (l : aZL) (hρ : ∀ y ∈ scT s0 sc0, y < P0) (hs5 : sc0 ≤ 500) (N : Nat) (ih : ∀ N', N' < N → XLP t n ns tn ta cn ct B d dep kb cB sc0 wc i0 P0 c0 env0 s0 l N') (us : aSt) (i k m P : Nat) (s : aZ) (res : (Int × Nat) ⊕ (aT × Nat)) (h : pLk t n i (ptm t n N 5 (dep + 1) us (sgT kb) i) = some res) (hi : i ≤ 6000) (hk : 1 ≤ k ∧ k ≤ i + 1 ∧ k ≤ 6000) (hi0 : i0 ≤ i) (hv : VsD t n i us) (hA : XAt t n ns i s) (hX : XVs t n ns tn ta cn ct sc0 wc i0 P0 c0 env0 s0 us i m P s) (x2 : Int) (hx2 : x2 + 1 = (k : Int)) (u3 u4 u5 : Value) : a_W d 38 35 [.ref 38, iv ((dep + 1 : Nat) : Int), iv x2, u3, u4, u5] [] (mkH B s l) (R78 d B cB sc0 (XTo t n ns tn ta cn ct P0 c0 sc0 wc i0 env0 res B s0 l)) := by
  have hX0 := hX
  obtain ⟨h1, h2', h3, h4, h5, h6⟩ := hX0
  -- a fault
  have flt : ∀ (s2 : aZ) (P2 : Nat) (f : Int) (j : Nat), XFr c0 (sc0 + m) wc s s2 → XMo P c0 P2 c0 s s2 → ((sc0 + m = 500 ∧ XRs tn ta cn ct P2 c0 (sc0 + m) wc s2 ∧ zz s2 45 7 ≠ 0) ∨ (sc0 + m < 500 ∧ XRs tn ta cn ct P2 c0 (sc0 + m + 1) wc s2 ∧ zz s2 45 7 = zz s 45 7)) → XFt t n ns f j s2 → ∀ x3 x4 x5 : Int, a_W d 38 158 [.ref 38, iv ((dep + 1 : Nat) : Int), iv x2, iv x3, iv x4, iv x5] [] (mkH B s2 l) (R78 d B cB sc0 (XTo t n ns tn ta cn ct P0 c0 sc0 wc i0 env0 (.inl (f, j)) B s0 l)) := by
    intro s2 P2 f j hf hm hor gF x3 x4 x5
    refine w38_158 hB _ _ _ _ _ s2 l ?_
    rw [hx2]
    have fr : XFr c0 sc0 wc s0 s2 := h2'.tr hf ⟨Nat.le_refl _, by omega, Nat.le_refl _⟩
    have mo := h3.tr hm
    rcases hor with ⟨-, o2, -⟩ | ⟨-, o2, -⟩
    · exact x_tailF hB (by omega) l h2a hW hcn kb hkb cB hc9 hcB sc0 wc i0 P0 c0 env0 s0 hρ hs5 gF o2 fr mo _ k ⟨hk.1, hk.2.2⟩ _ _ _
    · exact x_tailF hB (by omega) l h2a hW hcn kb hkb cB hc9 hcB sc0 wc i0 P0 c0 env0 s0 hρ hs5 (m := m + 1) gF o2 fr mo _ k ⟨hk.1, hk.2.2⟩ _ _ _
  rcases pLk_some h with ⟨h0, e⟩ | ⟨h0, h⟩
  · subst e
    have hp : pvr t n 0 (dep + 1) i = some (.inl (ftT t n i, i)) := by
      unfold pvr pLk
      rw [if_pos h0]
    refine x_rvar hB hcap hta h2 h2a 0 d (dep + 1) i P c0 (sc0 + m) wc s l _ (by omega) (by omega) hp hi hA h1 x2 u3 u4 u5 _ ?_
    rintro s2 P2 x3 x4 x5 ⟨hf, hm, hor, ⟨T, j, hh, -⟩ | ⟨f, j, hh, gF⟩⟩
    · cases hh
    · cases hh
      exact flt s2 P2 _ _ hf hm hor gF _ _ _
  cases N with
  | zero => cases h
  | succ N =>
    rw [ptm_5v] at h
    rcases pBd_some h with ⟨e, r1, e2⟩ | ⟨T, j, r1, r2⟩
    · refine x_rvar hB hcap hta h2 h2a N d (dep + 1) i P c0 (sc0 + m) wc s l _ (by omega) (by omega) r1 hi hA h1 x2 u3 u4 u5 _ ?_
      rintro s2 P2 x3 x4 x5 ⟨hf, hm, hor, ⟨T, j, hh, -⟩ | ⟨f, j, hh, gF⟩⟩
      · cases hh
      · cases hh
        subst e2
        exact flt s2 P2 _ _ hf hm hor gF _ _ _
    · obtain ⟨q1, q2, q3, q4, q5, q6⟩ := pvr_R hi r1
      refine x_rvar hB hcap hta h2 h2a N d (dep + 1) i P c0 (sc0 + m) wc s l _ (by omega) (by omega) r1 hi hA h1 x2 u3 u4 u5 _ ?_
      rintro s2 P2 x3 x4 x5 ⟨hf, hm, hor, ⟨T', j', hh, gA, g40, gV⟩ | ⟨f, j, hh, gF⟩⟩
      rotate_left
      · cases hh
      cases hh
      obtain ⟨m2, hX2⟩ := hX.step hi r1 hf hm hor g40 gV
      refine w38_158 hB _ _ _ _ _ s2 l ?_
      rw [hx2]
      refine ih N (Nat.lt_succ_self _) _ j k m2 P2 s2 res _ _ _ r2 q2 (by omega) (by omega) (fun q hq => ?_) gA hX2
      rcases List.mem_cons.mp hq with rfl | hq
      · exact ⟨q5, q6⟩
      · exact (hv.mono (by omega)) q hq
theorem x_vloop (hB : a_Can B) (hcap : XCap t n ns) (hta : ∀ i, ta.getD i 0 ≤ 2) (h2 : 2 < tn.length) (h2a : ta.getD 2 0 = 2) (hW : ∀ c, c < cn.length → wfC tn.length ta (ct.getD c cNo)) (hcn : CnO cn) (d dep kb : Nat) (hd : 57 + 5 * (40 - dep) ≤ d) (hdep : dep < 40) (hkb : 9 ≤ kb ∧ kb ≤ 12) (cB : Int) (hc9 : kb = 9 → cB = -1) (hcB : kb ≠ 9 → cB = fd cn (opN (kb : Int)) cn.length) (sc0 wc i0 P0 c0 : Nat) (env0 : List (List Int)) (s0 : aZ) (l : aZL) (hρ : ∀ y ∈ scT s0 sc0, y < P0) (hs5 : sc0 ≤ 500) (hwc : 2 * wc ≤ i0) : ∀ N, (∀ N', N' < N → XH0 t n ns tn ta cn ct B N') → XLP t n ns tn ta cn ct B d dep kb cB sc0 wc i0 P0 c0 env0 s0 l N := by
  intro N
  induction N using Nat.strongRecOn with
  | _ N ih =>
    intro hH us i k m P s res u3 u4 u5 h hi hk hi0 hv hA hX
    have hX0 := hX
    obtain ⟨h1, h2', h3, h4, h5, h6⟩ := hX0
    have hc0 : 1 ≤ c0 ∧ c0 ≤ 501 := ⟨h1.2.2.2.2.1.2.1, h1.2.2.2.2.1.2.2⟩
    cases N with
    | zero => cases h
    | succ N =>
      rw [ptm_6] at h
      rcases pLk_some h with ⟨h0, e⟩ | ⟨h0, h⟩
      · subst e
        exact x_tailF hB (by omega) l h2a hW hcn kb hkb cB hc9 hcB sc0 wc i0 P0 c0 env0 s0 hρ hs5 (hA.f h0) h1 h2' h3 _ k (by omega) _ _ _
      have k6 := hA.k6 h0
      by_cases c1 : kdT t n i = 1 ∨ kdT t n i = 4
      · rw [if_pos c1] at h
        obtain ⟨b1, b2⟩ := lt_nx h0 (by omega)
        have more : a_W d 38 35 [.ref 38, iv ((dep + 1 : Nat) : Int), iv (k : Int), u3, u4, u5] [] (mkH B s l) (R78 d B cB sc0 (XTo t n ns tn ta cn ct P0 c0 sc0 wc i0 env0 res B s0 l)) := by
          exact x_vone hB hcap hta h2 h2a hW hcn d dep kb hd hdep hkb cB hc9 hcB sc0 wc i0 P0 c0 env0 s0 l hρ hs5 N (fun N' hN => ih N' (by omega) (fun N2 h2 => hH N2 (by omega))) us i (k + 1) m P s res (by unfold pLk; rw [if_neg (by rw [h0]; decide)]; exact h) hi ⟨by omega, by omega, by omega⟩ hi0 hv hA hX (k : Int) (by omega) u3 u4 u5
        refine w38_2 hB _ _ _ _ _ s l ⟨⟨by omega, by omega⟩, fun c => absurd c (by omega), fun _ => ⟨fun c => absurd c (by omega), fun _ => ⟨fun _ => more, fun n1 => ⟨fun n4 => ?_, fun _ => more⟩⟩⟩⟩
        rw [k6] at n1 n4
        omega
      rw [if_neg c1] at h
      have body : a_W d 38 164 [.ref 38, iv ((dep + 1 : Nat) : Int), iv (k : Int), u3, u4, u5] [] (mkH B s l) (R78 d B cB sc0 (XTo t n ns tn ta cn ct P0 c0 sc0 wc i0 env0 res B s0 l)) := by
        refine w38_164 hB (by omega) _ _ _ _ _ s l (a_W.imp (x_expect hB (by omega) hcap l i 7 (by decide) hA) ?_)
        rintro _ ⟨s1, rfl, f1, hh⟩
        refine ⟨s1, l, rfl, ?_⟩
        have hR1 := h1.x f1
        have fr1 : XFr c0 sc0 wc s0 s1 := h2'.tr (f1.lo.fr c0 sc0 wc) XFrr
        have e45 : zz s1 45 7 = zz s 45 7 := zz_of (f1.hi 45 (by decide)) 7
        have mo1 : XMo P0 c0 P c0 s0 s1 := h3.tr ⟨Nat.le_refl _, Nat.le_refl _, fun e => by rw [e45]; exact e, fun e => by rw [zz_of (f1.hi 17 (by decide)) 10]; exact e⟩
        rcases hh with ⟨-, q2, -, hA1⟩ | ⟨-, q2, gF⟩ | ⟨q1, -⟩
        · rw [if_pos q2] at h
          obtain ⟨b1, b2⟩ := lt_nx h0 (by omega)
          have hE1 := h5.x f1
          rcases pBd_some h with ⟨e, r1, e2⟩ | ⟨b, j, r1, r2⟩
          · refine a_W.imp (hH N (Nat.lt_succ_self _) (d - 1) (dep + 1) (i + 1) P c0 (sc0 + m) wc s1 l _ _ (by omega) (by omega) r1 (by omega) hA1 hR1 hE1 (by omega)) ?_
            rintro _ ⟨s2, w, P2, c2, rfl, ⟨W, hWW, x1⟩, x2, x3, x4, ⟨T, j, hh, -⟩ | ⟨f, j, hh, gF⟩⟩
            · cases hh
            cases hh
            subst e2
            refine ⟨_, s2, l, rfl, _, s2, l, rfl, a_W.imp (x_bndF hB (by omega) l h2a hW hcn kb hkb cB hc9 hcB sc0 wc i0 P0 c0 env0 s0 hρ hs5 gF x1 hWW.1 x2 (fr1.tr x3 ⟨Nat.le_refl _, by omega, Nat.le_refl _⟩) (mo1.tr x4)) ?_⟩
            rintro _ ⟨s3, w3, P3, c3, rfl, hX3⟩
            exact ⟨_, s3, l, rfl, s3, w3, P3, c3, rfl, hX3⟩
          · cases r2
            obtain ⟨k1, k2, k3, g0, k5, -, -⟩ := ptm_R t n N 0 (dep + 1) [] noT (i + 1) _ (by decide) (by omega) (I0D _ _ _ _ _ (by omega)) r1
            have k1 : i + 1 ≤ j := k1
            have k2 : j ≤ 6000 := k2
            refine a_W.imp (hH N (Nat.lt_succ_self _) (d - 1) (dep + 1) (i + 1) P c0 (sc0 + m) wc s1 l _ _ (by omega) (by omega) r1 (by omega) hA1 hR1 hE1 (by omega)) ?_
            rintro _ ⟨s2, w, P2, c2, rfl, hXb⟩
            have x1 := hXb.R
            obtain ⟨-, x2, x3, x4, ⟨T', j', hh, gA, go, gG⟩ | ⟨f, j, hh, -⟩⟩ := hXb
            rotate_left
            · cases hh
            cases hh
            have bw := bd_w kb us b
            have tp := tm_pos b
            refine ⟨_, s2, l, rfl, _, s2, l, rfl, a_W.imp (w78_0 hB _ _ _ s2 l (x_bind (t := t) (n := n) (ns := ns) hB (d := d) (by omega) l h2a hW hcn kb hkb cB hc9 hcB sc0 wc (w : Int) env0 s0 P0 c0 i0 j k2 (by omega) hρ hs5 True s2 m us b w P2 c2 s2 x1 x2 (fr1.tr x3 ⟨Nat.le_refl _, by omega, Nat.le_refl _⟩) (mo1.tr x4) (fun _ _ => rfl) (fun _ e => ?_) (fun _ hG => ?_) (fun _ => ⟨j, dep + 1, hv.mono (by omega), k5⟩))) ?_⟩
            · obtain ⟨e1, e2⟩ := go e
              obtain ⟨e3, e4⟩ := h4 (e45.symm.trans e1)
              exact ⟨e3, e4, e2⟩
            · obtain ⟨z1, z2, z3, z4⟩ := hG
              have v := h6 z1 z2 (by omega) (by omega)
              have o := v.o z1
              have em := (h4 o).1
              subst em
              have vp := VCh.P _ _ _ _ v
              have hx := gG ⟨e45.trans o, (zz_of (f1.hi 17 (by decide)) 11).trans (vp.2.2.1.trans z2), by omega, by omega⟩
              have esc : scT s1 (sc0 + us.length) = scT s (sc0 + us.length) := scT.keep _ (fun k _ => zz_of (f1.hi 42 (by decide)) k)
              rw [esc] at hx
              exact ⟨i, s, P, v, (hx.fm f1.se).ij (by omega), fun k hk => (x3.2.2.2.2.1 42 k (by decide) (by decide) hk).trans (zz_of (f1.hi 42 (by decide)) k), x4.1, fun e => x4.2.2.2 (by rw [zz_of (f1.hi 17 (by decide)) 10]; exact e)⟩
            · rintro _ ⟨s3, w3, P3, c3, rfl, y1, y2, y3, y4, y5, y6, y7⟩
              exact ⟨_, s3, l, rfl, s3, w3, P3, c3, rfl, ⟨wc, ⟨Nat.le_refl _, Or.inl rfl⟩, y1⟩, y2, y3, y4, Or.inl ⟨_, _, rfl, gA.keep y5, y6 trivial, y7 trivial⟩⟩
        · rw [if_neg q2] at h
          cases h
          refine a_W.imp (x_termF hB (by omega) l _ gF hR1.2.2.2.2.2.2.1.1) ?_
          rintro _ rfl
          refine ⟨_, s1, l, rfl, _, s1, l, rfl, a_W.imp (x_bndF hB (by omega) l h2a hW hcn kb hkb cB hc9 hcB sc0 wc i0 P0 c0 env0 s0 hρ hs5 (w := 0) gF hR1 (Nat.le_refl _) (by omega) fr1 mo1) ?_⟩
          rintro _ ⟨s3, w3, P3, c3, rfl, hX3⟩
          exact ⟨_, s3, l, rfl, s3, w3, P3, c3, rfl, hX3⟩
        · exact absurd h0 q1
      refine w38_2 hB _ _ _ _ _ s l ⟨⟨by omega, by omega⟩, fun _ => body, fun _ => ⟨fun c => absurd c (by omega), fun _ => ⟨fun e => absurd (Or.inl (k6.symm.trans e)) c1, fun _ => ⟨fun _ => body, fun e => absurd (Or.inr (k6.symm.trans e)) c1⟩⟩⟩⟩
theorem x_binder (hB : a_Can B) (hcap : XCap t n ns) (hta : ∀ i, ta.getD i 0 ≤ 2) (h2 : 2 < tn.length) (h2a : ta.getD 2 0 = 2) (hW : ∀ c, c < cn.length → wfC tn.length ta (ct.getD c cNo)) (hcn : CnO cn) (N : Nat) (ih : ∀ N', N' < N → XH0 t n ns tn ta cn ct B N') (d dep i P c sc wc : Nat) (s : aZ) (l : aZL) (env : List (List Int)) (res : (Int × Nat) ⊕ (aT × Nat)) (hd : 58 + 5 * (40 - dep) ≤ d) (hdep : dep ≤ 40) (h0 : ftT t n i = 0) (hk : z59 (kdT t n i) ≠ 0) (h : pLk t n (i + 1) (if 40 ≤ dep then some (.inl (8, i + 1)) else ptm t n N 5 (dep + 1) [] (sgT (kdT t n i).toNat) (i + 1)) = some res) (hi : i ≤ 6000) (hA : XAt t n ns i s) (hR : XRs tn ta cn ct P c sc wc s) (hE : XEn t n s sc env) (hwc : 2 * wc ≤ i) : a_W d 60 0 [.ref 38, iv (dep : Int), .retAddr 0, .retAddr 0, .retAddr 0] [] (mkH B s l) (XTo t n ns tn ta cn ct P c sc wc i env res B s l) := by
  have hkk := z59_k hk
  obtain ⟨a1, a2⟩ := lt_nx h0 (by omega)
  have hC := hA.1 h0
  have e7 : zz s 1 7 = stT t n i := hC.2.2.2.1
  have e8 : zz s 1 8 = tkE t n (stT t n i) := (hC.2.2.2.2.2.1 a1).1
  obtain ⟨nm, hg, hl, h8, hnm⟩ : ∃ nm : List Int, Sg (zz s 2) (stT t n i) nm ∧ stT t n i + nm.length = tkE t n (stT t n i) ∧ tkE t n (stT t n i) ≤ 8000 ∧ nm = (if kdT t n i = 9 then [92] else opN (kdT t n i)) := by
    by_cases e : kdT t n i = 9
    · obtain ⟨b1, b2, b3⟩ := tk_lam hC.1 h0 e
      exact ⟨[92], b1, b2, b3, by rw [if_pos e]⟩
    · obtain ⟨b1, b2, b3, -⟩ := tk_nm hC.1 h0 (Or.inr (by omega))
      exact ⟨_, b1, b2, b3, by rw [if_neg e]; exact nm_op h0 (by omega)⟩
  refine w60_0 hB (by omega) _ s l ?_
  rw [e7, e8]
  refine a_W.imp (x_find26 hB (by omega) s l cn hR.2.2.2.1.1 (stT t n i) (tkE t n (stT t n i)) nm hl h8 hg) ?_
  rintro _ rfl
  refine ⟨_, s, l, rfl, a_W.imp (x_advance hB (by omega) hcap l i h0 a1 hC) ?_⟩
  rintro _ ⟨s4, rfl, hA4, f4, -⟩
  refine ⟨s4, l, rfl, ⟨by omega, by omega⟩, fun hlt => ?_, fun hge => ?_⟩
  · have hR4 := hR.x f4
    have e39 : zz s4 39 3 = (sc : Nat) := hR4.2.2.2.2.2.1.1
    have hs5 : sc ≤ 500 := hR4.2.2.2.2.2.1.2
    rw [e39]
    rw [if_neg (by omega)] at h
    obtain ⟨kb, ekb⟩ : ∃ kb : Nat, kdT t n i = kb := ⟨(kdT t n i).toNat, by omega⟩
    rw [ekb, natc] at h
    rw [ekb] at hnm hkk
    have hρ : ∀ y ∈ scT s4 sc, y < P := scT_lt sc hR4.2.2.2.2.2.2.2.2.2.1
    have hX : XVs t n ns tn ta cn ct sc wc (i + 1) P c env s4 [] (i + 1) 0 P s4 := ⟨hR4, XFr.rf _ _ _ _, XMo.rf _ _ _, fun e => ⟨rfl, e⟩, hE.x f4, fun _ _ _ _ => ⟨rfl, rfl, rfl⟩⟩
    have hcc := hcn
    have key := x_vone hB hcap hta h2 h2a hW hcn (d - 1) dep kb (by omega) (by omega) (by omega) (fd cn nm cn.length) (fun e => by rw [hnm, if_pos (by rw [e]; rfl)]; exact hcc.2.1) (fun e => by rw [hnm, if_neg (by omega)]) sc wc (i + 1) P c env s4 l hρ hs5 N (fun N' hN => x_vloop hB hcap hta h2 h2a hW hcn (d - 1) dep kb (by omega) (by omega) (by omega) (fd cn nm cn.length) (fun e => by rw [hnm, if_pos (by rw [e]; rfl)]; exact hcc.2.1) (fun e => by rw [hnm, if_neg (by omega)]) sc wc (i + 1) P c env s4 l hρ hs5 (by omega) N' (fun N2 h2 => ih N2 (by omega))) [] (i + 1) 1 0 P s4 res h (by omega) (by omega) (by omega) (fun q hq => absurd hq List.not_mem_nil) hA4 hX 0 (by decide) (.retAddr 0) (.retAddr 0) (.retAddr 0)
    rw [show (dep : Int) + 1 = ((dep + 1 : Nat) : Int) by omega]
    refine w38_0 hB _ s4 l (w38_2 hB _ _ _ _ _ s4 l ⟨by decide, fun c => absurd c (by decide), fun _ => ⟨fun _ => a_W.imp key ?_, fun c => absurd rfl c⟩⟩)
    rintro _ ⟨v10, s8, l9, rfl, hw⟩
    refine ⟨v10, s8, l9, rfl, a_W.imp hw ?_⟩
    rintro _ ⟨v13, s11, l12, rfl, s2, w, P2, c2, e, hX2⟩
    exact ⟨v13, s11, l12, rfl, s2, w, P2, c2, e, XTi.pre f4 (by omega) hX2⟩
  · by_cases h1 : ftT t n (i + 1) = 0
    · rcases pLk_some h with ⟨q, -⟩ | ⟨-, h⟩
      · exact absurd h1 q
      rw [if_pos (by omega)] at h
      cases h
      obtain ⟨gF, fF⟩ := (hA4.1 h1).die 8 (by decide) (by decide)
      exact ⟨fun q => absurd (hA4.1 h1).2.1 q, fun _ => ⟨_, 0, P, c, rfl, XTi.nil hR (f4.tr fF) gF⟩⟩
    · have gF := hA4.f h1
      rcases pLk_some h with ⟨-, e⟩ | ⟨q, -⟩
      · subst e
        exact ⟨fun _ => ⟨s4, 0, P, c, rfl, XTi.nil hR f4 gF⟩, fun q => absurd (gF.2.2.1.symm.trans q) gF.2.1⟩
      · exact absurd q h1
end
