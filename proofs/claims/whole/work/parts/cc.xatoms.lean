/-! THE READER READS ATOMS SIDE BY SIDE; NOT -/
/-- k times not -/
def ntT : Nat → aT → aT
  | 0, T => T
  | k + 1, T => ntT k (apT (sgT 13) T)
def mapN (k : Nat) : (Int × Nat) ⊕ (aT × Nat) → (Int × Nat) ⊕ (aT × Nat)
  | .inl e => .inl e
  | .inr q => .inr (ntT k q.1, q.2)
section
variable {t : Nat → Int} {n : Nat} {ns tn : List (List Int)} {ta : List Int} {cn : List (List Int)} {ct : List aT} {B : aH}
/-- an application joins -/
theorem XTi.ap {P0 c0 sc wc i0 i j P P2 P3 c c2 c3 w w2 w3 : Nat} {env : List (List Int)} {T a : aT} {s0 s s2 s3 : aZ} (hρ : ∀ k ∈ scT s0 sc, k < P0) (h1 : XTi t n ns tn ta cn ct P0 c0 sc wc i0 env (.inr (T, i)) s0 s w P c) (h2 : XTi t n ns tn ta cn ct P c sc wc i env (.inr (a, j)) s s2 w2 P2 c2) (oT : ∃ q, tmOk t n q T) (oa : ∃ q, tmOk t n q a) (hj : j ≤ 6000) (app : XRs tn ta cn ct P3 c3 sc wc s3 ∧ XFr c2 sc wc s2 s3 ∧ XMo P2 c2 P3 c3 s2 s3 ∧ w3 < c3 ∧ (∀ k, (k < 17 ∨ (24 < k ∧ k < 45) ∨ 50 < k) → s3 k = s2 k) ∧ (zz s3 45 7 = 0 → zz s2 45 7 = 0 ∧ c3 = c2 + 1) ∧ (zz s2 45 7 = 0 → c2 < 501 → P2 + 2 ≤ 17000 → AppX ta P2 c2 w w2 s2 P3 s3 w3 c3)) : XTi t n ns tn ta cn ct P0 c0 sc wc i0 env (.inr (apT T a, j)) s0 s3 w3 P3 c3 := by
  obtain ⟨r1, r2, r3, r4, r5, r6, r7⟩ := app
  obtain ⟨a1, a2, a3, a4, ⟨T', i', hh, aA, ao, aG⟩ | ⟨f, j', hh, -⟩⟩ := h1
  rotate_left
  · cases hh
  cases hh
  obtain ⟨b1, b2, b3, b4, ⟨T', i', hh, bA, bo, bG⟩ | ⟨f, j', hh, -⟩⟩ := h2
  rotate_left
  · cases hh
  cases hh
  have f2 : XFr c0 sc wc s0 s2 := a3.tr b3 ⟨a4.2.1, Nat.le_refl _, Nat.le_refl _⟩
  refine ⟨⟨wc, ⟨Nat.le_refl _, Or.inl rfl⟩, r1⟩, r4, f2.tr r2 ⟨Nat.le_trans a4.2.1 b4.2.1, Nat.le_refl _, Nat.le_refl _⟩, (a4.tr b4).tr r3, Or.inl ⟨_, _, rfl, bA.keep (fun k hk => r5 k (by omega)), fun e => ?_, fun hG => ?_⟩⟩
  · obtain ⟨e1, e2⟩ := r6 e
    obtain ⟨e3, e4⟩ := bo e1
    obtain ⟨e5, e6⟩ := ao e3
    refine ⟨e5, ?_⟩
    rw [tmW_ap]
    omega
  · obtain ⟨g1, g2, g3, g4⟩ := hG
    rw [tmW_ap] at g3
    rw [csT_ap] at g4
    obtain ⟨q1, oT⟩ := oT
    obtain ⟨q2, oa⟩ := oa
    have w1 := rsv_w t n q1 cn T env oT
    have w2' := rsv_w t n q2 cn a env oa
    have x1 := aG ⟨g1, g2, by omega, by omega⟩
    have p1 := x1.1
    rw [w1.1, w1.2.2] at p1
    have esc : scT s sc = scT s0 sc := scT.keep sc (fun k hk => a3.2.2.2.2.1 42 k (by decide) (by decide) hk)
    have x2 := bG ⟨x1.2.1.1, x1.2.1.2.trans g2, by omega, by omega⟩
    rw [esc] at x2
    have p2 := x2.1
    rw [w2'.1, w2'.2.2] at p2
    have h1 := tmH_le T
    have h2 := tmH_le a
    have hr := R2.mk x1 x2 b3 b4 hρ a4.1
    rw [rsv_ap]
    exact RX.ap hr (coK_rsv _ _ _ _ _) (coK_rsv _ _ _ _ _) (r7 x2.2.1.1 (by omega) (by omega)) r2 r3 (fun k hk => r5 k (by omega)) (Nat.le_trans a4.1 b4.1) ⟨by rw [w1.2.1]; omega, by rw [w2'.2.1]; omega⟩
theorem XTi.apF {P0 c0 sc wc i0 P P2 P3 c c2 c3 w w2 w3 i : Nat} {env : List (List Int)} {r : (Int × Nat) ⊕ (aT × Nat)} {e : Int × Nat} {s0 s s2 s3 : aZ} (h1 : XTi t n ns tn ta cn ct P0 c0 sc wc i0 env r s0 s w P c) (h2 : XTi t n ns tn ta cn ct P c sc wc i env (.inl e) s s2 w2 P2 c2) {W : Nat} (hW : wc ≤ W) (app : XRs tn ta cn ct P3 c3 sc W s3 ∧ XFr c2 sc W s2 s3 ∧ XMo P2 c2 P3 c3 s2 s3 ∧ w3 < c3 ∧ (∀ k, k ≤ 7 → s3 k = s2 k)) : XTi t n ns tn ta cn ct P0 c0 sc wc i0 env (.inl e) s0 s3 w3 P3 c3 := by
  obtain ⟨r1, r2, r3, r4, r5⟩ := app
  obtain ⟨a1, a2, a3, a4, -⟩ := h1
  obtain ⟨b1, b2, b3, b4, ⟨T', i', hh, -⟩ | ⟨f, j', hh, bF⟩⟩ := h2
  · cases hh
  cases hh
  exact ⟨⟨W, ⟨hW, Or.inr ⟨_, rfl⟩⟩, r1⟩, r4, (a3.tr b3 ⟨a4.2.1, Nat.le_refl _, Nat.le_refl _⟩).tr (r2.wm hW) ⟨Nat.le_trans a4.2.1 b4.2.1, Nat.le_refl _, Nat.le_refl _⟩, (a4.tr b4).tr r3, Or.inr ⟨f, j', rfl, bF.keep r5⟩⟩
theorem x_atoms (hB : a_Can B) (h2a : ta.getD 2 0 = 2) (d dep sc wc i0 P0 c0 : Nat) (s0 : aZ) (l : aZL) (env : List (List Int)) (hd : 58 + 5 * (40 - dep) ≤ d) (hdep : dep ≤ 40) (hρ : ∀ k ∈ scT s0 sc, k < P0) (hE : XEn t n s0 sc env) (hwc : 2 * wc ≤ i0) : ∀ N, (∀ N', N' < N → XH4 t n ns tn ta cn ct B N') → ∀ (i k w P c : Nat) (T : aT) (s : aZ) (res : (Int × Nat) ⊕ (aT × Nat)), ptm t n N 3 dep [] T i = some res → i ≤ 6000 → k ≤ i → i0 ≤ i → tmD t n i dep T → XTi t n ns tn ta cn ct P0 c0 sc wc i0 env (.inr (T, i)) s0 s w P c → a_W d 92 8 [.ref 38, iv (dep : Int), iv (w : Int), iv (k : Int)] [] (mkH B s l) (XTo t n ns tn ta cn ct P0 c0 sc wc i0 env res B s0 l) := by
  intro N
  induction N with
  | zero => intro _ i k w P c T s res h; cases h
  | succ N ih =>
    intro hH i k w P c T s res h hi hk hi0 hT hX
    rw [ptm_3] at h
    have hX0 := hX
    have a1 := hX.R
    obtain ⟨-, a2, a3, a4, ⟨T', i', hh, aA, -, -⟩ | ⟨f, j', hh, -⟩⟩ := hX0
    rotate_left
    · cases hh
    cases hh
    rcases pLk_some h with ⟨h0, e⟩ | ⟨h0, h⟩
    · have gF := aA.f h0
      subst e
      have hz : z102 (zz s 1 6) = 0 := by rw [gF.k0]; decide
      have en : ∀ x3, a_W d 92 48 [.ref 38, iv (dep : Int), iv (w : Int), iv x3] [] (mkH B s l) (XTo t n ns tn ta cn ct P0 c0 sc wc i0 env (.inl (ftT t n i, i)) B s0 l) := fun x3 => w92_48 hB _ _ _ s l ⟨s, w, P, c, rfl, hX.die (FrX.rf s) gF⟩
      exact w92_8 hB (by omega) _ _ _ s l ⟨⟨by omega, by omega⟩, fun _ => en _, fun _ => ⟨fun _ => en _, fun c => absurd hz c⟩⟩
    have k6 := aA.k6 h0
    by_cases hz : z102 (kdT t n i) ≠ 0
    rotate_left
    · rw [if_neg hz] at h
      cases h
      have en : ∀ x3, a_W d 92 48 [.ref 38, iv (dep : Int), iv (w : Int), iv x3] [] (mkH B s l) (XTo t n ns tn ta cn ct P0 c0 sc wc i0 env (.inr (T, i)) B s0 l) := fun x3 => w92_48 hB _ _ _ s l ⟨s, w, P, c, rfl, hX⟩
      exact w92_8 hB (by omega) _ _ _ s l ⟨⟨by omega, by omega⟩, fun _ => en _, fun _ => ⟨fun _ => en _, fun c => absurd (by rw [← k6]; exact c) hz⟩⟩
    rw [if_pos hz] at h
    obtain ⟨b1, b2⟩ := lt_nx h0 (fun e => hz (by rw [e]; decide))
    refine w92_8 hB (by omega) _ _ _ s l ⟨⟨by omega, by omega⟩, fun c => absurd c (by omega), fun _ => ⟨fun c => absurd (by rw [← k6]; exact c) hz, fun _ => ?_⟩⟩
    have hE1 := hE.fr a3 (Nat.le_refl _) a4.2.2.1
    rcases pBd_some h with ⟨e, r1, e2⟩ | ⟨a, j, r1, r2⟩
    · refine a_W.imp (hH N (Nat.lt_succ_self _) (d - 1) dep i P c sc wc s l env _ (by omega) hdep r1 hi aA a1 hE1 (by omega)) ?_
      rintro _ ⟨s2, w2, P2, c2, rfl, hX2⟩
      obtain ⟨W, hWW, hR2⟩ := hX2.1
      refine ⟨_, s2, l, rfl, a_W.imp (x_app hB (by omega) l h2a hR2 w w2 (Nat.lt_of_lt_of_le a2 hX2.2.2.2.1.2.1) hX2.2.1) ?_⟩
      rintro _ ⟨s3, w3, P3, c3, rfl, p1, p2, p3, p4, p5, -, -⟩
      have hF := XTi.apF hX hX2 hWW.1 ⟨p1, p2, p3, p4, fun k hk => p5 k (by omega)⟩
      subst e2
      have k0 : zz s3 1 6 = 0 := by
        rcases hF.2.2.2.2 with ⟨_, _, hh, -⟩ | ⟨f, j, -, g⟩
        · cases hh
        · exact g.k0
      have hz3 : z102 (zz s3 1 6) = 0 := by rw [k0]; decide
      have en : ∀ x3, a_W d 92 48 [.ref 38, iv (dep : Int), iv (w3 : Int), iv x3] [] (mkH B s3 l) (XTo t n ns tn ta cn ct P0 c0 sc wc i0 env (.inl e) B s0 l) := fun x3 => w92_48 hB _ _ _ s3 l ⟨s3, w3, P3, c3, rfl, hF⟩
      exact ⟨_, s3, l, rfl, w92_8 hB (by omega) _ _ _ s3 l ⟨⟨by omega, by omega⟩, fun _ => en _, fun _ => ⟨fun _ => en _, fun c => absurd hz3 c⟩⟩⟩
    · obtain ⟨k1, k2, k3, -, k5, -, -⟩ := ptm_R t n N 4 dep [] noT i _ (by decide) hi (I0D _ _ _ _ _ (by omega)) r1
      have k3 : i < j := k3 (by decide) (by decide)
      have k2 : j ≤ 6000 := k2
      refine a_W.imp (hH N (Nat.lt_succ_self _) (d - 1) dep i P c sc wc s l env _ (by omega) hdep r1 hi aA a1 hE1 (by omega)) ?_
      rintro _ ⟨s2, w2, P2, c2, rfl, hX2⟩
      refine ⟨_, s2, l, rfl, a_W.imp (x_app hB (by omega) l h2a hX2.R w w2 (Nat.lt_of_lt_of_le a2 hX2.2.2.2.1.2.1) hX2.2.1) ?_⟩
      rintro _ ⟨s3, w3, P3, c3, rfl, p⟩
      have hF := XTi.ap hρ hX hX2 ⟨_, hT.1⟩ ⟨_, k5.1⟩ k2 p
      refine ⟨_, s3, l, rfl, ?_⟩
      rw [show (k : Int) + 1 = ((k + 1 : Nat) : Int) by omega]
      exact ih (fun N' hN => hH N' (by omega)) j (k + 1) w3 P3 c3 (apT T a) s3 res r2 k2 (by omega) (by omega) ((hT.mono (by omega)).ap k5) hF
/-- not is applied so often -/
theorem x_nots (hB : a_Can B) (h2a : ta.getD 2 0 = 2) (hW : ∀ c, c < cn.length → wfC tn.length ta (ct.getD c cNo)) (hcn : CnO cn) (d sc wc i0 P0 c0 : Nat) (s0 : aZ) (l : aZL) (env : List (List Int)) (hd : 11 ≤ d) (hρ : ∀ k ∈ scT s0 sc, k < P0) (x1 : Int) (x2 : Nat) (hx2 : x2 ≤ 6000) : ∀ (r x4 w P c : Nat) (s : aZ) (res : (Int × Nat) ⊕ (aT × Nat)), x4 + r = x2 → XTi t n ns tn ta cn ct P0 c0 sc wc i0 env res s0 s w P c → (∀ T j, res = .inr (T, j) → j ≤ 6000 ∧ ∃ q, tmOk t n q T) → a_W d 58 64 [.ref 38, iv x1, iv (x2 : Int), iv (w : Int), iv (x4 : Int)] [] (mkH B s l) (XTo t n ns tn ta cn ct P0 c0 sc wc i0 env (mapN r res) B s0 l) := by
  intro r
  induction r with
  | zero =>
    intro x4 w P c s res hr hX hres
    refine w58_64 hB (by omega) _ _ _ _ s l ⟨⟨by omega, by omega⟩, ⟨by omega, by omega⟩, fun _ => ⟨s, w, P, c, rfl, ?_⟩, fun c => absurd c (by omega)⟩
    cases res with
    | inl e => exact hX
    | inr q => exact hX
  | succ r ih =>
    intro x4 w P c s res hr hX hres
    have hX0 := hX
    obtain ⟨⟨W, hWW, a1⟩, a2, a3, a4, a5⟩ := hX0
    refine w58_64 hB (by omega) _ _ _ _ s l ⟨⟨by omega, by omega⟩, ⟨by omega, by omega⟩, fun c => absurd c (by omega), fun _ => ?_⟩
    refine x_capp (t := t) (n := n) (ns := ns) hB (by omega) l h2a hW a1 (scT s0 sc) 3 (by have := hcn.1; omega) w a2 _ ?_
    intro s7 w7 P7 c7 q1 q2 q3 q4 q5 q6 q7
    rw [show (x4 : Int) + 1 = ((x4 + 1 : Nat) : Int) by omega]
    have fr : XFr c0 sc wc s0 s7 := a3.tr (q2.wm hWW.1) ⟨a4.2.1, Nat.le_refl _, Nat.le_refl _⟩
    have mo := a4.tr q3
    cases res with
    | inl e =>
      refine ih (x4 + 1) w7 P7 c7 s7 (.inl e) (by omega) ⟨⟨W, ⟨hWW.1, Or.inr ⟨_, rfl⟩⟩, q1⟩, q4, fr, mo, ?_⟩ (fun T j hh => by cases hh)
      rcases a5 with ⟨T, j, hh, -⟩ | ⟨f, j, hh, g⟩
      · cases hh
      · exact Or.inr ⟨f, j, hh, g.keep q5⟩
    | inr q =>
      obtain ⟨T, j⟩ := q
      obtain ⟨hj, jj, hok⟩ := hres T j rfl
      refine ih (x4 + 1) w7 P7 c7 s7 (.inr (apT (sgT 13) T, j)) (by omega) ⟨⟨W, ⟨hWW.1, hWW.2.elim Or.inl (fun h => by obtain ⟨e, h⟩ := h; cases h)⟩, q1⟩, q4, fr, mo, ?_⟩ (fun T' j' hh => ?_)
      · rcases a5 with ⟨T', j', hh, g1, g2, g3⟩ | ⟨f, j, hh, -⟩
        rotate_left
        · cases hh
        cases hh
        refine Or.inl ⟨_, _, rfl, g1.keep q5, fun e => ?_, fun hG => ?_⟩
        · obtain ⟨e1, e2⟩ := q6 e
          obtain ⟨e3, e4⟩ := g2 e1
          refine ⟨e3, ?_⟩
          rw [tmW_ap]
          show c7 = c0 + (1 + (1 + tmW T))
          omega
        · obtain ⟨z1, z2, z3, z4⟩ := hG
          rw [tmW_ap] at z3
          rw [csT_ap] at z4
          have z3 : c0 + (1 + (1 + tmW T)) + sc ≤ 501 := z3
          have z4 : P0 + (2 + (40 + csT T)) ≤ i0 + 10999 := z4
          have hx := g3 ⟨z1, z2, by omega, by omega⟩
          have w1 := rsv_w t n jj cn T env hok
          have p1 := hx.1
          rw [w1.1, w1.2.2] at p1
          have h1 := tmH_le T
          have eS : rsv t n cn (sgT 13) env = .leaf (5, 3) := by
            show cnK cn (opN ((13 : Nat) : Int)) = _
            unfold cnK
            rw [show fd cn (opN ((13 : Nat) : Int)) cn.length = 3 from hcn.2.2.2.2.2]
            rfl
          rw [rsv_ap, eS]
          exact q7 _ i0 j s0 P0 c0 hx hρ a4.1 (coK_rsv _ _ _ _ _) (by rw [w1.2.1]; omega) (by omega) (by omega)
      · cases hh
        exact ⟨hj, jj, Or.inl ⟨rfl, Or.inr (Or.inl ⟨rfl, by decide, by decide⟩), hok⟩⟩
end
