/-! THE READER BINDS VARIABLES -/
/-- the first constants are found -/
def CnO (cn : List (List Int)) : Prop := 12 ≤ cn.length ∧ fd cn [92] cn.length = -1 ∧ fd cn (opN 10) cn.length = 7 ∧ fd cn (opN 11) cn.length = 8 ∧ fd cn (opN 12) cn.length = 9 ∧ fd cn (opN 13) cn.length = 3
theorem tmH_le : ∀ T : aT, tmH T ≤ tmW T := by
  intro T
  induction T with
  | leaf q =>
    show (if q.1 = 2 then q.2 + 1 else 1) ≤ (if q.1 = 2 then 2 * q.2 + 1 else 1)
    split <;> omega
  | branch m a b iha ihb =>
    show (if m = 0 then 1 + max (tmH a) (tmH b) else if m = 2 then tmH a else 1 + tmH b) ≤ (if m = 0 then 1 + (tmW a + tmW b) else if m = 2 then tmW a else 1 + tmW b)
    split
    · omega
    · split <;> omega
section
variable {t : Nat → Int} {n : Nat} {ns tn : List (List Int)} {ta : List Int} {cn : List (List Int)} {ct : List aT} {B : aH}
/-- what there must be room for: a term T from state s on -/
def G1 (s : aZ) (P c sc i : Nat) (T : aT) : Prop := zz s 45 7 = 0 ∧ zz s 17 11 = 0 ∧ c + tmW T + sc ≤ 501 ∧ P + csT T ≤ i + 10999
/-- a binder's variables have been read: the innermost first -/
def VCh (t : Nat → Int) (n : Nat) (ns tn : List (List Int)) (ta : List Int) (sc0 : Nat) (s0 : aZ) (P0 i0 : Nat) : aSt → Nat → aZ → Nat → Prop
  | [], j, s, P => j = i0 ∧ s = s0 ∧ P = P0
  | q :: us, j, s, P => ∃ j' s' P', VCh t n ns tn ta sc0 s0 P0 i0 us j' s' P' ∧ VX t n ns tn ta q.2 j' j s' P' s P (zz s 42 (sc0 + us.length)).toNat ∧ ∀ k, k < sc0 + us.length → zz s 42 k = zz s' 42 k
theorem VCh.P {sc0 : Nat} {s0 : aZ} {P0 i0 : Nat} : ∀ (us : aSt) (j : Nat) (s : aZ) (P : Nat), VCh t n ns tn ta sc0 s0 P0 i0 us j s P → P + i0 ≤ P0 + us.length + j ∧ P0 ≤ P ∧ zz s 17 11 = zz s0 17 11 ∧ (us ≠ [] → zz s 45 7 = 0) ∧ ∀ k, k < sc0 → zz s 42 k = zz s0 42 k := by
  intro us
  induction us with
  | nil =>
    rintro j s P ⟨rfl, rfl, rfl⟩
    exact ⟨Nat.le_refl _, Nat.le_refl _, rfl, fun h => absurd rfl h, fun _ _ => rfl⟩
  | cons q us ih =>
    rintro j s P ⟨j', s', P', h1, h2, h3⟩
    obtain ⟨a, b, c, d, e⟩ := ih j' s' P' h1
    have v1 := h2.1
    have v2 := h2.2.1
    rw [List.length_cons]
    exact ⟨by omega, by omega, v2.2.1.trans c, fun _ => v2.1, fun k hk => (h3 k (by omega)).trans (e k hk)⟩
theorem VCh.sl {sc0 : Nat} {s0 : aZ} {P0 i0 : Nat} (hρ : ∀ y ∈ scT s0 sc0, y < P0) : ∀ (us : aSt) (j : Nat) (s : aZ) (P : Nat), VCh t n ns tn ta sc0 s0 P0 i0 us j s P → ∀ y ∈ scT s (sc0 + us.length), y < P := by
  intro us
  induction us with
  | nil =>
    rintro j s P ⟨rfl, rfl, rfl⟩
    exact hρ
  | cons q us ih =>
    rintro j s P ⟨j', s', P', h1, h2, h3⟩ y hy
    have hy : y ∈ (zz s 42 (sc0 + us.length)).toNat :: scT s (sc0 + us.length) := hy
    rcases List.mem_cons.mp hy with rfl | hy
    · exact h2.1.2.2
    · rw [scT.keep (sc0 + us.length) h3] at hy
      exact Nat.lt_of_lt_of_le (ih j' s' P' h1 y hy) h2.1.2.1
def envU (t : Nat → Int) (n : Nat) (us : aSt) (env : List (List Int)) : List (List Int) := us.map (fun q => nmK t n q.1) ++ env
theorem XRs.pop {P c sc wc : Nat} {s : aZ} (h : XRs tn ta cn ct P c (sc + 1) wc s) : XRs tn ta cn ct P c sc wc (zu s 39 3 (sc : Int)) := by
  obtain ⟨h1, h2, h3, h4, h5, h6, h7, h8, h9, h10, h11⟩ := h
  have z : ∀ k j, k ≠ 39 → zz (zu s 39 3 (sc : Int)) k j = zz s k j := fun k j hk => zz_ne _ _ _ _ _ _ (by omega)
  have zk : ∀ k, k ≠ 39 → (zu s 39 3 (sc : Int)) k = s k := fun k hk => zu_ne _ _ _ _ _ hk
  refine ⟨h1.z (z 17 8 (by decide)) (fun k k1 k2 j => z k j (by omega)), h2, h3.fr (fun k k1 k2 => zk k (by omega)), h4.fr (fun k k1 k2 => zk k (by omega)), ⟨(z 45 6 (by decide)).trans h5.1, h5.2⟩, ⟨zz_same _ _ _ ⟨by omega, by omega⟩, by omega⟩, ⟨(z 38 8 (by decide)).trans h7.1, h7.2⟩, ⟨(z 36 4 (by decide)).trans h8.1, (z 50 0 (by decide)).trans h8.2⟩, fun j hj => ?_, fun j hj => ?_, fun j hj => ?_⟩
  · rw [z 47 j (by decide), z 48 j (by decide), z 49 j (by decide)]; exact h9 j hj
  · rw [z 42 j (by decide)]; exact h10 j (by omega)
  · rw [z 43 j (by decide)]; exact h11 j hj
/-- what binding comes to -/
def XBo (t : Nat → Int) (n : Nat) (ns tn : List (List Int)) (ta : List Int) (cn : List (List Int)) (ct : List aT) (Gd : Prop) (P0 c0 sc0 wc i0 j : Nat) (env0 : List (List Int)) (U : aT) (B : aH) (s0 sx : aZ) (l : aZL) (q : aR) : Prop := ∃ (s2 : aZ) (w2 P2 c2 : Nat), q = (.inl (some (iv (w2 : Int))), mkH B s2 l) ∧ XRs tn ta cn ct P2 c2 sc0 wc s2 ∧ w2 < c2 ∧ XFr c0 sc0 wc s0 s2 ∧ XMo P0 c0 P2 c2 s0 s2 ∧ (∀ k, k ≤ 7 → s2 k = sx k) ∧ (Gd → zz s2 45 7 = 0 → zz s0 45 7 = 0 ∧ c2 = c0 + tmW U) ∧ (Gd → G1 s0 P0 c0 sc0 i0 U → RX t n ns tn ta ct (scT s0 sc0) (rsv t n cn U env0) i0 j s0 P0 c0 s2 P2 c2 w2)
theorem x_bind (hB : a_Can B) {d : Nat} (hd : 12 ≤ d) (l : aZL) (h2a : ta.getD 2 0 = 2) (hW : ∀ c, c < cn.length → wfC tn.length ta (ct.getD c cNo)) (hcn : CnO cn) (kb : Nat) (hkb : 9 ≤ kb ∧ kb ≤ 12) (cB : Int) (hc9 : kb = 9 → cB = -1) (hcB : kb ≠ 9 → cB = fd cn (opN (kb : Int)) cn.length) (sc0 wc : Nat) (x3 : Int) (env0 : List (List Int)) (s0 : aZ) (P0 c0 i0 j : Nat) (hj : j ≤ 6000) (hi0 : i0 ≤ 6000) (hρ : ∀ y ∈ scT s0 sc0, y < P0) (hs5 : sc0 ≤ 500) (Gd : Prop) (sx : aZ) : ∀ (m : Nat) (us : aSt) (T : aT) (w P c : Nat) (s : aZ), XRs tn ta cn ct P c (sc0 + m) wc s → w < c → XFr c0 sc0 wc s0 s → XMo P0 c0 P c s0 s → (∀ k, k ≤ 7 → s k = sx k) → (Gd → zz s 45 7 = 0 → m = us.length ∧ zz s0 45 7 = 0 ∧ c = c0 + tmW T) → (Gd → G1 s0 P0 c0 sc0 i0 (bdT kb us T) → ∃ j1 s1 P1, VCh t n ns tn ta sc0 s0 P0 i0 us j1 s1 P1 ∧ RX t n ns tn ta ct (scT s1 (sc0 + us.length)) (rsv t n cn T (envU t n us env0)) j1 j s1 P1 c0 s P c w ∧ (∀ k, k < sc0 + us.length → zz s 42 k = zz s1 42 k) ∧ P1 ≤ P ∧ (zz s1 17 10 = 1 → zz s 17 10 = 1)) → (Gd → ∃ jj dd, VsD t n jj us ∧ tmD t n jj dd T) → a_W d 78 3 [.ref 38, iv (sc0 : Int), iv cB, iv x3, iv (w : Int)] [] (mkH B s l) (XBo t n ns tn ta cn ct Gd P0 c0 sc0 wc i0 j env0 (bdT kb us T) B s0 sx l) := by
  intro m
  induction m with
  | zero =>
    intro us T w P c s hR hw hf hm h7 hA hX hOk
    have h6 := hR.2.2.2.2.2.1
    have e39 : zz s 39 3 = (sc0 : Nat) := h6.1
    refine w78_3 hB (by omega) _ _ _ _ s l ⟨⟨by omega, by omega⟩, fun _ => ⟨s, w, P, c, rfl, hR, hw, hf, hm, h7, fun gd e => ?_, fun gd hG => ?_⟩, fun c => absurd c (by omega)⟩
    · obtain ⟨a1, a2, a3⟩ := hA gd e
      have : us = [] := List.eq_nil_of_length_eq_zero a1.symm
      subst this
      exact ⟨a2, a3⟩
    · obtain ⟨j1, s1, P1, g1, g2, g3, g4, g5⟩ := hX gd hG
      obtain ⟨a1, a2, a3⟩ := hA gd g2.2.1.1
      have : us = [] := List.eq_nil_of_length_eq_zero a1.symm
      subst this
      obtain ⟨rfl, rfl, rfl⟩ := g1
      exact g2
  | succ m ih =>
    intro us T w P c s hR hw hf hm h7 hA hX hOk
    have h6 := hR.2.2.2.2.2.1
    have h10 := hR.2.2.2.2.2.2.2.2.2.1
    have e39 : zz s 39 3 = ((sc0 + m + 1 : Nat) : Int) := h6.1
    have hs1 : sc0 + m + 1 ≤ 500 := h6.2
    have hal := h10 (sc0 + m) (by omega)
    obtain ⟨α, eα⟩ : ∃ y : Nat, zz s 42 (sc0 + m) = y := ⟨(zz s 42 (sc0 + m)).toNat, by omega⟩
    have e1 : (zz s 39 3 - 1).toNat = sc0 + m := by omega
    refine w78_3 hB (by omega) _ _ _ _ s l ⟨⟨by omega, by omega⟩, fun c => absurd c (by omega), fun _ => ⟨⟨by omega, by omega⟩, ?_⟩⟩
    rw [e1, eα, show zz s 39 3 - 1 = ((sc0 + m : Nat) : Int) by omega]
    have hRp := XRs.pop (sc := sc0 + m) hR
    have zk : ∀ k, k ≠ 39 → (zu s 39 3 ((sc0 + m : Nat) : Int)) k = s k := fun k hk => zu_ne _ _ _ _ _ hk
    have sep : SE s (zu s 39 3 ((sc0 + m : Nat) : Int)) := ⟨fun k hk => zk k (by omega), zz_ne _ _ _ _ _ _ (by omega)⟩
    generalize (zu s 39 3 ((sc0 + m : Nat) : Int)) = sp at *
    have fp : XFr c0 sc0 wc s sp := ⟨fun k hk => zk k (by omega), fun j _ => zz_of (zk 1 (by decide)) j, zz_of (zk 17 (by decide)) 9, fun k j h1 h2 _ => zz_of (zk k (by omega)) j, fun k j h1 h2 _ => zz_of (zk k (by omega)) j, fun k j h1 h2 _ => zz_of (zk k (by omega)) j⟩
    have op : zz sp 45 7 = zz s 45 7 := zz_of (zk 45 (by decide)) 7
    refine a_W.imp (x_abs hB (by omega) l h2a hRp α w (by omega) hw) ?_
    rintro _ ⟨s4, w4, P4, c4, rfl, b1, b2, b3, b4, b5, b6, b7⟩
    have f4 : XFr c0 sc0 wc s0 s4 := hf.tr (fp.tr b2 ⟨hm.2.1, by omega, Nat.le_refl _⟩) XFrr
    have m4 : XMo P0 c0 P4 c4 s0 s4 := hm.tr ⟨b3.1, b3.2.1, fun e => b3.2.2.1 (by rw [op]; exact e), fun e => b3.2.2.2 (by rw [zz_of (zk 17 (by decide)) 10]; exact e)⟩
    have t4 : ∀ k, k ≤ 7 → s4 k = sx k := fun k hk => (b5 k (by omega)).trans ((zk k (by omega)).trans (h7 k hk))
    have cr : inR cB := by
      by_cases e : kb = 9
      · rw [hc9 e]; decide
      · rw [hcB e]
        have := fd_rng cn (opN (kb : Int))
        have h112 := hR.2.2.2.1.1.2.2.2.1
        exact ⟨by omega, by omega⟩
    -- the case of no variable in the text: overfull
    cases us with
    | nil =>
      have ov : Gd → zz s 45 7 ≠ 0 := fun gd e => by
        have := (hA gd e).1
        exact absurd this (by show ¬ (m + 1 = 0); omega)
      have ov4 : Gd → zz s4 45 7 ≠ 0 := fun gd => b3.2.2.1 (by rw [op]; exact ov gd)
      have fin : ∀ (w5 P5 c5 : Nat) (s5 : aZ), XRs tn ta cn ct P5 c5 (sc0 + m) wc s5 → w5 < c5 → XFr c0 sc0 wc s0 s5 → XMo P0 c0 P5 c5 s0 s5 → (∀ k, k ≤ 7 → s5 k = sx k) → (zz s4 45 7 ≠ 0 → zz s5 45 7 ≠ 0) → a_W d 78 3 [.ref 38, iv (sc0 : Int), iv cB, iv x3, iv (w5 : Int)] [] (mkH B s5 l) (XBo t n ns tn ta cn ct Gd P0 c0 sc0 wc i0 j env0 (bdT kb [] T) B s0 sx l) := by
        intro w5 P5 c5 s5 q1 q2 q3 q4 q5 q6
        refine ih [] T w5 P5 c5 s5 q1 q2 q3 q4 q5 (fun gd e => absurd e (q6 (ov4 gd))) (fun gd hG => ?_) hOk
        obtain ⟨j1, s1, P1, g1, g2, -⟩ := hX gd hG
        exact absurd g2.2.1.1 (ov gd)
      refine ⟨_, s4, l, rfl, cr, fun cn0 => fin w4 P4 c4 s4 b1 b4 f4 m4 t4 id, fun cp => ?_⟩
      have hk9 : kb ≠ 9 := fun e => by rw [hc9 e] at cp; exact absurd cp (by decide)
      have ec := hcB hk9
      have fr := fd_rng cn (opN (kb : Int))
      obtain ⟨c1, ec1⟩ : ∃ y : Nat, cB = y := ⟨cB.toNat, by omega⟩
      rw [ec1] at ec fin ⊢
      refine x_capp (t := t) (n := n) (ns := ns) hB (by omega) l h2a hW b1 (scT s0 sc0) c1 (by omega) w4 b4 _ ?_
      intro s7 w7 P7 c7 q1 q2 q3 q4 q5 q6 q7
      exact fin w7 P7 c7 s7 q1 q4 (f4.tr q2 ⟨m4.2.1, by omega, Nat.le_refl _⟩) (m4.tr q3) (fun k hk => (q5 k hk).trans (t4 k hk)) q3.2.2.1
    | cons q us =>
      have hlen : (q :: us).length = us.length + 1 := rfl
      have bw := bd_w kb us (b1T kb q.1 q.2 T)
      have b1w := b1_w kb q.1 q.2 T
      have ebd : bdT kb (q :: us) T = bdT kb us (b1T kb q.1 q.2 T) := rfl
      -- the exact step, for an abstraction
      have step : Gd → G1 s0 P0 c0 sc0 i0 (bdT kb (q :: us) T) → zz s 45 7 = 0 ∧ m = us.length ∧ c = c0 + tmW T ∧ ∃ j1 s1 P1, VCh t n ns tn ta sc0 s0 P0 i0 us j1 s1 P1 ∧ P + i0 ≤ P0 + (us.length + 1) + csT T + j ∧ P1 ≤ P4 ∧ (∀ k, k < sc0 + us.length → zz s4 42 k = zz s1 42 k) ∧ (zz s1 17 10 = 1 → zz s4 17 10 = 1) ∧ RX t n ns tn ta ct (scT s1 (sc0 + us.length)) (rsv t n cn (abT q.1 q.2 T) (envU t n us env0)) j1 j s1 P1 c0 s4 P4 c4 w4 := by
        intro gd hG
        obtain ⟨j1, s1, P1, ⟨j', s', P', v1, v2, v3⟩, g2, g3, g4, g5⟩ := hX gd hG
        have o0 := g2.2.1.1
        obtain ⟨a1, a2, a3⟩ := hA gd o0
        rw [hlen] at a1
        have em : m = us.length := by omega
        subst em
        obtain ⟨jj, dd, hvs, hok⟩ := hOk gd
        have hrw := rsv_w t n jj cn T (envU t n (q :: us) env0) hok.1
        have gw := g2.1
        rw [hrw.1, hrw.2.2] at gw
        have vp := VCh.P us j' s' P' v1
        have v21 := v2.1
        have eα1 : (zz s1 42 (sc0 + us.length)).toNat = α := by rw [← g3 (sc0 + us.length) (by rw [hlen]; omega), eα, natc]
        rw [eα1] at v2 v21
        obtain ⟨q1, q2, q3, q4⟩ := hG
        rw [ebd] at q3 q4
        have hP2 : P + 1 ≤ 17000 := by omega
        have hb31 := b3.1
        have hH : tmH (rsv t n cn T (nmK t n q.1 :: envU t n us env0)) = tmH T := hrw.2.1
        refine ⟨o0, rfl, a3, j', s', P', v1, by omega, by omega, fun k hk => ?_, fun e => ?_, ?_⟩
        · rw [zz_of (b5 42 (by decide)) k, zz_of (zk 42 (by decide)) k, g3 k (by rw [hlen]; omega), v3 k hk]
        · exact b3.2.2.2 (by rw [zz_of (zk 17 (by decide)) 10]; exact g5 (by rw [v2.2.1.2.2]; exact e))
        · rw [rsv_ab]
          have hsc : scT s1 (sc0 + (q :: us).length) = α :: scT s' (sc0 + us.length) := by
            show (zz s1 42 (sc0 + us.length)).toNat :: scT s1 (sc0 + us.length) = _
            rw [eα1, scT.keep (sc0 + us.length) (fun k hk => v3 k hk)]
          rw [hsc] at g2
          have hx2 := b7 (op.trans o0) (by omega) hP2
          have hρ' : ∀ y ∈ scT s' (sc0 + us.length), y < P' := VCh.sl hρ us j' s' P' v1
          exact RX.ab v2 (g2.to sep) g4 (coK_rsv _ _ _ _ _) hx2 b2 (fun e => by rw [zz_of (zk 17 (by decide)) 10]; exact g5 e) b3 (fun k hk => b5 k (by omega)) hρ' (by rw [hH]; have := tmH_le T; omega)
      have nxOk : Gd → ∃ jj dd, VsD t n jj us ∧ tmD t n jj dd (b1T kb q.1 q.2 T) := fun gd => by
        obtain ⟨jj, dd, hvs, hok⟩ := hOk gd
        exact ⟨jj, dd, fun r hr => hvs r (List.mem_cons_of_mem _ hr), tmD.b1 hkb (hvs q List.mem_cons_self).1 (hvs q List.mem_cons_self).2 hok⟩
      refine ⟨_, s4, l, rfl, cr, fun cneg => ?_, fun cp => ?_⟩
      · have hk9 : kb = 9 := Decidable.byContradiction (fun e => by
          have := hcB e
          obtain ⟨k1, k2, k4, k5, k6, k7⟩ := hcn
          rcases (show kb = 10 ∨ kb = 11 ∨ kb = 12 by omega) with rfl | rfl | rfl
          · rw [show fd cn (opN ((10 : Nat) : Int)) cn.length = 7 from k4] at this; omega
          · rw [show fd cn (opN ((11 : Nat) : Int)) cn.length = 8 from k5] at this; omega
          · rw [show fd cn (opN ((12 : Nat) : Int)) cn.length = 9 from k6] at this; omega)
        have eb : b1T kb q.1 q.2 T = abT q.1 q.2 T := if_pos hk9
        refine ih us (b1T kb q.1 q.2 T) w4 P4 c4 s4 b1 b4 f4 m4 t4 (fun gd e => ?_) (fun gd hG => ?_) nxOk
        · obtain ⟨e1, e2⟩ := b6 e
          obtain ⟨a1, a2, a3⟩ := hA gd (op.symm.trans e1)
          rw [hlen] at a1
          refine ⟨by omega, a2, ?_⟩
          rw [eb, tmW_ab]
          omega
        · obtain ⟨o0, em, ec, j1, s1, P1, v1, v2, v3, v4, v5, v6⟩ := step gd hG
          rw [eb]
          exact ⟨j1, s1, P1, v1, v6, v4, v3, v5⟩
      · have hk9 : kb ≠ 9 := fun e => by rw [hc9 e] at cp; exact absurd cp (by decide)
        have ec := hcB hk9
        have fr := fd_rng cn (opN (kb : Int))
        have eb : b1T kb q.1 q.2 T = apT (sgT kb) (abT q.1 q.2 T) := if_neg hk9
        obtain ⟨c1, ec1⟩ : ∃ y : Nat, cB = y := ⟨cB.toNat, by omega⟩
        have eS : ∀ env, rsv t n cn (sgT kb) env = .leaf (5, c1) := fun env => by
          show sgR cn kb = _
          unfold sgR cnK
          rw [if_neg (by omega), ← ec, ec1, if_pos (by omega), natc]
        have wb : tmW (b1T kb q.1 q.2 T) = tmW T + 3 := by
          rw [eb, tmW_ap, tmW_ab]
          show 1 + (1 + _) = _
          omega
        have wc' : csT (b1T kb q.1 q.2 T) = csT T + 44 := by
          rw [eb, csT_ap, csT_ab]
          show 2 + (40 + _) = _
          omega
        rw [ec1] at ih ⊢
        refine x_capp (t := t) (n := n) (ns := ns) hB (by omega) l h2a hW b1 (scT s4 (sc0 + m)) c1 (by omega) w4 b4 _ ?_
        intro s7 w7 P7 c7 q1 q2 q3 q4 q5 q6 q7
        refine ih us (b1T kb q.1 q.2 T) w7 P7 c7 s7 q1 q4 (f4.tr q2 ⟨m4.2.1, by omega, Nat.le_refl _⟩) (m4.tr q3) (fun k hk => (q5 k hk).trans (t4 k hk)) (fun gd e => ?_) (fun gd hG => ?_) nxOk
        · obtain ⟨e0, e00⟩ := q6 e
          obtain ⟨e1, e2⟩ := b6 e0
          obtain ⟨a1, a2, a3⟩ := hA gd (op.symm.trans e1)
          rw [hlen] at a1
          exact ⟨by omega, a2, by omega⟩
        · obtain ⟨o0, em, ec', j1, s1, P1, v1, v2, v3, v4, v5, v6⟩ := step gd hG
          obtain ⟨jj, dd, hvs, hok⟩ := hOk gd
          have hrw := rsv_w t n jj cn (abT q.1 q.2 T) (envU t n us env0) (tmD.ab (hvs q List.mem_cons_self).1 (hvs q List.mem_cons_self).2 hok).1
          have hH := tmH_le T
          have vp := VCh.P us j1 s1 P1 v1
          have w61 := v6.1.1
          have w62 := v6.1.2
          rw [hrw.1, tmW_ab] at w61
          rw [hrw.2.2, csT_ab] at w62
          subst em
          have esc : scT s4 (sc0 + us.length) = scT s1 (sc0 + us.length) := scT.keep _ v4
          obtain ⟨g1, g2, g3, g4⟩ := hG
          refine ⟨j1, s1, P1, v1, ?_, fun k hk => (q2.2.2.2.2.1 42 k (by decide) (by decide) hk).trans (v4 k hk), Nat.le_trans v3 q3.1, fun e => q3.2.2.2 (v5 e)⟩
          rw [eb, rsv_ap, eS, ← esc]
          rw [← esc] at v6
          refine q7 _ j1 j s1 P1 c0 v6 ?_ v3 (coK_rsv _ _ _ _ _) (by rw [hrw.2.1, tmH_ab]; omega) (by omega) (by omega)
          rw [esc]
          exact VCh.sl hρ us j1 s1 P1 v1
end
