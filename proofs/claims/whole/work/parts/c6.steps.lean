/-! THE READER'S STEPS: a constant applied, numerals, abstractions, written types -/
section
variable {t : Nat → Int} {n : Nat} {ns tn : List (List Int)} {ta : List Int} {cn : List (List Int)} {ct : List aT} {B : aH}
/-- a constant is applied to a node that is there -/
theorem x_capp (hB : a_Can B) {d : Nat} (hd : 10 ≤ d) (l : aZL) (h2a : ta.getD 2 0 = 2) (hW : ∀ c, c < cn.length → wfC tn.length ta (ct.getD c cNo)) {P c sc wc : Nat} {s : aZ} (hR : XRs tn ta cn ct P c sc wc s) (ρ : List Nat) (c1 : Nat) (h1 : c1 < cn.length) (x : Nat) (hx : x < c) (Z : Int → aZ → aZL → Prop) (hZ : ∀ (s7 : aZ) (w P7 c7 : Nat), XRs tn ta cn ct P7 c7 sc wc s7 → XFr c sc wc s s7 → XMo P c P7 c7 s s7 → w < c7 → (∀ k, k ≤ 7 → s7 k = s k) → (zz s7 45 7 = 0 → zz s 45 7 = 0 ∧ c7 = c + 2) → (∀ Kx i j s0 P0 c0, RX t n ns tn ta ct ρ Kx i j s0 P0 c0 s P c x → (∀ k ∈ ρ, k < P0) → P0 ≤ P → coK Kx → tmH Kx ≤ 100000 → c + 2 ≤ 501 → P + 42 ≤ 17000 → RX t n ns tn ta ct ρ (apT (.leaf (5, c1)) Kx) i j s0 P0 c0 s7 P7 c7 w) → Z (w : Int) s7 l) : a_W (d - 1) 82 0 [.ref 38, iv (c1 : Int)] [] (mkH B s l) (fun r => ∃ (v6 : Int) (s4 : Nat → Nat → Int32) (l5 : Nat → Nat → Int64), r = (.inl (some (iv v6)), mkH B s4 l5) ∧ a_W (d - 1) 87 0 [.ref 45, iv v6, iv (x : Int), .retAddr 0] [] (mkH B s4 l5) (fun r => ∃ (v9 : Int) (s7 : Nat → Nat → Int32) (l8 : Nat → Nat → Int64), r = (.inl (some (iv v9)), mkH B s7 l8) ∧ Z v9 s7 l8)) := by
  refine a_W.imp (x_const1 (t := t) (n := n) (ns := ns) hB (by omega) l h2a hW hR ρ c1 h1) ?_
  rintro _ ⟨s4, w4, P4, c4, rfl, a1, a2, a3, a4, a5, a6, a7⟩
  have hc4 := a3.2.1
  refine ⟨_, s4, l, rfl, a_W.imp (x_app hB (by omega) l h2a a1 w4 x a4 (by omega)) ?_⟩
  rintro _ ⟨s7, w, P7, c7, rfl, b1, b2, b3, b4, b5, b6, b7⟩
  refine ⟨_, s7, l, rfl, hZ s7 w P7 c7 b1 (a2.tr b2 ⟨hc4, Nat.le_refl _, Nat.le_refl _⟩) (a3.tr b3) b4 (fun k hk => (b5 k (by omega)).trans (a5 k hk)) (fun e => ?_) ?_⟩
  · obtain ⟨e1, e2⟩ := b6 e
    obtain ⟨e3, e4⟩ := a6 e1
    have : tmW (.leaf (5, c1)) = 1 := rfl
    exact ⟨e3, by omega⟩
  · intro Kx i j s0 P0 c0 hX hρ hP0 hk hH hc2 hP2
    have w1 : tmW (.leaf (5, c1)) = 1 := rfl
    have w2 : csT (.leaf (5, c1)) = 40 := rfl
    have o0 : zz s 45 7 = 0 := hX.2.1.1
    have r1 := a7 o0 (by rw [w1]; omega) (by rw [w2]; omega) j
    have o4 : zz s4 45 7 = 0 := r1.2.1.1
    have c4e : c4 = c + 1 := r1.1.1
    have p4e : P4 + j ≤ P + 40 + j := r1.1.2
    have r2 := (R2.mk hX r1 a2 a3 hρ hP0).swap
    exact RX.ap r2 (show (5 : Nat) ≠ 2 by decide) hk (b7 o4 (by omega) (by omega)) b2 b3 (fun k hk => b5 k (by omega)) (Nat.le_trans hP0 a3.1) ⟨by show 1 ≤ 100000; decide, hH⟩
/-- a numeral -/
theorem x_num (hB : a_Can B) {d : Nat} (hd : 10 ≤ d) (l : aZL) (h2a : ta.getD 2 0 = 2) (hW : ∀ c, c < cn.length → wfC tn.length ta (ct.getD c cNo)) (h12 : 12 ≤ cn.length) {P c sc wc : Nat} {s : aZ} (hR : XRs tn ta cn ct P c sc wc s) (ρ : List Nat) (hρ : ∀ k ∈ ρ, k < P) (v : Nat) (hv : v ≤ 49) : a_W d 99 0 [.ref 38, iv (v : Int), .retAddr 0, .retAddr 0] [] (mkH B s l) (XNo t n ns tn ta cn ct ρ (numK v) P c sc wc B s l) := by
  have loop : ∀ (r k x P1 c1 : Nat) (s1 : aZ), k + r = v → XRs tn ta cn ct P1 c1 sc wc s1 → XFr c sc wc s s1 → XMo P c P1 c1 s s1 → x < c1 → (∀ k, k ≤ 7 → s1 k = s k) → (zz s1 45 7 = 0 → zz s 45 7 = 0 ∧ c1 = c + tmW (numK k)) → (zz s 45 7 = 0 → c + tmW (numK v) ≤ 501 → P + csT (numK v) ≤ 17000 → ∀ i, RX t n ns tn ta ct ρ (numK k) i i s P c s1 P1 c1 x) → a_W d 99 9 [.ref 38, iv (v : Int), iv (x : Int), iv (k : Int)] [] (mkH B s1 l) (XNo t n ns tn ta cn ct ρ (numK v) P c sc wc B s l) := by
    intro r
    induction r with
    | zero =>
      intro k x P1 c1 s1 hk a1 a2 a3 a4 a5 a6 a7
      have e : k = v := by omega
      subst e
      exact w99_9 hB (by omega) _ _ _ s1 l ⟨⟨by omega, by omega⟩, ⟨by omega, by omega⟩, fun _ => ⟨s1, x, P1, c1, rfl, a1, a2, a3, a4, a5, a6, a7⟩, fun c => absurd c (by omega)⟩
    | succ r ih =>
      intro k x P1 c1 s1 hk a1 a2 a3 a4 a5 a6 a7
      obtain ⟨w1, w2, w3⟩ := numK_w k
      obtain ⟨v1, v2, v3⟩ := numK_w v
      have n1 : tmW (numK (k + 1)) = tmW (numK k) + 2 := by rw [(numK_w (k + 1)).1, w1]; omega
      refine w99_9 hB (by omega) _ _ _ s1 l ⟨⟨by omega, by omega⟩, ⟨by omega, by omega⟩, fun c => absurd c (by omega), fun _ => ?_⟩
      refine x_capp (t := t) (n := n) (ns := ns) hB hd l h2a hW a1 ρ 11 (by omega) x a4 (fun v9 s7 l8 => a_W d 99 9 [.ref 38, iv (v : Int), iv v9, iv ((k : Int) + 1)] [] (mkH B s7 l8) (XNo t n ns tn ta cn ct ρ (numK v) P c sc wc B s l)) ?_
      intro s7 w P7 c7 b1 b2 b3 b4 b5 b6 b7
      rw [show (k : Int) + 1 = ((k + 1 : Nat) : Int) by omega]
      refine ih (k + 1) w P7 c7 s7 (by omega) b1 (a2.tr b2 ⟨a3.2.1, Nat.le_refl _, Nat.le_refl _⟩) (a3.tr b3) b4 (fun k hk => (b5 k hk).trans (a5 k hk)) (fun e => ?_) (fun e1 e2 e3 i => ?_)
      · obtain ⟨e1, e2⟩ := b6 e
        obtain ⟨e3, e4⟩ := a6 e1
        exact ⟨e3, by omega⟩
      · have hX := a7 e1 e2 e3 i
        have q1 := hX.1.1
        have q2 := hX.1.2
        exact b7 (numK k) i i s P c hX hρ a3.1 (coK_num k) (by omega) (by omega) (by omega)
  refine w99_0 hB (by omega) _ s l (a_W.imp (x_const1 (t := t) (n := n) (ns := ns) hB (by omega) l h2a hW hR ρ 10 (by omega)) ?_)
  rintro _ ⟨s4, w4, P4, c4, rfl, a1, a2, a3, a4, a5, a6, a7⟩
  obtain ⟨v1, v2, v3⟩ := numK_w v
  exact ⟨_, s4, l, rfl, loop v 0 w4 P4 c4 s4 (by omega) a1 a2 a3 a4 a5 a6 (fun e1 e2 e3 i => a7 e1 (by show c + 1 ≤ 501; omega) (by show P + 40 ≤ 17000; omega) i)⟩
/-- an abstraction is made -/
def AbsX (ta : List Int) (P c α b : Nat) (s : aZ) (P2 : Nat) (s2 : aZ) (w c2 : Nat) : Prop := (w = c ∧ c2 = c + 1) ∧ (zz s2 45 7 = 0 ∧ P2 = P + 1 ∧ zz s2 17 11 = zz s 17 11) ∧ (zz s2 46 c = -2 ∧ zz s2 47 c = b ∧ zz s2 48 c = 0 ∧ zz s2 49 c = P) ∧ (inR (1 + max (zz s 50 b) 0) → zz s2 50 c = 1 + max (zz s 50 b) 0) ∧ ((∃ rt u, PE (arT ta) P s rt u) → zz s 17 10 = 0 → zz s2 17 10 = 0 ∧ (∃ rt u, PE (arT ta) (P + 1) s2 rt u) ∧ ∀ v, Vl unX (P + 1) (vwX s2) v ↔ (Vl unX P (vwX s) v ∧ v P = fnT (v α) (v (zz s 49 b).toNat)))
theorem x_abs (hB : a_Can B) {d : Nat} (hd : 7 ≤ d) (l : aZL) (h2a : ta.getD 2 0 = 2) {P c sc wc : Nat} {s : aZ} (hR : XRs tn ta cn ct P c sc wc s) (α b : Nat) (hα : α < P) (hb : b < c) : a_W d 80 0 [.ref 45, iv (α : Int), iv (b : Int)] [] (mkH B s l) (fun q => ∃ (s2 : aZ) (w P2 c2 : Nat), q = (.inl (some (iv (w : Int))), mkH B s2 l) ∧ XRs tn ta cn ct P2 c2 sc wc s2 ∧ XFr c sc wc s s2 ∧ XMo P c P2 c2 s s2 ∧ w < c2 ∧ (∀ k, (k < 17 ∨ (24 < k ∧ k < 45) ∨ 50 < k) → s2 k = s k) ∧ (zz s2 45 7 = 0 → zz s 45 7 = 0 ∧ c2 = c + 1) ∧ (zz s 45 7 = 0 → c < 501 → P + 1 ≤ 17000 → AbsX ta P c α b s P2 s2 w c2)) := by
  have h5 := hR.2.2.2.2.1
  have h8 := hR.2.2.2.2.2.2.2.1
  have h9 := hR.2.2.2.2.2.2.2.2.1
  have h2r : arT ta 2 = 2 := by unfold arT; rw [if_neg (by decide), show (2 : Int).toNat = 2 from rfl, h2a]; rfl
  refine w80_0 hB (by omega) _ _ s l ⟨fun c0 => ⟨⟨by omega, by omega⟩, ?_⟩, fun c0 => ⟨s, 0, P, c, rfl, hR, XFr.rf _ _ _ _, XMo.rf _ _ _, by omega, fun _ _ => rfl, fun e => absurd e c0, fun e => absurd e c0⟩⟩
  rw [natc]
  have t1 := (h9 b hb).2.2
  obtain ⟨tb, eb⟩ : ∃ y : Nat, zz s 49 b = y := ⟨(zz s 49 b).toNat, by omega⟩
  rw [eb]
  refine a_W.imp (x_functionG hB (by omega) l P hR.2.1 s hR.1 (α : Int) (tb : Int) ⟨by omega, by omega⟩ ⟨by omega, by omega⟩) ?_
  rintro _ ⟨s3, w3, P3, rfl, hG⟩
  obtain ⟨g1, g2, g3, g4, -⟩ := hG.safe (by decide) ⟨by omega, by omega⟩ ⟨by omega, by omega⟩ hR.1 (fun _ => ⟨by omega, by omega⟩)
  obtain ⟨f3, q3, r3⟩ := hG.fa (by decide) ⟨by omega, by omega⟩ ⟨by omega, by omega⟩ hR.1 (fun _ => ⟨by omega, by omega⟩)
  have hR3 := hR.lo f3.lo g1 g2 g3
  refine ⟨_, s3, l, rfl, a_W.imp (x_tadd hB (by omega) l hR3 (-2) (by decide) b 0 w3 hb (by omega) g4) ?_⟩
  rintro _ ⟨s7, w, c2, rfl, k1, k2, k3, k4, k5, k6, k7, k8⟩
  have e45 : zz s3 45 7 = zz s 45 7 := zz_of (f3.1 45 (by decide)) 7
  have zp : ∀ k j, k < 45 → zz s7 k j = zz s3 k j := fun k j hk => zz_of (k3 k (by omega)) j
  refine ⟨_, s7, l, rfl, s7, w, P3, c2, rfl, k1, (f3.lo.fr c sc wc).tr k2 XFrr, ⟨g2, k5, fun e => k6 (by rw [e45]; exact e), fun e => by rw [zp 17 10 (by decide), q3]; exact e⟩, k4, fun k hk => (k3 k (by omega)).trans (f3.1 k (by omega)), fun e => by rw [← e45]; exact k7 e, fun e1 e2 e3 => ?_⟩
  obtain ⟨m1, m2, m3, m4, m5, m6, m7, m8⟩ := k8 (e45.trans e1) e2
  obtain ⟨rfl, rfl, hN⟩ := hG.pn (by omega)
  have z50 : ∀ j, zz s3 50 j = zz s 50 j := fun j => zz_of (f3.1 50 (by decide)) j
  rw [z50, z50, h8.2] at m8
  obtain ⟨-, -, n3, -, -⟩ := hN.facts (by omega) (by decide) ⟨by omega, by omega⟩ ⟨by omega, by omega⟩ hR.1 (fun _ => ⟨by omega, by omega⟩)
  refine ⟨⟨m2, m3⟩, ⟨m1, rfl, (zp 17 11 (by decide)).trans (n3 11 (by decide))⟩, ⟨m4, m5, m6, m7⟩, m8, ?_⟩
  rintro ⟨rt, u, hE⟩ hc
  obtain ⟨hE2, hV2⟩ := PN.pe hE (by omega) (by decide) (by decide) ⟨by omega, by omega⟩ ⟨by omega, by omega⟩ (fun _ => ⟨by omega, by omega⟩) (fun _ => ⟨⟨fun _ => by rw [h2r]; decide, fun _ => by omega⟩, ⟨fun _ => by rw [h2r]; decide, fun _ => by omega⟩⟩) hN
  have ev : vwX s7 = vwX s3 := vwX_of (fun k k1' k2' j => zp k j (by omega))
  refine ⟨(zp 17 10 (by decide)).trans (q3.trans hc), ⟨_, _, hE2.vw k1.1 ev⟩, fun v => ?_⟩
  rw [ev, hV2 v, eb, natc, ptT_p _ _ (by omega), ptT_p _ _ (by omega), natc, natc]
  exact ⟨fun h => ⟨h.1, h.2 (by decide)⟩, fun h => ⟨h.1, fun _ => h.2⟩⟩
/-- a variable of a binder: its type's node α -/
def VX (t : Nat → Int) (n : Nat) (ns tn : List (List Int)) (ta : List Int) (ty : aT) (i j : Nat) (s : aZ) (P : Nat) (s2 : aZ) (P2 α : Nat) : Prop := (P2 + i ≤ P + 1 + j ∧ P ≤ P2 ∧ α < P2) ∧ (zz s2 45 7 = 0 ∧ zz s2 17 11 = zz s 17 11 ∧ zz s2 17 10 = zz s 17 10) ∧ (zz s2 38 9 = zz s 38 9 ∧ zz s2 36 6 = bF (tyBad t n tn ta ty) (zz s 36 6) ∧ (zz s2 36 5 ≠ 0 ↔ (zz s 36 5 ≠ 0 ∨ (40 < tyW ty ∨ 12 < tyH ty)))) ∧ (tyBad t n tn ta ty = false → (∃ rt u, PE (arT ta) P s rt u) → (∃ rt u, PE (arT ta) P2 s2 rt u) ∧ (∀ v, Vl unX P2 (vwX s2) v → Vl unX P (vwX s) v ∧ (ty ≠ noT → v α = cdT t n ns tn ty)) ∧ ∀ v τ, Vl unX P (vwX s) v → (ty ≠ noT → τ = cdT t n ns tn ty) → ∃ v2, Vl unX P2 (vwX s2) v2 ∧ (∀ k, k < P → v2 k = v k) ∧ v2 α = τ)
theorem RX.ab {ρ : List Nat} {ty Kb : aT} {i j1 j : Nat} {s s1 s2 s3 : aZ} {P P1 P2 P3 c c2 c3 α wb w sc wc : Nat} (hv : VX t n ns tn ta ty i j1 s P s1 P1 α) (hb : RX t n ns tn ta ct (α :: ρ) Kb j1 j s1 P1 c s2 P2 c2 wb) (hP : P1 ≤ P2) (kb : coK Kb) (hA : AbsX ta P2 c2 α wb s2 P3 s3 w c3) (hf : XFr c2 sc wc s2 s3) (hm1 : zz s1 17 10 = 1 → zz s2 17 10 = 1) (hm : XMo P2 c2 P3 c3 s2 s3) (hk : ∀ k, (24 < k ∧ k < 45) → s3 k = s2 k) (hρ : ∀ k ∈ ρ, k < P) (hH : tmH Kb ≤ 100000) : RX t n ns tn ta ct ρ (.branch 1 ty Kb) i j s P c s3 P3 c3 w := by
  obtain ⟨⟨v1, v2, v3⟩, ⟨v4, v5, v6⟩, ⟨v7, v8, v9⟩, v10⟩ := hv
  obtain ⟨⟨a1, a2⟩, ⟨a3, a4⟩, ⟨a5, a6, a7⟩, L, a8, ⟨a9, aC⟩, a10⟩ := hb
  obtain ⟨⟨ew, ec⟩, ⟨b1, b2, b3⟩, ⟨b4, b5, b6, b6'⟩, b7, b10⟩ := hA
  subst ew
  subst ec
  subst b2
  obtain ⟨t1, t2, t3, t4⟩ := TI.top _ _ _ kb a8
  have pb := tm_pos Kb
  have hh := b7 (by rw [t2]; exact ⟨by omega, by omega⟩)
  rw [t2] at hh
  have z38 : zz s3 38 9 = zz s2 38 9 := zz_of (hk 38 (by decide)) 9
  have z36 : ∀ j, zz s3 36 j = zz s2 36 j := fun j => zz_of (hk 36 (by decide)) j
  refine ⟨⟨by show w + 1 = c + (1 + tmW Kb); omega, by show P2 + 1 + i ≤ P + (2 + csT Kb) + j; omega⟩, ⟨b1, b3.trans (a4.trans v5)⟩, ⟨by rw [z38, a5, v7]; rfl, by rw [z36, a6, v8, bF_or]; rfl, by rw [z36, a7, v9, or_assoc]; rfl⟩, P2 :: L, TI_ab.mpr ⟨⟨by omega, by omega⟩, b4, by rw [hh]; show 1 + max _ _ = ((1 + tmH Kb : Nat) : Int); omega, b6, wb, L, b5, TI.keep (fun k j h1 h2 _ h4 => hf.2.2.2.1 k j h1 h2 h4) (Nat.le_refl _) (Nat.le_succ _) _ _ _ a8, by rw [b6', natc]⟩, ⟨fun k hk => ?_, fun y h1 h2 => if e : y = w then by rw [e, b6', natc]; exact List.mem_cons_self else by rw [hf.2.2.2.1 49 y (by decide) (by decide) (by omega)]; exact List.mem_cons_of_mem _ (aC y h1 (by omega))⟩, fun hu hbd hE hc => ?_⟩
  · rcases List.mem_cons.mp hk with rfl | hk
    · omega
    · exact Nat.lt_succ_of_lt (a9 k hk)
  · have hbd : (tyBad t n tn ta ty || bdA t n tn ta Kb) = false := hbd
    obtain ⟨d1, d2⟩ := Bool.or_eq_false_iff.mp hbd
    obtain ⟨w1, w2, w3⟩ := v10 d1 hE
    have hmap : ∀ v : Nat → aT, (α :: ρ).map v = v α :: ρ.map v := fun v => rfl
    have hd1 : ∀ v : Nat → aT, hdT (L.map v) = v (zz s2 49 wb).toNat := fun v => by rw [hd_map (by omega), t3]
    rcases a10 hu d2 w1 (v6.trans hc) with ⟨c1, no⟩ | ⟨c1, cE, cs, cc⟩
    · refine Or.inl ⟨hm.2.2.2 c1, fun v R hV hT => ?_⟩
      obtain ⟨τ, Rb, q1, q2, q3⟩ := (tyd_ab _ _ _ _).mp hT
      obtain ⟨v', k1, k2, k3⟩ := w3 v τ hV q1
      refine no v' Rb k1 ?_
      rw [hmap, k3, map_agree hρ k2]
      exact q2
    · obtain ⟨e1, eE, eV⟩ := b10 cE c1
      refine Or.inr ⟨e1, eE, fun v hV => ?_, fun v R hV hT => ?_⟩
      · obtain ⟨g1, g2⟩ := (eV v).mp hV
        obtain ⟨g3, g4⟩ := cs v g1
        obtain ⟨g5, g6⟩ := w2 v g3
        refine ⟨g5, (tyd_ab _ _ _ _).mpr ⟨v α, L.map v, g6, g4, ?_⟩⟩
        rw [List.map_cons, g2, hd1]
      · obtain ⟨τ, Rb, q1, q2, q3⟩ := (tyd_ab _ _ _ _).mp hT
        obtain ⟨v', k1, k2, k3⟩ := w3 v τ hV q1
        obtain ⟨v'', l1, l2, l3⟩ := cc v' Rb k1 (by rw [hmap, k3, map_agree hρ k2]; exact q2)
        have hV2 : Vl unX P2 (vwX s2) (fun k => if k = P2 then fnT τ (hdT Rb) else v'' k) := by
          obtain ⟨rt, u, hE2⟩ := cE
          exact l1.congr hE2.2.2.1.1 (fun k hk => (hE2.2.1 k hk).1) (fun k hk => if_neg (by omega))
        have ag : ∀ k, k < P2 → (if k = P2 then fnT τ (hdT Rb) else v'' k) = v'' k := fun k hk => if_neg (by omega)
        have eα : v'' α = τ := (l2 α (by omega)).trans k3
        have tb : (zz s2 49 wb).toNat < P2 := by
          have := a9 _ (show L.headD 0 ∈ L by cases L with | nil => exact absurd t4 (by intro h; rw [List.length_nil] at h; omega) | cons a L => exact List.mem_cons_self)
          rw [t3] at this
          exact this
        refine ⟨fun k => if k = P2 then fnT τ (hdT Rb) else v'' k, (eV _).mpr ⟨hV2, ?_⟩, fun k hk => ?_, ?_⟩
        · show (if P2 = P2 then fnT τ (hdT Rb) else v'' P2) = fnT (if α = P2 then _ else v'' α) (if (zz s2 49 wb).toNat = P2 then _ else v'' (zz s2 49 wb).toNat)
          rw [if_pos rfl, if_neg (by omega), if_neg (by omega), eα, ← hd1 v'', l3]
        · show (if k = P2 then _ else v'' k) = v k
          rw [if_neg (by omega), l2 k (by omega), k2 k hk]
        · rw [List.map_cons, q3, map_agree a9 ag, l3]
          show (if P2 = P2 then fnT τ (hdT Rb) else v'' P2) :: Rb = _
          rw [if_pos rfl]
end
