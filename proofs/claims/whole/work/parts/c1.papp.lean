/-! A FUNCTION IS APPLIED TO AN ARGUMENT: its type -/
theorem vwX_a2 {s s2 : aZ} (h : ∀ k, 18 ≤ k → k ≤ 20 → ∀ j, zz s2 k j = zz s k j) : (vwX s2).2 = (vwX s).2 := by
  show (fun k => zz s2 18 k, fun k => zz s2 19 k, fun k => zz s2 20 k) = (fun k => zz s 18 k, fun k => zz s 19 k, fun k => zz s 20 k)
  rw [funext (fun j => h 18 (by decide) (by decide) j), funext (fun j => h 19 (by decide) (by decide) j), funext (fun j => h 20 (by decide) (by decide) j)]
section
variable {ar : Int → Nat}
theorem ClP.of {un : Int} {P : Nat} {A A2 : aPl} {rt : Nat → Nat} (h : ClP un P A rt) (e : A2.2 = A.2) : ClP un P A2 rt := by
  intro k hk
  rw [e]
  exact h k hk
theorem PE.vw {P : Nat} {s s2 : aZ} {rt u : Nat → Nat} (h : PE ar P s rt u) (hS : PS P s2) (e : vwX s2 = vwX s) : PE ar P s2 rt u := ⟨hS, by rw [e]; exact h.2.1, by rw [e]; exact h.2.2.1, by rw [e]; exact h.2.2.2⟩
theorem PE.hv {P : Nat} {s s2 : aZ} {rt u : Nat → Nat} (h : PE ar P s rt u) (a : Hv P s s2) : PE ar P s2 rt u ∧ ∀ v, Vl unX P (vwX s2) v ↔ Vl unX P (vwX s) v := by
  obtain ⟨h1, h2, h3, h4⟩ := h
  obtain ⟨g1, g2, g3, g4⟩ := a.uf h2 h1.2.2.1
  exact ⟨⟨a.ps h1, g1, h3.of a.a2, h4.of a.a2⟩, g3 unX⟩
/-- valuations see the nodes of the pool alone -/
theorem Vl.congr {un : Int} {P : Nat} {A : aPl} {v v2 : Nat → aT} (hV : Vl un P A v) (hR : RgP P A) (h1 : ∀ k, k < P → A.1 k < P) (e : ∀ k, k < P → v2 k = v k) : Vl un P A v2 := by
  have p : ∀ x : Int, -1 ≤ x → x < P → ptT v2 x = ptT v x := fun x q1 q2 => by
    unfold ptT
    split
    · rfl
    · exact e _ (by omega)
  intro k hk
  obtain ⟨a, b⟩ := hV k hk
  obtain ⟨r1, r2, -⟩ := hR k hk
  refine ⟨by rw [e k hk, e _ (h1 k hk)]; exact a, fun c => ?_⟩
  rw [e k hk, p _ r1.1 r1.2, p _ r2.1 r2.2]
  exact b c
end
/-- a new node: the pool at rest, its valuations -/
theorem PN.pe {ta : List Int} {P : Nat} {c one other : Int} {s s2 : aZ} {rt u : Nat → Nat} (h : PE (arT ta) P s rt u) (hP : P < 17000) (hc : inR c) (hcu : -1000000 ≤ c) (h1 : -1 ≤ one ∧ one < P) (h2 : -1 ≤ other ∧ other < P) (hF : c = 2 → 0 ≤ one ∧ 0 ≤ other) (ha : c ≠ -1000000 → (0 ≤ one ↔ 1 ≤ arT ta c) ∧ (0 ≤ other ↔ 2 ≤ arT ta c)) (hN : PN P c one other s s2) (hu : c = -1000000 → one < 0 ∧ other < 0 := by omega) : PE (arT ta) (P + 1) s2 (rtB P rt) (uB P u) ∧ ∀ v, Vl unX (P + 1) (vwX s2) v ↔ (Vl unX P (vwX s) v ∧ (c ≠ unX → v P = .branch (enc c) (ptT v one) (ptT v other))) := by
  have hS2 := (hN.facts hP hc h1 h2 h.1 hF).1
  obtain ⟨s1, a, b, rfl, hv, ra, rb, -⟩ := hN
  obtain ⟨n1, n2, n3, n4⟩ := nwP_at s P c one other hP hc ⟨by omega, by omega⟩ ⟨by omega, by omega⟩
  have ne := fun k j hj => nwP_ne s P c one other k j hj
  obtain ⟨p0, p1, p2, p3⟩ := h.1
  generalize hn : nwP s P c one other = n0 at *
  have z0 : ∀ k j, 18 ≤ k → zz (zu n0 17 8 ((P : Int) + 1)) k j = zz n0 k j := fun k j hk => zz_ne _ _ _ _ _ _ (by omega)
  have hS0 : PS (P + 1) (zu n0 17 8 ((P : Int) + 1)) := by
    refine ⟨by omega, ?_, fun j hj => ?_, fun j hj => ?_⟩
    · rw [zz_same _ _ _ ⟨by omega, by omega⟩]; rfl
    · rw [z0 21 j (by decide)]
      by_cases e : j = P
      · rw [e, n4]; omega
      · rw [ne 21 j (by omega)]
        have := p2 j (by omega)
        omega
    · rw [z0 18 j (by decide), z0 19 j (by decide), z0 20 j (by decide)]
      by_cases e : j = P
      · rw [e, n1, n2, n3]
        exact ⟨⟨h1.1, by omega⟩, ⟨h2.1, by omega⟩, hF⟩
      · rw [ne 18 j (by omega), ne 19 j (by omega), ne 20 j (by omega)]
        have := p3 j (by omega)
        exact ⟨⟨this.1.1, by omega⟩, ⟨this.2.1.1, by omega⟩, this.2.2⟩
  have hf0 : PFr P s (zu n0 17 8 ((P : Int) + 1)) := fun k k1 k2 j hj => (z0 k j k1).trans (ne k j (by omega))
  have hN0 : NwO ta P (P + 1) (zu n0 17 8 ((P : Int) + 1)) := NwO.one (c := c) (x := one) (y := other) ⟨(z0 18 P (by decide)).trans n1, (z0 19 P (by decide)).trans n2, (z0 20 P (by decide)).trans n3, (z0 21 P (by decide)).trans n4⟩ (by omega) (by omega) hcu ha hu
  obtain ⟨⟨q1, q2, q3, q4⟩, qc, -⟩ := h.blk (Nat.le_succ P) hS0 hf0 hN0
  have ev0 : vwX (zu n0 17 8 ((P : Int) + 1)) = vwX n0 := vwX_of (fun k k1 k2 j => z0 k j k1)
  rw [ev0] at q2 q3 q4
  have hPP : PP (P + 1) n0 := fun j hj => by rw [← z0 21 j (by decide)]; exact hS0.2.2.1 j hj
  obtain ⟨g1, g2, g3, g4⟩ := (hv.mono (Nat.le_succ P)).uf q2 hPP
  have ev2 : vwX (zu (zu (zu s1 22 P a) 23 P b) 17 8 ((P : Int) + 1)) = vwX s1 := vwX_of (fun k k1 k2 j => by rw [zz_ne _ _ _ _ _ _ (by omega), zz_ne _ _ _ _ _ _ (by omega), zz_ne _ _ _ _ _ _ (by omega)])
  refine ⟨⟨hS2, by rw [ev2]; exact g1, by rw [ev2]; exact q3.of hv.a2, by rw [ev2]; exact q4.of hv.a2⟩, fun v => ?_⟩
  rw [ev2, g3 unX v]
  have eo : ∀ k, k < P → (vwX n0).1 k = (vwX s).1 k ∧ (vwX n0).2.1 k = (vwX s).2.1 k ∧ (vwX n0).2.2.1 k = (vwX s).2.2.1 k ∧ (vwX n0).2.2.2 k = (vwX s).2.2.2 k := fun k hk => ⟨by show (zz n0 21 k).toNat = (zz s 21 k).toNat; rw [ne 21 k (by omega)], ne 18 k (by omega), ne 19 k (by omega), ne 20 k (by omega)⟩
  constructor
  · intro hV
    refine ⟨hV.cut (Nat.le_succ P) eo, fun hcx => ?_⟩
    have := (hV P (Nat.lt_succ_self _)).2 (by show zz n0 18 P ≠ unX; rw [n1]; exact hcx)
    rw [show (vwX n0).2.1 P = c from n1, show (vwX n0).2.2.1 P = one from n2, show (vwX n0).2.2.2 P = other from n3] at this
    exact this
  · rintro ⟨hV, hp⟩ k hk
    by_cases e : k = P
    · subst e
      refine ⟨by rw [show (vwX n0).1 k = k by show (zz n0 21 k).toNat = k; rw [n4, natc]], fun hcx => ?_⟩
      rw [show (vwX n0).2.1 k = c from n1, show (vwX n0).2.2.1 k = one from n2, show (vwX n0).2.2.2 k = other from n3]
      exact hp (by rw [show (vwX n0).2.1 k = c from n1] at hcx; exact hcx)
    · obtain ⟨a1, a2, a3, a4⟩ := eo k (by omega)
      rw [a1, a2, a3, a4]
      exact hV k (by omega)
/-- what it touches: the pool alone -/
def FrA (s s2 : aZ) : Prop := (∀ k, (k < 17 ∨ 24 < k) → s2 k = s k) ∧ zz s2 17 9 = zz s 17 9
theorem FrA.rf (s : aZ) : FrA s s := ⟨fun _ _ => rfl, rfl⟩
theorem FrA.tr {s1 s2 s3 : aZ} (a : FrA s1 s2) (b : FrA s2 s3) : FrA s1 s3 := ⟨fun k h => (b.1 k h).trans (a.1 k h), b.2.trans a.2⟩
theorem Hv.fa {P : Nat} {s s2 : aZ} (a : Hv P s s2) : FrA s s2 := ⟨fun k h => a.k k (by omega), zz_of (a.k 17 (by decide)) 9⟩
theorem FrJ.fa {s s2 : aZ} (a : FrJ s s2) : FrA s s2 := ⟨fun k h => a.1 k (by omega) (by omega) (by omega), a.2 9 (by decide) (by decide)⟩
theorem PG.fa {P w P2 : Nat} {c one other : Int} {s s2 : aZ} (hc : inR c) (h1 : -1 ≤ one ∧ one < P) (h2 : -1 ≤ other ∧ other < P) (hS : PS P s) (h : PG P c one other s s2 w P2) (hF : c = 2 → 0 ≤ one ∧ 0 ≤ other) : FrA s s2 ∧ zz s2 17 10 = zz s 17 10 ∧ P2 ≤ P + 1 := by
  rcases h with ⟨g1, rfl, rfl, hN⟩ | ⟨g1, rfl, rfl, rfl⟩
  · obtain ⟨k1, k2, k3, k4, k5⟩ := hN.facts g1 hc h1 h2 hS hF
    exact ⟨⟨fun k hk => k2 k (by omega) (by omega), k3 9 (by decide)⟩, k3 10 (by decide), Nat.le_refl _⟩
  · exact ⟨⟨fun k hk => zu_ne _ _ _ _ _ (by omega), zz_ne _ _ _ _ _ _ (by omega)⟩, zz_ne _ _ _ _ _ _ (by omega), by omega⟩
/-- the type of an application: f is of functions from x's type to r's -/
def XAp (ta : List Int) (P f x : Nat) (s s2 : aZ) (P2 r : Nat) : Prop := (zz s2 17 10 = 1 ∧ ∀ v τ, Vl unX P (vwX s) v → v f ≠ .branch (enc 2) (v x) τ) ∨ (zz s2 17 10 = 0 ∧ (∃ rt u, PE (arT ta) P2 s2 rt u) ∧ (∀ v, Vl unX P2 (vwX s2) v → Vl unX P (vwX s) v ∧ v f = .branch (enc 2) (v x) (v r)) ∧ ∀ v τ, Vl unX P (vwX s) v → v f = .branch (enc 2) (v x) τ → ∃ v2, Vl unX P2 (vwX s2) v2 ∧ (∀ k, k < P → v2 k = v k) ∧ v2 r = τ)
theorem x_applied {d : Nat} {B : aH} (hB : a_Can B) (hd : 8 ≤ d) (l : aZL) {ta : List Int} (h2a : ta.getD 2 0 = 2) (P : Nat) (hP : P ≤ 17000) (f x : Nat) (hf : f < P) (hx : x < P) (s : aZ) (hS : PS P s) : a_W d 88 0 [.ref 17, iv (f : Int), iv (x : Int), .retAddr 0, .retAddr 0] [] (mkH B s l) (fun q => ∃ (s2 : aZ) (r P2 : Nat), q = (.inl (some (iv (r : Int))), mkH B s2 l) ∧ PS P2 s2 ∧ P ≤ P2 ∧ P2 ≤ P + 2 ∧ P2 ≤ 17000 ∧ r < P2 ∧ FrA s s2 ∧ (zz s 17 10 = 1 → zz s2 17 10 = 1) ∧ (P + 2 ≤ 17000 → zz s2 17 11 = zz s 17 11 ∧ ((∃ rt u, PE (arT ta) P s rt u) → zz s 17 10 = 0 → XAp ta P f x s s2 P2 r))) := by
  have h2r : arT ta 2 = 2 := by unfold arT; rw [if_neg (by decide), show (2 : Int).toNat = 2 from rfl, h2a]; rfl
  have p0 := hS.1
  by_cases H : P + 2 ≤ 17000 ∧ (∃ rt u, PE (arT ta) P s rt u) ∧ zz s 17 10 = 0
  · obtain ⟨hr, ⟨rt, u, hE⟩, hc⟩ := H
    refine w88_0 hB (by omega) _ _ s l (a_W.imp (x_findU hB l P hP f s hf hS.2.2.1 hE.2.1) ?_)
    rintro _ ⟨s1, rfl, hv⟩
    have hrt := (hE.2.1 f hf).2.1
    obtain ⟨hE1, hV1⟩ := hE.hv hv
    have hS1 := hE1.1
    have c1 : zz s1 17 10 = 0 := (zz_of (hv.k 17 (by decide)) 10).trans hc
    have o1 : zz s1 17 11 = zz s 17 11 := zz_of (hv.k 17 (by decide)) 11
    have root : ∀ v, Vl unX P (vwX s) v → v f = v (rt f) := fun v hV => hV.root hE.2.1 f hf
    refine ⟨_, s1, l, rfl, ⟨by omega, by omega⟩, fun n2 => ?_, fun e2 => ?_⟩
    · rw [natc] at n2
      refine a_W.imp (x_unknown hB (by omega) l P (by omega) s1 hS1) ?_
      rintro _ ⟨s6, rfl, hN6⟩
      obtain ⟨hE6, hV6⟩ := PN.pe hE1 (by omega) (by decide) (by decide) ⟨by omega, by omega⟩ ⟨by omega, by omega⟩ (fun e => absurd e (by decide)) (fun e => absurd rfl e) hN6
      obtain ⟨k1, k2, k3, k4, k5⟩ := hN6.facts (by omega) (by decide) ⟨by omega, by omega⟩ ⟨by omega, by omega⟩ hS1 (fun e => absurd e (by decide))
      refine ⟨_, s6, l, rfl, a_W.imp (x_function hB (by omega) l (P + 1) (by omega) s6 k1 (x : Int) (P : Int) ⟨by omega, by omega⟩ ⟨by omega, by omega⟩) ?_⟩
      rintro _ ⟨s9, rfl, hN9⟩
      obtain ⟨hE9, hV9⟩ := PN.pe hE6 (by omega) (by decide) (by decide) ⟨by omega, by omega⟩ ⟨by omega, by omega⟩ (fun _ => ⟨by omega, by omega⟩) (fun _ => ⟨⟨fun _ => by rw [h2r]; decide, fun _ => by omega⟩, ⟨fun _ => by rw [h2r]; decide, fun _ => by omega⟩⟩) hN9
      obtain ⟨m1, m2, m3, m4, m5⟩ := hN9.facts (by omega) (by decide) ⟨by omega, by omega⟩ ⟨by omega, by omega⟩ k1 (fun _ => ⟨by omega, by omega⟩)
      have c9 : zz s9 17 10 = 0 := (m3 10 (by decide)).trans ((k3 10 (by decide)).trans c1)
      have o9 : zz s9 17 11 = zz s 17 11 := (m3 11 (by decide)).trans ((k3 11 (by decide)).trans o1)
      have fa9 : FrA s s9 := hv.fa.tr ((show FrA s1 s6 from ⟨fun k hk => k2 k (by omega) (by omega), k3 9 (by decide)⟩).tr ⟨fun k hk => m2 k (by omega) (by omega), m3 9 (by decide)⟩)
      refine ⟨_, s9, l, rfl, ?_⟩
      rw [show ((P + 1 : Nat) : Int) = ((P + 1 : Nat) : Int) from rfl]
      refine a_W.imp (x_equate hB (by omega) l (P + 1 + 1) (by omega) (rt f) (P + 1) (by omega) (by omega) s9 hE9 c9) ?_
      rintro _ ⟨s12, rfl, fj, hS12, hh⟩
      refine ⟨s12, l, rfl, s12, P, P + 1 + 1, rfl, hS12, by omega, by omega, by omega, by omega, fa9.tr fj.fa, fun c => absurd (hc.symm.trans c) (by decide), fun _ => ⟨(fj.2 11 (by decide) (by decide)).trans o9, fun _ _ => ?_⟩⟩
      have hpt : ∀ v : Nat → aT, ptT v (x : Int) = v x ∧ ptT v (P : Int) = v P := fun v => ⟨by rw [ptT_p _ _ (by omega), natc], by rw [ptT_p _ _ (by omega), natc]⟩
      have ext : ∀ v τ, Vl unX P (vwX s) v → v f = .branch (enc 2) (v x) τ → ∃ v2, (Vl unX (P + 1 + 1) (vwX s9) v2 ∧ v2 (rt f) = v2 (P + 1)) ∧ (∀ k, k < P → v2 k = v k) ∧ v2 P = τ := by
        intro v τ hV hfx
        have e0 : ∀ k, k < P → (if k < P then v k else if k = P then τ else .branch (enc 2) (v x) τ) = v k := fun k hk => if_pos hk
        refine ⟨fun k => if k < P then v k else if k = P then τ else .branch (enc 2) (v x) τ, ⟨?_, ?_⟩, e0, ?_⟩
        · rw [hV9, hV6, hV1]
          refine ⟨⟨hV.congr hE.2.2.1.1 (fun k hk => (hE.2.1 k hk).1) e0, fun c => absurd rfl c⟩, fun _ => ?_⟩
          rw [(hpt _).1, (hpt _).2]
          show (if P + 1 < P then v (P + 1) else if P + 1 = P then τ else .branch (enc 2) (v x) τ) = .branch (enc 2) (if x < P then v x else _) (if P < P then v P else if P = P then τ else _)
          rw [if_neg (by omega), if_neg (by omega), if_pos hx, if_neg (by omega), if_pos rfl]
        · show (if rt f < P then v (rt f) else _) = (if P + 1 < P then v (P + 1) else if P + 1 = P then τ else .branch (enc 2) (v x) τ)
          rw [if_pos hrt, if_neg (by omega), if_neg (by omega), ← root v hV, hfx]
        · show (if P < P then v P else if P = P then τ else _) = τ
          rw [if_neg (by omega), if_pos rfl]
      rcases hh with ⟨h1, h2⟩ | ⟨h1, rt2, u2, hE2, hV2⟩
      · refine Or.inl ⟨h1, fun v τ hV hfx => ?_⟩
        obtain ⟨v2, ⟨g1, g2⟩, -⟩ := ext v τ hV hfx
        exact h2 v2 g1 g2
      · refine Or.inr ⟨h1, ⟨rt2, u2, hE2⟩, fun v hV => ?_, fun v τ hV hfx => ?_⟩
        · obtain ⟨g1, g2⟩ := (hV2 v).mp hV
          obtain ⟨g3, g4⟩ := (hV9 v).mp g1
          obtain ⟨g5, -⟩ := (hV6 v).mp g3
          have g6 := (hV1 v).mp g5
          refine ⟨g6, ?_⟩
          have := g4 (by decide)
          rw [(hpt v).1, (hpt v).2] at this
          rw [root v g6, g2, this]
        · obtain ⟨v2, ⟨g1, g2⟩, g3, g4⟩ := ext v τ hV hfx
          exact ⟨v2, (hV2 v2).mpr ⟨g1, g2⟩, g3, g4⟩
    · rw [natc] at e2 ⊢
      obtain ⟨b1, b2, b3⟩ := hS1.2.2.2 (rt f) hrt
      have b4 := b3 e2
      obtain ⟨y, ey⟩ : ∃ y : Nat, zz s1 19 (rt f) = y := ⟨(zz s1 19 (rt f)).toNat, by omega⟩
      obtain ⟨z, ez⟩ : ∃ z : Nat, zz s1 20 (rt f) = z := ⟨(zz s1 20 (rt f)).toNat, by omega⟩
      rw [ey]
      refine a_W.imp (x_equate hB (by omega) l P hP y x (by omega) hx s1 hE1 c1) ?_
      rintro _ ⟨s12, rfl, fj, hS12, hh⟩
      have e20 : zz s12 20 (rt f) = z := (zz_of (fj.1 20 (by decide) (by decide) (by decide)) _).trans ez
      have fn : ∀ v, Vl unX P (vwX s) v → v f = .branch (enc 2) (v y) (v z) := fun v hV => by
        have := (((hV1 v).mpr hV) (rt f) hrt).2 (by show zz s1 18 (rt f) ≠ unX; rw [e2]; decide)
        rw [show (vwX s1).2.1 (rt f) = 2 from e2, show (vwX s1).2.2.1 (rt f) = y from ey, show (vwX s1).2.2.2 (rt f) = z from ez, ptT_p _ _ (by omega), ptT_p _ _ (by omega), natc, natc] at this
        rw [root v hV, this]
      refine ⟨s12, l, rfl, ?_⟩
      rw [e20]
      refine ⟨s12, z, P, rfl, hS12, Nat.le_refl _, by omega, hP, by omega, hv.fa.tr fj.fa, fun c => absurd (hc.symm.trans c) (by decide), fun _ => ⟨(fj.2 11 (by decide) (by decide)).trans o1, fun _ _ => ?_⟩⟩
      rcases hh with ⟨h1, h2⟩ | ⟨h1, rt2, u2, hE2, hV2⟩
      · refine Or.inl ⟨h1, fun v τ hV hfx => ?_⟩
        rw [fn v hV] at hfx
        injection hfx with _ q1 q2
        exact h2 v ((hV1 v).mpr hV) q1
      · refine Or.inr ⟨h1, ⟨rt2, u2, hE2⟩, fun v hV => ?_, fun v τ hV hfx => ?_⟩
        · obtain ⟨g1, g2⟩ := (hV2 v).mp hV
          have g3 := (hV1 v).mp g1
          exact ⟨g3, by rw [fn v g3, g2]⟩
        · rw [fn v hV] at hfx
          injection hfx with _ q1 q2
          exact ⟨v, (hV2 v).mpr ⟨(hV1 v).mpr hV, q1⟩, fun _ _ => rfl, q2⟩
  · have neg : P + 2 ≤ 17000 → ∀ Z : Prop, (∃ rt u, PE (arT ta) P s rt u) → zz s 17 10 = 0 → Z := fun h1 Z h2 h3 => absurd ⟨h1, h2, h3⟩ H
    refine w88_0 hB (by omega) _ _ s l (a_W.imp (x_find hB l P hP f s hf hS.2.2.1) ?_)
    rintro _ ⟨s1, rr, rfl, hrr, hv, -⟩
    have hS1 := hv.ps hS
    have c1 : zz s1 17 10 = zz s 17 10 := zz_of (hv.k 17 (by decide)) 10
    have o1 : zz s1 17 11 = zz s 17 11 := zz_of (hv.k 17 (by decide)) 11
    refine ⟨_, s1, l, rfl, ⟨by omega, by omega⟩, fun n2 => ?_, fun e2 => ?_⟩
    · refine a_W.imp (x_unknownG hB (by omega) l P hP s1 hS1) ?_
      rintro _ ⟨s6, w6, P6, rfl, hG6⟩
      obtain ⟨a1, a2, a3, a4, -⟩ := hG6.safe (by decide) ⟨by omega, by omega⟩ ⟨by omega, by omega⟩ hS1 (fun e => absurd e (by decide))
      obtain ⟨f6, c6, q6⟩ := hG6.fa (by decide) ⟨by omega, by omega⟩ ⟨by omega, by omega⟩ hS1 (fun e => absurd e (by decide))
      refine ⟨_, s6, l, rfl, a_W.imp (x_functionG hB (by omega) l P6 a3 s6 a1 (x : Int) (w6 : Int) ⟨by omega, by omega⟩ ⟨by omega, by omega⟩) ?_⟩
      rintro _ ⟨s9, w9, P9, rfl, hG9⟩
      obtain ⟨b1, b2, b3, b4, -⟩ := hG9.safe (by decide) ⟨by omega, by omega⟩ ⟨by omega, by omega⟩ a1 (fun _ => ⟨by omega, by omega⟩)
      obtain ⟨f9, c9, q9⟩ := hG9.fa (by decide) ⟨by omega, by omega⟩ ⟨by omega, by omega⟩ a1 (fun _ => ⟨by omega, by omega⟩)
      refine ⟨_, s9, l, rfl, a_W.imp (x_equateS hB (by omega) l P9 b3 rr w9 (by omega) b4 s9 b1) ?_⟩
      rintro _ ⟨s12, rfl, fj, hS12, hh⟩
      refine ⟨s12, l, rfl, s12, w6, P9, rfl, hS12, by omega, by omega, b3, by omega, hv.fa.tr (f6.tr (f9.tr fj.fa)), fun c => ?_, fun g => ⟨?_, neg g _⟩⟩
      · rcases hh with h | h
        · exact h
        · rw [h, c9, c6, c1]; exact c
      · rw [fj.2 11 (by decide) (by decide)]
        obtain ⟨-, rfl, hN6⟩ := hG6.pn (by omega)
        obtain ⟨-, rfl, hN9⟩ := hG9.pn (by omega)
        rw [(hN9.facts (by omega) (by decide) ⟨by omega, by omega⟩ ⟨by omega, by omega⟩ a1 (fun _ => ⟨by omega, by omega⟩)).2.2.1 11 (by decide), (hN6.facts (by omega) (by decide) ⟨by omega, by omega⟩ ⟨by omega, by omega⟩ hS1 (fun e => absurd e (by decide))).2.2.1 11 (by decide), o1]
    · rw [natc] at e2 ⊢
      obtain ⟨b1, b2, b3⟩ := hS1.2.2.2 rr hrr
      have b4 := b3 e2
      obtain ⟨y, ey⟩ : ∃ y : Nat, zz s1 19 rr = y := ⟨(zz s1 19 rr).toNat, by omega⟩
      obtain ⟨z, ez⟩ : ∃ z : Nat, zz s1 20 rr = z := ⟨(zz s1 20 rr).toNat, by omega⟩
      rw [ey]
      refine a_W.imp (x_equateS hB (by omega) l P hP y x (by omega) hx s1 hS1) ?_
      rintro _ ⟨s12, rfl, fj, hS12, hh⟩
      have e20 : zz s12 20 rr = z := (zz_of (fj.1 20 (by decide) (by decide) (by decide)) _).trans ez
      refine ⟨s12, l, rfl, ?_⟩
      rw [e20]
      refine ⟨s12, z, P, rfl, hS12, Nat.le_refl _, by omega, hP, by omega, hv.fa.tr fj.fa, fun c => ?_, fun g => ⟨(fj.2 11 (by decide) (by decide)).trans o1, neg g _⟩⟩
      rcases hh with h | h
      · exact h
      · rw [h, c1]; exact c
