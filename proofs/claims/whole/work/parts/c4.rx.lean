/-! WHAT READING A TERM COMES TO, exactly -/
section
variable (t : Nat → Int) (n : Nat) (ns tn : List (List Int)) (ta : List Int) (ct : List aT)
/-- its types, in the valuations of the pool -/
def XVl (ρ : List Nat) (K : aT) (L : List Nat) (P : Nat) (s : aZ) (P2 : Nat) (s2 : aZ) : Prop := (zz s2 17 10 = 1 ∧ ∀ v R, Vl unX P (vwX s) v → ¬ tyd t n ns tn ct K (ρ.map v) R) ∨ (zz s2 17 10 = 0 ∧ (∃ rt u, PE (arT ta) P2 s2 rt u) ∧ (∀ v, Vl unX P2 (vwX s2) v → Vl unX P (vwX s) v ∧ tyd t n ns tn ct K (ρ.map v) (L.map v)) ∧ ∀ v R, Vl unX P (vwX s) v → tyd t n ns tn ct K (ρ.map v) R → ∃ v2, Vl unX P2 (vwX s2) v2 ∧ (∀ k, k < P → v2 k = v k) ∧ L.map v2 = R)
/-- of two terms -/
def XP (ρ : List Nat) (K1 K2 : aT) (L1 L2 : List Nat) (P : Nat) (s : aZ) (P2 : Nat) (s2 : aZ) : Prop := (zz s2 17 10 = 1 ∧ ∀ v R1 R2, Vl unX P (vwX s) v → tyd t n ns tn ct K1 (ρ.map v) R1 → ¬ tyd t n ns tn ct K2 (ρ.map v) R2) ∨ (zz s2 17 10 = 0 ∧ (∃ rt u, PE (arT ta) P2 s2 rt u) ∧ (∀ v, Vl unX P2 (vwX s2) v → Vl unX P (vwX s) v ∧ tyd t n ns tn ct K1 (ρ.map v) (L1.map v) ∧ tyd t n ns tn ct K2 (ρ.map v) (L2.map v)) ∧ ∀ v R1 R2, Vl unX P (vwX s) v → tyd t n ns tn ct K1 (ρ.map v) R1 → tyd t n ns tn ct K2 (ρ.map v) R2 → ∃ v2, Vl unX P2 (vwX s2) v2 ∧ (∀ k, k < P → v2 k = v k) ∧ L1.map v2 = R1 ∧ L2.map v2 = R2)
/-- term K has been read: node w -/
def RX (ρ : List Nat) (K : aT) (i j : Nat) (s : aZ) (P c : Nat) (s2 : aZ) (P2 c2 w : Nat) : Prop := (c2 = c + tmW K ∧ P2 + i ≤ P + csT K + j) ∧ (zz s2 45 7 = 0 ∧ zz s2 17 11 = zz s 17 11) ∧ (zz s2 38 9 = bF (unK K) (zz s 38 9) ∧ zz s2 36 6 = bF (bdA t n tn ta K) (zz s 36 6) ∧ (zz s2 36 5 ≠ 0 ↔ (zz s 36 5 ≠ 0 ∨ lgA K))) ∧ ∃ L, TI s2 c c2 K w L ∧ ((∀ k ∈ L, k < P2) ∧ ∀ y, c ≤ y → y < c2 → (zz s2 49 y).toNat ∈ L) ∧ (unK K = false → bdA t n tn ta K = false → (∃ rt u, PE (arT ta) P s rt u) → zz s 17 10 = 0 → XVl t n ns tn ta ct ρ K L P s P2 s2)
/-- two terms have been read -/
def R2 (ρ : List Nat) (K1 K2 : aT) (i j : Nat) (s : aZ) (P c : Nat) (s2 : aZ) (P2 c2 w1 w2 : Nat) : Prop := (c2 = c + (tmW K1 + tmW K2) ∧ P2 + i ≤ P + (csT K1 + csT K2) + j) ∧ (zz s2 45 7 = 0 ∧ zz s2 17 11 = zz s 17 11) ∧ (zz s2 38 9 = bF (unK K1 || unK K2) (zz s 38 9) ∧ zz s2 36 6 = bF (bdA t n tn ta K1 || bdA t n tn ta K2) (zz s 36 6) ∧ (zz s2 36 5 ≠ 0 ↔ (zz s 36 5 ≠ 0 ∨ (lgA K1 ∨ lgA K2)))) ∧ ∃ L1 L2, (TI s2 c c2 K1 w1 L1 ∧ TI s2 c c2 K2 w2 L2) ∧ ((∀ k ∈ L1, k < P2) ∧ (∀ k ∈ L2, k < P2) ∧ ∀ y, c ≤ y → y < c2 → (zz s2 49 y).toNat ∈ L1 ∨ (zz s2 49 y).toNat ∈ L2) ∧ ((unK K1 || unK K2) = false → (bdA t n tn ta K1 || bdA t n tn ta K2) = false → (∃ rt u, PE (arT ta) P s rt u) → zz s 17 10 = 0 → XP t n ns tn ta ct ρ K1 K2 L1 L2 P s P2 s2)
end
theorem map_agree {v v2 : Nat → aT} {P : Nat} {L : List Nat} (h : ∀ k ∈ L, k < P) (e : ∀ k, k < P → v2 k = v k) : L.map v2 = L.map v := List.map_congr_left (fun k hk => e k (h k hk))
theorem hd_map {v : Nat → aT} {L : List Nat} (h : 0 < L.length) : hdT (L.map v) = v (L.headD 0) := by
  cases L with
  | nil => exact absurd h (by decide)
  | cons a L => rfl
section
variable {t : Nat → Int} {n : Nat} {ns tn : List (List Int)} {ta : List Int} {ct : List aT}
theorem R2.mk {ρ : List Nat} {K1 K2 : aT} {i j1 j : Nat} {s s1 s2 : aZ} {P P1 P2 c c1 c2 w1 w2 sc wc : Nat} (h1 : RX t n ns tn ta ct ρ K1 i j1 s P c s1 P1 c1 w1) (h2 : RX t n ns tn ta ct ρ K2 j1 j s1 P1 c1 s2 P2 c2 w2) (hf : XFr c1 sc wc s1 s2) (hm : XMo P1 c1 P2 c2 s1 s2) (hρ : ∀ k ∈ ρ, k < P) (hP : P ≤ P1) : R2 t n ns tn ta ct ρ K1 K2 i j s P c s2 P2 c2 w1 w2 := by
  obtain ⟨⟨a1, a2⟩, ⟨a3, a4⟩, ⟨a5, a6, a7⟩, L1, a8, ⟨a9, aC⟩, a10⟩ := h1
  obtain ⟨⟨b1, b2⟩, ⟨b3, b4⟩, ⟨b5, b6, b7⟩, L2, b8, ⟨b9, bC⟩, b10⟩ := h2
  refine ⟨⟨by omega, by omega⟩, ⟨b3, b4.trans a4⟩, ⟨by rw [b5, a5, bF_or], by rw [b6, a6, bF_or], ?_⟩, L1, L2, ⟨TI.keep (fun k j h1 h2 _ h4 => hf.2.2.2.1 k j h1 h2 h4) (Nat.le_refl _) (by omega) _ _ _ a8, TI.keep (fun _ _ _ _ _ _ => rfl) (by omega) (Nat.le_refl _) _ _ _ b8⟩, ⟨fun k hk => Nat.lt_of_lt_of_le (a9 k hk) hm.1, b9, fun y h1 h2 => if e : y < c1 then Or.inl (by rw [hf.2.2.2.1 49 y (by decide) (by decide) e]; exact aC y h1 e) else Or.inr (bC y (by omega) h2)⟩, fun hu hb hE hc => ?_⟩
  · rw [b7, a7, or_assoc]
  · obtain ⟨u1, u2⟩ := Bool.or_eq_false_iff.mp hu
    obtain ⟨d1, d2⟩ := Bool.or_eq_false_iff.mp hb
    rcases a10 u1 d1 hE hc with ⟨c1, c2⟩ | ⟨c1, cE, cs, cc⟩
    · exact Or.inl ⟨hm.2.2.2 c1, fun v R1 R2 hV h1 _ => c2 v R1 hV h1⟩
    · rcases b10 u2 d2 cE c1 with ⟨e1, e2⟩ | ⟨e1, eE, es, ec⟩
      · refine Or.inl ⟨e1, fun v R1 R2 hV h1 h2 => ?_⟩
        obtain ⟨v1, g1, g2, g3⟩ := cc v R1 hV h1
        exact e2 v1 R2 g1 (by rw [map_agree hρ g2]; exact h2)
      · refine Or.inr ⟨e1, eE, fun v hV => ?_, fun v R1 R2 hV h1 h2 => ?_⟩
        · obtain ⟨g1, g2⟩ := es v hV
          obtain ⟨g3, g4⟩ := cs v g1
          exact ⟨g3, g4, g2⟩
        · obtain ⟨v1, g1, g2, g3⟩ := cc v R1 hV h1
          obtain ⟨v2, k1, k2, k3⟩ := ec v1 R2 g1 (by rw [map_agree hρ g2]; exact h2)
          exact ⟨v2, k1, fun k hk => (k2 k (by omega)).trans (g2 k hk), by rw [map_agree a9 k2]; exact g3, k3⟩
theorem R2.swap {ρ : List Nat} {K1 K2 : aT} {i j : Nat} {s s2 : aZ} {P P2 c c2 w1 w2 : Nat} (h : R2 t n ns tn ta ct ρ K1 K2 i j s P c s2 P2 c2 w1 w2) : R2 t n ns tn ta ct ρ K2 K1 i j s P c s2 P2 c2 w2 w1 := by
  obtain ⟨⟨a1, a2⟩, a3, ⟨a5, a6, a7⟩, L1, L2, ⟨a8, a9⟩, ⟨a10, a11, aC⟩, a12⟩ := h
  refine ⟨⟨by omega, by omega⟩, a3, ⟨by rw [a5, Bool.or_comm], by rw [a6, Bool.or_comm], by rw [a7, or_comm (a := lgA K1)]⟩, L2, L1, ⟨a9, a8⟩, ⟨a11, a10, fun y h1 h2 => (aC y h1 h2).symm⟩, fun hu hb hE hc => ?_⟩
  rcases a12 (by rw [Bool.or_comm]; exact hu) (by rw [Bool.or_comm]; exact hb) hE hc with ⟨c1, c2⟩ | ⟨c1, cE, cs, cc⟩
  · exact Or.inl ⟨c1, fun v R1 R2 hV h1 h2 => c2 v R2 R1 hV h2 h1⟩
  · refine Or.inr ⟨c1, cE, fun v hV => ?_, fun v R1 R2 hV h1 h2 => ?_⟩
    · obtain ⟨g1, g2, g3⟩ := cs v hV
      exact ⟨g1, g3, g2⟩
    · obtain ⟨v2, k1, k2, k3, k4⟩ := cc v R2 R1 hV h2 h1
      exact ⟨v2, k1, k2, k4, k3⟩
/-- an application is made -/
def AppX (ta : List Int) (P c f x : Nat) (s : aZ) (P2 : Nat) (s2 : aZ) (w c2 : Nat) : Prop := (w = c ∧ c2 = c + 1) ∧ (zz s2 45 7 = 0 ∧ P2 ≤ P + 2 ∧ zz s2 17 11 = zz s 17 11) ∧ (zz s2 46 c = -1 ∧ zz s2 47 c = f ∧ zz s2 48 c = x) ∧ (inR (1 + max (zz s 50 f) (zz s 50 x)) → zz s2 50 c = 1 + max (zz s 50 f) (zz s 50 x)) ∧ ∃ r : Nat, zz s2 49 c = r ∧ r < P2 ∧ ((∃ rt u, PE (arT ta) P s rt u) → zz s 17 10 = 0 → XAp ta P (zz s 49 f).toNat (zz s 49 x).toNat s s2 P2 r)
theorem RX.ap {ρ : List Nat} {Kf Kx : aT} {i j : Nat} {s s2 s3 : aZ} {P P2 P3 c c2 c3 wf wx w sc wc : Nat} (h : R2 t n ns tn ta ct ρ Kf Kx i j s P c s2 P2 c2 wf wx) (kf : coK Kf) (kx : coK Kx) (hA : AppX ta P2 c2 wf wx s2 P3 s3 w c3) (hf : XFr c2 sc wc s2 s3) (hm : XMo P2 c2 P3 c3 s2 s3) (hk : ∀ k, (24 < k ∧ k < 45) → s3 k = s2 k) (hP : P ≤ P2) (hH : tmH Kf ≤ 100000 ∧ tmH Kx ≤ 100000) : RX t n ns tn ta ct ρ (apT Kf Kx) i j s P c s3 P3 c3 w := by
  obtain ⟨⟨a1, a2⟩, ⟨a3, a4⟩, ⟨a5, a6, a7⟩, L1, L2, ⟨a8, a9⟩, ⟨a10, a11, aC⟩, a12⟩ := h
  obtain ⟨⟨ew, ec⟩, ⟨b1, b2, b3⟩, ⟨b4, b5, b6⟩, b7, r, b8, b9, b10⟩ := hA
  subst ew
  subst ec
  obtain ⟨t1, t2, t3, t4⟩ := TI.top _ _ _ kf a8
  obtain ⟨u1, u2, u3, u4⟩ := TI.top _ _ _ kx a9
  have pf := tm_pos Kf
  have px := tm_pos Kx
  have hh := b7 (by rw [t2, u2]; exact ⟨by omega, by omega⟩)
  rw [t2, u2] at hh
  have keep : ∀ K y L, TI s2 c w K y L → TI s3 c (w + 1) K y L := fun K y L h => TI.keep (fun k j h1 h2 _ h4 => hf.2.2.2.1 k j h1 h2 h4) (Nat.le_refl _) (Nat.le_succ _) _ _ _ h
  have z38 : zz s3 38 9 = zz s2 38 9 := zz_of (hk 38 (by decide)) 9
  have z36 : ∀ j, zz s3 36 j = zz s2 36 j := fun j => zz_of (hk 36 (by decide)) j
  refine ⟨⟨by show w + 1 = c + (1 + (tmW Kf + tmW Kx)); omega, by show P3 + i ≤ P + (2 + (csT Kf + csT Kx)) + j; omega⟩, ⟨b1, b3.trans a4⟩, ⟨by rw [z38]; exact a5, by rw [z36]; exact a6, by rw [z36]; exact a7⟩, r :: (L1 ++ L2), TI_ap.mpr ⟨⟨by omega, by omega⟩, b4, by rw [hh]; show 1 + max _ _ = ((1 + max (tmH Kf) (tmH Kx) : Nat) : Int); omega, wf, wx, L1, L2, b5, b6, keep _ _ _ a8, keep _ _ _ a9, by rw [b8, natc]⟩, ⟨fun k hk => ?_, fun y h1 h2 => if e : y = w then by rw [e, b8, natc]; exact List.mem_cons_self else by rw [hf.2.2.2.1 49 y (by decide) (by decide) (by omega)]; exact List.mem_cons_of_mem _ (List.mem_append.mpr (aC y h1 (by omega)))⟩, fun hu hb hE hc => ?_⟩
  · rcases List.mem_cons.mp hk with rfl | hk
    · exact b9
    · rcases List.mem_append.mp hk with hk | hk
      · exact Nat.lt_of_lt_of_le (a10 k hk) hm.1
      · exact Nat.lt_of_lt_of_le (a11 k hk) hm.1
  · have hd1 : ∀ v : Nat → aT, hdT (L1.map v) = v (zz s2 49 wf).toNat := fun v => by rw [hd_map (by omega), t3]
    have hd2 : ∀ v : Nat → aT, hdT (L2.map v) = v (zz s2 49 wx).toNat := fun v => by rw [hd_map (by omega), u3]
    rcases a12 hu hb hE hc with ⟨c1, no⟩ | ⟨c1, cE, cs, cc⟩
    · refine Or.inl ⟨hm.2.2.2 c1, fun v R hV hT => ?_⟩
      obtain ⟨τ, Rf, Rx, q1, q2, -⟩ := (tyd_ap _ _ _ _).mp hT
      exact no v Rf Rx hV q1 q2
    · rcases b10 cE c1 with ⟨d1, d2⟩ | ⟨d1, dE, ds, dc⟩
      · refine Or.inl ⟨d1, fun v R hV hT => ?_⟩
        obtain ⟨τ, Rf, Rx, q1, q2, -, q4⟩ := (tyd_ap _ _ _ _).mp hT
        obtain ⟨v2, k1, k2, k3, k4⟩ := cc v Rf Rx hV q1 q2
        refine d2 v2 τ k1 ?_
        rw [← hd1 v2, ← hd2 v2, k3, k4]
        exact q4
      · refine Or.inr ⟨d1, dE, fun v hV => ?_, fun v R hV hT => ?_⟩
        · obtain ⟨g1, g2⟩ := ds v hV
          obtain ⟨g3, g4, g5⟩ := cs v g1
          refine ⟨g3, (tyd_ap _ _ _ _).mpr ⟨v r, L1.map v, L2.map v, g4, g5, by rw [List.map_cons, List.map_append], ?_⟩⟩
          rw [hd1, hd2]
          exact g2
        · obtain ⟨τ, Rf, Rx, q1, q2, q3, q4⟩ := (tyd_ap _ _ _ _).mp hT
          obtain ⟨v2, k1, k2, k3, k4⟩ := cc v Rf Rx hV q1 q2
          obtain ⟨v3, m1, m2, m3⟩ := dc v2 τ k1 (by rw [← hd1 v2, ← hd2 v2, k3, k4]; exact q4)
          refine ⟨v3, m1, fun k hk => (m2 k (by omega)).trans (k2 k hk), ?_⟩
          rw [List.map_cons, List.map_append, map_agree a10 m2, map_agree a11 m2, k3, k4, m3, q3]
theorem x_app {B : aH} (hB : a_Can B) {d : Nat} (hd : 9 ≤ d) (l : aZL) {cn : List (List Int)} (h2a : ta.getD 2 0 = 2) {P c sc wc : Nat} {s : aZ} (hR : XRs tn ta cn ct P c sc wc s) (f x : Nat) (hf : f < c) (hx : x < c) : a_W d 87 0 [.ref 45, iv (f : Int), iv (x : Int), .retAddr 0] [] (mkH B s l) (fun q => ∃ (s2 : aZ) (w P2 c2 : Nat), q = (.inl (some (iv (w : Int))), mkH B s2 l) ∧ XRs tn ta cn ct P2 c2 sc wc s2 ∧ XFr c sc wc s s2 ∧ XMo P c P2 c2 s s2 ∧ w < c2 ∧ (∀ k, (k < 17 ∨ (24 < k ∧ k < 45) ∨ 50 < k) → s2 k = s k) ∧ (zz s2 45 7 = 0 → zz s 45 7 = 0 ∧ c2 = c + 1) ∧ (zz s 45 7 = 0 → c < 501 → P + 2 ≤ 17000 → AppX ta P c f x s P2 s2 w c2)) := by
  have h5 := hR.2.2.2.2.1
  have h9 := hR.2.2.2.2.2.2.2.2.1
  have hPl := hR.2.1
  refine w87_0 hB (by omega) _ _ s l ⟨fun c0 => ⟨⟨by omega, by omega⟩, ⟨by omega, by omega⟩, ?_⟩, fun c0 => ⟨s, 0, P, c, rfl, hR, XFr.rf _ _ _ _, XMo.rf _ _ _, by omega, fun _ _ => rfl, fun e => absurd e c0, fun e => absurd e c0⟩⟩
  rw [natc, natc]
  have t1 := (h9 f hf).2.2
  have t2 := (h9 x hx).2.2
  obtain ⟨tf, ef⟩ : ∃ y : Nat, zz s 49 f = y := ⟨(zz s 49 f).toNat, by omega⟩
  obtain ⟨tx, ex⟩ : ∃ y : Nat, zz s 49 x = y := ⟨(zz s 49 x).toNat, by omega⟩
  rw [ef, ex]
  refine a_W.imp (x_applied hB (by omega) l h2a P hPl tf tx (by omega) (by omega) s hR.1) ?_
  rintro _ ⟨s4, r, P4, rfl, g1, g2, g3, g4, g5, g6, g7, g8⟩
  have hR4 := hR.lo g6.lo g1 g2 g4
  refine ⟨_, s4, l, rfl, a_W.imp (x_tadd hB (by omega) l hR4 (-1) (by decide) f x r hf hx g5) ?_⟩
  rintro _ ⟨s7, w, c2, rfl, k1, k2, k3, k4, k5, k6, k7, k8⟩
  have e45 : zz s4 45 7 = zz s 45 7 := zz_of (g6.1 45 (by decide)) 7
  have zp : ∀ k j, k < 45 → zz s7 k j = zz s4 k j := fun k j hk => zz_of (k3 k (by omega)) j
  refine ⟨_, s7, l, rfl, s7, w, P4, c2, rfl, k1, (g6.lo.fr c sc wc).tr k2 XFrr, ⟨g2, k5, fun e => k6 (by rw [e45]; exact e), fun e => by rw [zp 17 10 (by decide)]; exact g7 e⟩, k4, fun k hk => (k3 k (by omega)).trans (g6.1 k (by omega)), fun e => by rw [← e45]; exact k7 e, fun e1 e2 e3 => ?_⟩
  obtain ⟨m1, m2, m3, m4, m5, m6, m7, m8⟩ := k8 (e45.trans e1) e2
  obtain ⟨n1, n2⟩ := g8 e3
  have z50 : ∀ j, zz s4 50 j = zz s 50 j := fun j => zz_of (g6.1 50 (by decide)) j
  rw [z50, z50] at m8
  refine ⟨⟨m2, m3⟩, ⟨m1, g3, (zp 17 11 (by decide)).trans n1⟩, ⟨m4, m5, m6⟩, m8, r, m7, g5, fun hE hc => ?_⟩
  rw [ef, ex, natc, natc]
  have ev : vwX s7 = vwX s4 := vwX_of (fun k k1' k2' j => zp k j (by omega))
  rcases n2 hE hc with ⟨q1, q2⟩ | ⟨q1, ⟨rt, u, q2⟩, q3, q4⟩
  · exact Or.inl ⟨(zp 17 10 (by decide)).trans q1, q2⟩
  · refine Or.inr ⟨(zp 17 10 (by decide)).trans q1, ⟨rt, u, q2.vw k1.1 ev⟩, ?_, ?_⟩
    · rw [ev]; exact q3
    · rw [ev]; exact q4
end
