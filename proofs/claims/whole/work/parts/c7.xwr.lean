/-! WRITTEN TYPES IN TERMS; THE VARIABLES OF BINDERS -/
def nL : aT → Prop
  | .leaf q => q = (0, 0)
  | .branch _ x y => nL x ∧ nL y
theorem nL_F : ∀ C : aT, nL C → nL (cdF C) ∧ nL (cdS C) := by
  intro C h
  cases C with
  | leaf q => exact ⟨rfl, rfl⟩
  | branch e x y => exact h
theorem nL_cd (t : Nat → Int) (n : Nat) (ns tn : List (List Int)) : ∀ T : aT, nL (cdT t n ns tn T) := by
  intro T
  induction T with
  | leaf q =>
    show nL (if q.1 = 0 then _ else _)
    split
    · exact ⟨rfl, rfl⟩
    · exact rfl
  | branch m a b iha ihb =>
    show nL (if m = 3 then _ else if m = 2 then _ else _)
    split
    · exact ⟨iha, ihb⟩
    · split
      · exact ⟨iha, (nL_F _ ihb).1⟩
      · exact ⟨(nL_F _ iha).1, (nL_F _ iha).2⟩
/-- a node that holds a type has that value -/
theorem vl_NI {s : aZ} {lo hi P : Nat} {v : Nat → aT} (hP : hi ≤ P) (hV : Vl unX P (vwX s) v) : ∀ (C : aT) (w : Int), NI 18 19 20 s lo hi C w → nL C → cOk (fun c => c ≠ -1000000) C → ptT v w = C := by
  intro C
  induction C with
  | leaf q =>
    intro w h hn _
    have h : w = -1 := h
    have hn : q = (0, 0) := hn
    subst h
    subst hn
    rfl
  | branch e x y ihx ihy =>
    intro w h hn hc
    obtain ⟨h1, h2, h3, h4⟩ := h
    rw [ptT_p _ _ (by omega), (hV w.toNat (by omega)).2 (by show zz s 18 w.toNat ≠ unX; rw [h2]; exact hc.1)]
    rw [show (vwX s).2.1 w.toNat = dec e from h2, show (vwX s).2.2.1 w.toNat = zz s 19 w.toNat from rfl, show (vwX s).2.2.2 w.toNat = zz s 20 w.toNat from rfl, ihx _ h3 hn.1 hc.2.1, ihy _ h4 hn.2 hc.2.2, enc_dec (by unfold dec; omega)]
section
variable {t : Nat → Int} {n : Nat} {ns tn : List (List Int)} {ta : List Int} {cn : List (List Int)} {ct : List aT} {B : aH}
/-- a written type has been read: node y -/
def WX (t : Nat → Int) (n : Nat) (ns tn : List (List Int)) (ta : List Int) (T : aT) (i j : Nat) (s : aZ) (P : Nat) (s2 : aZ) (P2 y : Nat) : Prop := (P2 + i ≤ P + j ∧ zz s2 17 11 = zz s 17 11) ∧ (zz s2 36 6 = bF (tyBad t n tn ta T) (zz s 36 6) ∧ (zz s2 36 5 ≠ 0 ↔ (zz s 36 5 ≠ 0 ∨ (40 < tyW T ∨ 12 < tyH T)))) ∧ (tyBad t n tn ta T = false → (∃ rt u, PE (arT ta) P s rt u) → (∃ rt u, PE (arT ta) P2 s2 rt u) ∧ (∀ v, Vl unX P2 (vwX s2) v → Vl unX P (vwX s) v ∧ v y = cdT t n ns tn T) ∧ ∀ v, Vl unX P (vwX s) v → ∃ v2, Vl unX P2 (vwX s2) v2 ∧ ∀ k, k < P → v2 k = v k)
theorem x_wr (hB : a_Can B) (hcap : XCap t n ns) (hta : ∀ i, ta.getD i 0 ≤ 2) (h2 : 2 < tn.length) (h2a : ta.getD 2 0 = 2) (N d dep i P c sc wc : Nat) (s : aZ) (l : aZL) (res : (Int × Nat) ⊕ (aT × Nat)) (hd : 31 + 5 * (40 - dep) ≤ d) (hdep : dep ≤ 40) (h : pty t n N 0 dep i = some res) (hi : i ≤ 6000) (hA : XAt t n ns i s) (hR : XRs tn ta cn ct P c sc wc s) : a_W d 65 0 [.ref 36, iv (dep : Int), .retAddr 0, .retAddr 0, .retAddr 0] [] (mkH B s l) (fun q => ∃ (s2 : aZ) (y P2 : Nat), q = (.inl (some (iv (y : Int))), mkH B s2 l) ∧ XLo s s2 ∧ XRs tn ta cn ct P2 c sc wc s2 ∧ P ≤ P2 ∧ y < P2 ∧ zz s2 17 10 = zz s 17 10 ∧ ((∃ T j, res = .inr (T, j) ∧ XAt t n ns j s2 ∧ (zz s 17 11 = 0 → P ≤ i + 10999 → WX t n ns tn ta T i j s P s2 P2 y)) ∨ (∃ f j, res = .inl (f, j) ∧ XFt t n ns f j s2))) := by
  have h8 := hR.2.2.2.2.2.2.2.1
  refine a_W.imp (x_written hB hcap hta h2a (zz s 17 11 = 0 ∧ P ≤ i + 10999) N d dep (i + 10999 - P) i P 0 s l res hd hdep h hi hA hR.2.2.1 hR.1 h8.1 (by omega) hR.2.1 (fun g => by omega) (fun g => g.1)) ?_
  rintro _ ⟨s2, w, P2, v, rfl, f1, f2, f3, f4, f5, f6, f7, f8, f9⟩
  have lo2 : XLo s s2 := f1.lo (f6.trans h8.1.symm)
  have zk : ∀ k, k ≠ 36 → (zu s2 36 5 v) k = s2 k := fun k hk => zu_ne _ _ _ _ _ hk
  have zz3 : ∀ k j, k ≠ 36 ∨ j ≠ 5 → zz (zu s2 36 5 v) k j = zz s2 k j := fun k j hk => zz_ne _ _ _ _ _ _ (by omega)
  have lo3 : XLo s2 (zu s2 36 5 v) := ⟨fun k hk => zk k (by omega), fun j _ => zz3 1 j (by omega), zz3 17 9 (by omega), zz3 36 4 (by omega)⟩
  have ev : vwX (zu s2 36 5 v) = vwX s2 := vwX_of (fun k k1 k2 j => zz3 k j (by omega))
  have hS3 : PS P2 (zu s2 36 5 v) := f5.z (zz3 17 8 (by omega)) (fun k k1 k2 j => zz3 k j (by omega))
  refine ⟨_, w, P2, rfl, lo2.tr lo3, hR.lo (lo2.tr lo3) hS3 f2 f3, f2, f4, (zz3 17 10 (by omega)).trans (f1.2.2.1 10 (by decide) (by decide)), ?_⟩
  rcases f9 with ⟨T, j, rfl, gA, gG⟩ | ⟨f, j, rfl, gF⟩
  · refine Or.inl ⟨T, j, rfl, gA.keep (fun k hk => zk k (by omega)), fun e1 e2 => ?_⟩
    obtain ⟨g1, g2, g3, g4, g5, g6, g7⟩ := gG ⟨e1, e2⟩
    have e5 : zz (zu s2 36 5 v) 36 5 = v := zz_same _ _ _ (by rcases f8 with rfl | rfl <;> decide)
    refine ⟨⟨by omega, (zz3 17 11 (by omega)).trans g1⟩, ⟨(zz3 36 6 (by omega)).trans g5, ?_⟩, fun hb hE => ?_⟩
    · rw [e5]
      have : v ≠ 0 ↔ v = 1 := by rcases f8 with rfl | rfl <;> decide
      rw [this, g6]
      exact Iff.rfl
    · obtain ⟨rt, u, hE⟩ := hE
      obtain ⟨q1, q2, q3⟩ := hE.blk f2 f5 g3 g7
      rw [ev]
      refine ⟨⟨_, _, q1.vw hS3 ev⟩, fun v' hV => ⟨q2 v' hV, ?_⟩, fun v' hV => ?_⟩
      · have ni := (PI.code hcap T false w 0 g4 hb).1 rfl
        have wf := ((cd_all hcap h2 h2a T false w 0 g4 hb).1 rfl).1
        have := vl_NI (Nat.le_refl _) hV _ _ ni (nL_cd t n ns tn T) (wfC.code _ wf)
        rw [ptT_p _ _ (by omega), natc] at this
        exact this
      · obtain ⟨v2, a1, a2, -⟩ := q3 v' hV v'
        exact ⟨v2, a1, a2⟩
  · exact Or.inr ⟨f, j, rfl, gF.keep (fun k hk => zk k (by omega))⟩
/-- two types are made equal -/
theorem x_eqT (hB : a_Can B) {d : Nat} (hd : 3 ≤ d) (l : aZL) {P : Nat} (hP : P ≤ 17000) (one other : Nat) (h1 : one < P) (h2 : other < P) (s : aZ) (hS : PS P s) : a_W d 89 0 [.ref 17, iv (one : Int), iv (other : Int), .retAddr 0, .retAddr 0, .retAddr 0] [] (mkH B s l) (fun q => ∃ s2, q = (.inl none, mkH B s2 l) ∧ FrA s s2 ∧ PS P s2 ∧ (zz s 17 10 = 1 → zz s2 17 10 = 1) ∧ zz s2 17 11 = zz s 17 11 ∧ ((∃ rt u, PE (arT ta) P s rt u) → zz s 17 10 = 0 → (zz s2 17 10 = 1 ∧ ∀ v, Vl unX P (vwX s) v → v one ≠ v other) ∨ (zz s2 17 10 = 0 ∧ (∃ rt u, PE (arT ta) P s2 rt u) ∧ ∀ v, Vl unX P (vwX s2) v ↔ (Vl unX P (vwX s) v ∧ v one = v other)))) := by
  by_cases H : (∃ rt u, PE (arT ta) P s rt u) ∧ zz s 17 10 = 0
  · obtain ⟨⟨rt, u, hE⟩, hc⟩ := H
    refine a_W.imp (x_equate hB hd l P hP one other h1 h2 s hE hc) ?_
    rintro _ ⟨s2, rfl, fj, hS2, hh⟩
    refine ⟨s2, rfl, fj.fa, hS2, fun e => absurd (hc.symm.trans e) (by decide), fj.2 11 (by decide) (by decide), fun _ _ => ?_⟩
    rcases hh with h | ⟨h, rt2, u2, h3, h4⟩
    · exact Or.inl h
    · exact Or.inr ⟨h, ⟨rt2, u2, h3⟩, h4⟩
  · refine a_W.imp (x_equateS hB hd l P hP one other h1 h2 s hS) ?_
    rintro _ ⟨s2, rfl, fj, hS2, hh⟩
    refine ⟨s2, rfl, fj.fa, hS2, fun e => ?_, fj.2 11 (by decide) (by decide), fun a b => absurd ⟨a, b⟩ H⟩
    rcases hh with h | h
    · exact h
    · rw [h]; exact e
/-- a term with its type -/
theorem RX.as {ρ : List Nat} {K T : aT} {i j1 j2 j : Nat} {s s1 s1' s2 s3 : aZ} {P P1 P2 c c1 y w sc wc : Nat} (h : RX t n ns tn ta ct ρ K i j1 s P c s1 P1 c1 w) (hk : coK K) (hlo : XLo s1 s1') (ev : vwX s1' = vwX s1) (h17 : ∀ j, zz s1' 17 j = zz s1 17 j) (h36 : ∀ j, zz s1' 36 j = zz s1 36 j) (hS1 : PS P1 s1') (hj : j1 ≤ j2) (hw : WX t n ns tn ta T j2 j s1' P1 s2 P2 y) (hlo2 : XLo s1' s2) (h10 : zz s2 17 10 = zz s1' 17 10) (hP : P1 ≤ P2) (hf : FrA s2 s3) (hm : zz s2 17 10 = 1 → zz s3 17 10 = 1) (h11 : zz s3 17 11 = zz s2 17 11) (he : (∃ rt u, PE (arT ta) P2 s2 rt u) → zz s2 17 10 = 0 → (zz s3 17 10 = 1 ∧ ∀ v, Vl unX P2 (vwX s2) v → v (zz s2 49 w).toNat ≠ v y) ∨ (zz s3 17 10 = 0 ∧ (∃ rt u, PE (arT ta) P2 s3 rt u) ∧ ∀ v, Vl unX P2 (vwX s3) v ↔ (Vl unX P2 (vwX s2) v ∧ v (zz s2 49 w).toNat = v y))) (hPP : P ≤ P1) : RX t n ns tn ta ct ρ (.branch 2 K T) i j s P c s3 P2 c1 w := by
  obtain ⟨⟨a1, a2⟩, ⟨a3, a4⟩, ⟨a5, a6, a7⟩, L, a8, ⟨a9, aC⟩, a10⟩ := h
  obtain ⟨⟨b1, b2⟩, ⟨b3, b4⟩, b5⟩ := hw
  obtain ⟨t1, t2, t3, t4⟩ := TI.top _ _ _ hk a8
  have pk := tm_pos K
  have lo := (hlo.tr hlo2).tr hf.lo
  have z : ∀ k j, 38 ≤ k → zz s3 k j = zz s1 k j := fun k j hk => zz_of (lo.1 k (by omega)) j
  have z36 : ∀ j, zz s3 36 j = zz s2 36 j := fun j => zz_of (hf.1 36 (by decide)) j
  have e49 : zz s2 49 w = zz s1 49 w := zz_of ((hlo.tr hlo2).1 49 (by decide)) w
  refine ⟨⟨a1, by show P2 + i ≤ P + csT K + j; omega⟩, ⟨(z 45 7 (by decide)).trans a3, by rw [h11, b2, h17]; exact a4⟩, ⟨(z 38 9 (by decide)).trans a5, by rw [z36, b3, h36, a6, bF_or]; rfl, by rw [z36, b4, h36, a7, or_assoc]; exact Iff.rfl⟩, L, TI_as.mpr (TI.keep (fun k j h1 h2 _ _ => z k j (by omega)) (Nat.le_refl _) (Nat.le_refl _) _ _ _ a8), ⟨fun k hk => Nat.lt_of_lt_of_le (a9 k hk) hP, fun y h1 h2 => by rw [z 49 y (by decide)]; exact aC y h1 h2⟩, fun hu hbd hE hc => ?_⟩
  have hbd : (bdA t n tn ta K || tyBad t n tn ta T) = false := hbd
  obtain ⟨d1, d2⟩ := Bool.or_eq_false_iff.mp hbd
  have hd1 : ∀ v : Nat → aT, hdT (L.map v) = v (zz s1 49 w).toNat := fun v => by rw [hd_map (by omega), t3]
  rw [e49] at he
  rcases a10 hu d1 hE hc with ⟨c1, no⟩ | ⟨c1, ⟨rt1, u1, cE⟩, cs, cc⟩
  · exact Or.inl ⟨hm (by rw [h10, h17]; exact c1), fun v R hV hT => no v R hV ((tyd_as _ _ _ _).mp hT).1⟩
  · obtain ⟨w1, w2, w3⟩ := b5 d2 ⟨rt1, u1, cE.vw hS1 ev⟩
    rw [ev] at w2 w3
    have rg : (zz s1 49 w).toNat < P1 := by
      have := a9 _ (show L.headD 0 ∈ L by cases L with | nil => exact absurd t4 (by intro h; rw [List.length_nil] at h; omega) | cons a L => exact List.mem_cons_self)
      rw [t3] at this
      exact this
    have ext : ∀ v R, Vl unX P (vwX s) v → tyd t n ns tn ct (.branch 2 K T) (ρ.map v) R → ∃ v2, Vl unX P2 (vwX s2) v2 ∧ (∀ k, k < P → v2 k = v k) ∧ L.map v2 = R ∧ v2 (zz s1 49 w).toNat = v2 y := by
      intro v R hV hT
      obtain ⟨q1, q2⟩ := (tyd_as _ _ _ _).mp hT
      obtain ⟨v1, k1, k2, k3⟩ := cc v R hV q1
      obtain ⟨v2, l1, l2⟩ := w3 v1 k1
      refine ⟨v2, l1, fun k hk => (l2 k (by omega)).trans (k2 k hk), by rw [map_agree a9 l2]; exact k3, ?_⟩
      rw [l2 _ rg, ← hd1 v1, k3, q2, (w2 v2 l1).2]
    rcases he w1 (by rw [h10, h17]; exact c1) with ⟨e1, e2⟩ | ⟨e1, e2, e3⟩
    · refine Or.inl ⟨e1, fun v R hV hT => ?_⟩
      obtain ⟨v2, l1, -, -, l4⟩ := ext v R hV hT
      exact e2 v2 l1 l4
    · refine Or.inr ⟨e1, e2, fun v hV => ?_, fun v R hV hT => ?_⟩
      · obtain ⟨g1, g2⟩ := (e3 v).mp hV
        obtain ⟨g3, g4⟩ := w2 v g1
        obtain ⟨g5, g6⟩ := cs v g3
        exact ⟨g5, (tyd_as _ _ _ _).mpr ⟨g6, by rw [hd1, g2, g4]⟩⟩
      · obtain ⟨v2, l1, l2, l3, l4⟩ := ext v R hV hT
        exact ⟨v2, (e3 v2).mpr ⟨l1, l4⟩, l2, l3⟩
/-- a variable is put into the scope -/
def XVf (t : Nat → Int) (n : Nat) (ns tn : List (List Int)) (ta : List Int) (cn : List (List Int)) (ct : List aT) (P c sc wc i : Nat) (r : (Int × Nat) ⊕ (aT × Nat)) (s s2 : aZ) (P2 : Nat) : Prop := XFr c sc wc s s2 ∧ XMo P c P2 c s s2 ∧ ((sc = 500 ∧ XRs tn ta cn ct P2 c sc wc s2 ∧ zz s2 45 7 ≠ 0) ∨ (sc < 500 ∧ XRs tn ta cn ct P2 c (sc + 1) wc s2 ∧ zz s2 45 7 = zz s 45 7)) ∧ ((∃ T j, r = .inr (T, j) ∧ XAt t n ns j s2 ∧ (sc < 500 → zz s2 40 sc = stT t n (vtk t n i) ∧ zz s2 41 sc = tkE t n (stT t n (vtk t n i))) ∧ (zz s 45 7 = 0 → zz s 17 11 = 0 → sc < 500 → P + 1 ≤ i + 10999 → VX t n ns tn ta T i j s P s2 P2 (zz s2 42 sc).toNat)) ∨ (∃ f j, r = .inl (f, j) ∧ XFt t n ns f j s2))
theorem x_scAdd {P0 P c sc wc i : Nat} {s0 s : aZ} (x3 x4 : Int) (h3 : inR x3) (h4 : inR x4) (α : Nat) (hα : α < P) (hR : XRs tn ta cn ct P c sc wc s) (hf : XLo s0 s) (hP : P0 ≤ P) (h10 : zz s 17 10 = zz s0 17 10) (r : (Int × Nat) ⊕ (aT × Nat)) (hr : (∃ T j, r = .inr (T, j) ∧ XAt t n ns j s ∧ (x3 = stT t n (vtk t n i) ∧ x4 = tkE t n (stT t n (vtk t n i))) ∧ (zz s0 45 7 = 0 → zz s0 17 11 = 0 → P0 + 1 ≤ i + 10999 → VX t n ns tn ta T i j s0 P0 s P α)) ∨ (∃ f j, r = .inl (f, j) ∧ XFt t n ns f j s)) {C : aZ → Prop} (hC : ∀ s2, XVf t n ns tn ta cn ct P0 c sc wc i r s0 s2 P → C s2) : ((zz s 39 3) < 500 → ((0 ≤ (zz s 39 3) ∧ (zz s 39 3) < 500) ∧ C (zu (zu (zu (zu s 40 (zz s 39 3).toNat x3) 41 (zz s 39 3).toNat x4) 42 (zz s 39 3).toNat (α : Int)) 39 3 ((zz s 39 3) + 1)))) ∧ (500 ≤ (zz s 39 3) → C (zu s 45 7 1)) := by
  have e45 : zz s 45 7 = zz s0 45 7 := zz_of (hf.1 45 (by decide)) 7
  obtain ⟨h1, h2, hh3, hh4, h5, h6, h7, h8, h9, h11, h12⟩ := hR
  refine ⟨fun clt => ⟨⟨by omega, by omega⟩, hC _ ?_⟩, fun cge => hC _ ?_⟩
  · have esc : (zz s 39 3).toNat = sc := by omega
    rw [esc, h6.1]
    have zk : ∀ k, (k < 39 ∨ 42 < k) → (zu (zu (zu (zu s 40 sc x3) 41 sc x4) 42 sc (α : Int)) 39 3 ((sc : Int) + 1)) k = s k := fun k hk => by rw [zu_ne _ _ _ _ _ (by omega), zu_ne _ _ _ _ _ (by omega), zu_ne _ _ _ _ _ (by omega), zu_ne _ _ _ _ _ (by omega)]
    have zo : ∀ k j, 40 ≤ k → k ≤ 42 → j ≠ sc → zz (zu (zu (zu (zu s 40 sc x3) 41 sc x4) 42 sc (α : Int)) 39 3 ((sc : Int) + 1)) k j = zz s k j := fun k j _ _ hj => by rw [zz_ne _ _ _ _ _ _ (by omega), zz_ne _ _ _ _ _ _ (by omega), zz_ne _ _ _ _ _ _ (by omega), zz_ne _ _ _ _ _ _ (by omega)]
    have z40 : zz (zu (zu (zu (zu s 40 sc x3) 41 sc x4) 42 sc (α : Int)) 39 3 ((sc : Int) + 1)) 40 sc = x3 := by rw [zz_ne _ _ _ _ _ _ (by omega), zz_ne _ _ _ _ _ _ (by omega), zz_ne _ _ _ _ _ _ (by omega), zz_same _ _ _ h3]
    have z41 : zz (zu (zu (zu (zu s 40 sc x3) 41 sc x4) 42 sc (α : Int)) 39 3 ((sc : Int) + 1)) 41 sc = x4 := by rw [zz_ne _ _ _ _ _ _ (by omega), zz_ne _ _ _ _ _ _ (by omega), zz_same _ _ _ h4]
    have z42 : zz (zu (zu (zu (zu s 40 sc x3) 41 sc x4) 42 sc (α : Int)) 39 3 ((sc : Int) + 1)) 42 sc = (α : Int) := by rw [zz_ne _ _ _ _ _ _ (by omega), zz_same _ _ _ ⟨by omega, by omega⟩]
    have z39 : zz (zu (zu (zu (zu s 40 sc x3) 41 sc x4) 42 sc (α : Int)) 39 3 ((sc : Int) + 1)) 39 3 = ((sc + 1 : Nat) : Int) := by rw [zz_same _ _ _ ⟨by omega, by omega⟩]; rfl
    generalize (zu (zu (zu (zu s 40 sc x3) 41 sc x4) 42 sc (α : Int)) 39 3 ((sc : Int) + 1)) = s2 at *
    have zz2 : ∀ k j, (k < 39 ∨ 42 < k) → zz s2 k j = zz s k j := fun k j hk => zz_of (zk k hk) j
    have ev : vwX s2 = vwX s := vwX_of (fun k k1 k2 j => zz2 k j (by omega))
    have hS2 : PS P s2 := h1.z (zz2 17 8 (by decide)) (fun k k1 k2 j => zz2 k j (by omega))
    have hR2 : XRs tn ta cn ct P c (sc + 1) wc s2 := by
      refine ⟨hS2, h2, hh3.fr (fun k k1 k2 => zk k (by omega)), hh4.fr (fun k k1 k2 => zk k (by omega)), ⟨(zz2 45 6 (by decide)).trans h5.1, h5.2⟩, ⟨z39, by omega⟩, ⟨(zz2 38 8 (by decide)).trans h7.1, h7.2⟩, ⟨(zz2 36 4 (by decide)).trans h8.1, (zz2 50 0 (by decide)).trans h8.2⟩, fun j hj => ?_, fun j hj => ?_, fun j hj => ?_⟩
      · rw [zz2 47 j (by omega), zz2 48 j (by omega), zz2 49 j (by omega)]; exact h9 j hj
      · by_cases e : j = sc
        · rw [e, z42]; omega
        · rw [zo 42 j (by decide) (by decide) e]; exact h11 j (by omega)
      · rw [zz2 43 j (by omega)]; exact h12 j hj
    refine ⟨(hf.fr c sc wc).tr ⟨fun k hk => zk k (by omega), fun j _ => zz2 1 j (by omega), zz2 17 9 (by decide), fun k j k1 k2 _ => zz2 k j (by omega), fun k j k1 k2 hj => zo k j k1 k2 (by omega), fun k j k1 k2 _ => zz2 k j (by omega)⟩ XFrr, ⟨hP, Nat.le_refl _, fun e => by rw [zz2 45 7 (by decide), e45]; exact e, fun e => by rw [zz2 17 10 (by decide), h10]; exact e⟩, Or.inr ⟨by omega, hR2, (zz2 45 7 (by decide)).trans e45⟩, ?_⟩
    rcases hr with ⟨T, j, rfl, gA, ⟨g1, g2⟩, gV⟩ | ⟨f, j, rfl, gF⟩
    · refine Or.inl ⟨T, j, rfl, gA.keep (fun k hk => zk k (by omega)), fun _ => ⟨z40.trans g1, z41.trans g2⟩, fun e1 e2 _ e4 => ?_⟩
      rw [z42, natc]
      obtain ⟨v1, ⟨v4, v5, v6⟩, ⟨v7, v8, v9⟩, v10⟩ := gV e1 e2 e4
      refine ⟨v1, ⟨(zz2 45 7 (by decide)).trans v4, (zz2 17 11 (by decide)).trans v5, (zz2 17 10 (by decide)).trans v6⟩, ⟨(zz2 38 9 (by decide)).trans v7, (zz2 36 6 (by decide)).trans v8, by rw [zz2 36 5 (by decide)]; exact v9⟩, fun hb hE => ?_⟩
      obtain ⟨⟨rt, u, w1⟩, w2, w3⟩ := v10 hb hE
      rw [ev]
      exact ⟨⟨rt, u, w1.vw hS2 ev⟩, w2, w3⟩
    · exact Or.inr ⟨f, j, rfl, gF.keep (fun k hk => zk k (by omega))⟩
  · have zk : ∀ k, k ≠ 45 → (zu s 45 7 1) k = s k := fun k hk => zu_ne _ _ _ _ _ hk
    have zz2 : ∀ k j, (k ≠ 45 ∨ j ≠ 7) → zz (zu s 45 7 1) k j = zz s k j := fun k j hk => zz_ne _ _ _ _ _ _ (by omega)
    have o1 : zz (zu s 45 7 1) 45 7 = 1 := zz_same _ _ _ (by decide)
    generalize zu s 45 7 1 = s2 at *
    have hR2 : XRs tn ta cn ct P c sc wc s2 := by
      refine ⟨h1.z (zz2 17 8 (by decide)) (fun k k1 k2 j => zz2 k j (by omega)), h2, hh3.fr (fun k k1 k2 => zk k (by omega)), hh4.fr (fun k k1 k2 => zk k (by omega)), ⟨(zz2 45 6 (by decide)).trans h5.1, h5.2⟩, ⟨(zz2 39 3 (by decide)).trans h6.1, h6.2⟩, ⟨(zz2 38 8 (by decide)).trans h7.1, h7.2⟩, ⟨(zz2 36 4 (by decide)).trans h8.1, (zz2 50 0 (by decide)).trans h8.2⟩, fun j hj => ?_, fun j hj => ?_, fun j hj => ?_⟩
      · rw [zz2 47 j (by omega), zz2 48 j (by omega), zz2 49 j (by omega)]; exact h9 j hj
      · rw [zz2 42 j (by omega)]; exact h11 j hj
      · rw [zz2 43 j (by omega)]; exact h12 j hj
    refine ⟨(hf.fr c sc wc).tr ⟨fun k hk => zk k (by omega), fun j _ => zz2 1 j (by omega), zz2 17 9 (by omega), fun k j k1 k2 _ => zz2 k j (by omega), fun k j k1 k2 hj => zz2 k j (by omega), fun k j k1 k2 _ => zz2 k j (by omega)⟩ XFrr, ⟨hP, Nat.le_refl _, fun _ => by rw [o1]; decide, fun e => by rw [zz2 17 10 (by omega), h10]; exact e⟩, Or.inl ⟨by omega, hR2, by rw [o1]; decide⟩, ?_⟩
    rcases hr with ⟨T, j, rfl, gA, -, -⟩ | ⟨f, j, rfl, gF⟩
    · exact Or.inl ⟨T, j, rfl, gA.keep (fun k hk => zk k (by omega)), fun e => absurd e (by omega), fun _ _ e => absurd e (by omega)⟩
    · exact Or.inr ⟨f, j, rfl, gF.keep (fun k hk => zk k (by omega))⟩
end
