/-! THE READER READS A BINDER'S VARIABLE; SAME STATES -/
/-- no type is noT -/
theorem pty_noT (t : Nat → Int) (n : Nat) : ∀ (N m dep i j : Nat), m ≤ 2 → ¬ pty t n N m dep i = some (.inr (noT, j)) := by
  intro N
  induction N with
  | zero => intro m dep i j _ h; exact absurd (show (none : aPr) = some _ from h) (by intro h; cases h)
  | succ N ih =>
    intro m dep i j hm h
    rcases (show m = 0 ∨ m = 1 ∨ m = 2 by omega) with rfl | rfl | rfl
    · rw [pty_0] at h
      rcases pLk_some h with ⟨-, e⟩ | ⟨h0, h⟩
      · cases e
      rcases pBd_some h with ⟨e, -, q2⟩ | ⟨a, k, q1, q2⟩
      · cases q2
      unfold pA at q2
      rcases pLk_some q2 with ⟨-, e⟩ | ⟨-, q2⟩
      · cases e
      split at q2
      · rcases pBd_some q2 with ⟨e, -, r2⟩ | ⟨b, k2, -, r2⟩
        · cases r2
        · cases r2
      · cases q2
        exact ih 1 dep i _ (by decide) q1
    · rw [pty_1] at h
      rcases pLk_some h with ⟨-, e⟩ | ⟨h0, h⟩
      · cases e
      split at h
      · exact ih 2 dep i j (by decide) h
      · split at h
        · exact absurd (Option.some.inj h) (by intro h; injection h with h; injection h with h _; injection h with h; injection h with h _; exact absurd h (by decide))
        · split at h
          · rcases pBd_some h with ⟨e, -, r2⟩ | ⟨b, k2, -, r2⟩
            · cases r2
            · cases r2
          · cases h
    · rw [pty_2] at h
      rcases pLk_some h with ⟨-, e⟩ | ⟨h0, h⟩
      · cases e
      rcases pLk_some h with ⟨-, e⟩ | ⟨h1, h⟩
      · cases e
      split at h
      · cases h
      · rcases pBd_some h with ⟨e, -, r2⟩ | ⟨b, k2, r1, r2⟩
        · cases r2
        · rcases pLk_some r2 with ⟨-, e⟩ | ⟨-, r2⟩
          · cases e
          split at r2
          · cases r2
            exact ih 0 (dep + 1) (i + 1) k2 (by decide) r1
          · cases r2
section
variable {t : Nat → Int} {n : Nat} {ns tn : List (List Int)} {ta : List Int} {cn : List (List Int)} {ct : List aT} {B : aH}
/-- alike for all that a term comes to -/
def SE (s s2 : aZ) : Prop := (∀ k, ((17 ≤ k ∧ k ≤ 24) ∨ k = 36 ∨ (45 ≤ k ∧ k ≤ 50)) → s2 k = s k) ∧ zz s2 38 9 = zz s 38 9
theorem SE.rf (s : aZ) : SE s s := ⟨fun _ _ => rfl, rfl⟩
theorem SE.tr {s1 s2 s3 : aZ} (a : SE s1 s2) (b : SE s2 s3) : SE s1 s3 := ⟨fun k h => (b.1 k h).trans (a.1 k h), b.2.trans a.2⟩
theorem SE.sy {s1 s2 : aZ} (a : SE s1 s2) : SE s2 s1 := ⟨fun k h => (a.1 k h).symm, a.2.symm⟩
theorem FrX.se {s s2 : aZ} (a : FrX s s2) : SE s s2 := ⟨fun k h => a.hi k (by omega), zz_of (a.hi 38 (by decide)) 9⟩
theorem SE.vw {s s2 : aZ} (a : SE s s2) : vwX s2 = vwX s := vwX_of (fun k h1 h2 j => zz_of (a.1 k (by omega)) j)
theorem SE.ps {s s2 : aZ} (a : SE s s2) {P : Nat} (h : PS P s) : PS P s2 := h.z (zz_of (a.1 17 (by decide)) 8) (fun k h1 h2 j => zz_of (a.1 k (by omega)) j)
theorem SE.pe {s s2 : aZ} (a : SE s s2) {P : Nat} (h : ∃ rt u, PE (arT ta) P s rt u) : ∃ rt u, PE (arT ta) P s2 rt u := by
  obtain ⟨rt, u, h⟩ := h
  exact ⟨rt, u, h.vw (a.ps h.1) a.vw⟩
theorem RX.to {ρ : List Nat} {K : aT} {i j : Nat} {s s2 s2' : aZ} {P P2 c c2 w : Nat} (h : RX t n ns tn ta ct ρ K i j s P c s2 P2 c2 w) (a : SE s2 s2') : RX t n ns tn ta ct ρ K i j s P c s2' P2 c2 w := by
  obtain ⟨a1, ⟨a3, a4⟩, ⟨a5, a6, a7⟩, L, a8, ⟨a9, aC⟩, a10⟩ := h
  have z : ∀ k j, ((17 ≤ k ∧ k ≤ 24) ∨ k = 36 ∨ (45 ≤ k ∧ k ≤ 50)) → zz s2' k j = zz s2 k j := fun k j h => zz_of (a.1 k h) j
  refine ⟨a1, ⟨(z 45 7 (by decide)).trans a3, (z 17 11 (by decide)).trans a4⟩, ⟨a.2.trans a5, (z 36 6 (by decide)).trans a6, by rw [z 36 5 (by decide)]; exact a7⟩, L, TI.keep (fun k j h1 h2 _ _ => z k j (by omega)) (Nat.le_refl _) (Nat.le_refl _) _ _ _ a8, ⟨a9, fun y h1 h2 => by rw [z 49 y (by omega)]; exact aC y h1 h2⟩, fun h1 h2 h3 h4 => ?_⟩
  rcases a10 h1 h2 h3 h4 with ⟨b1, b2⟩ | ⟨b1, b2, b3, b4⟩
  · exact Or.inl ⟨(z 17 10 (by decide)).trans b1, b2⟩
  · exact Or.inr ⟨(z 17 10 (by decide)).trans b1, a.pe b2, by rw [a.vw]; exact b3, by rw [a.vw]; exact b4⟩
theorem RX.fm {ρ : List Nat} {K : aT} {i j : Nat} {s s' s2 : aZ} {P P2 c c2 w : Nat} (h : RX t n ns tn ta ct ρ K i j s' P c s2 P2 c2 w) (a : SE s s') : RX t n ns tn ta ct ρ K i j s P c s2 P2 c2 w := by
  obtain ⟨a1, ⟨a3, a4⟩, ⟨a5, a6, a7⟩, L, a8, a9, a10⟩ := h
  have z : ∀ k j, ((17 ≤ k ∧ k ≤ 24) ∨ k = 36 ∨ (45 ≤ k ∧ k ≤ 50)) → zz s' k j = zz s k j := fun k j h => zz_of (a.1 k h) j
  refine ⟨a1, ⟨a3, a4.trans (z 17 11 (by decide))⟩, ⟨by rw [a5, a.2], by rw [a6, z 36 6 (by decide)], by rw [a7, z 36 5 (by decide)]⟩, L, a8, a9, fun h1 h2 h3 h4 => ?_⟩
  have := a10 h1 h2 (a.pe h3) ((z 17 10 (by decide)).trans h4)
  unfold XVl at this ⊢
  rw [a.vw] at this
  exact this
theorem RX.ij {ρ : List Nat} {K : aT} {i j i2 j2 : Nat} {s s2 : aZ} {P P2 c c2 w : Nat} (h : RX t n ns tn ta ct ρ K i j s P c s2 P2 c2 w) (e : j + i2 ≤ j2 + i) : RX t n ns tn ta ct ρ K i2 j2 s P c s2 P2 c2 w := ⟨⟨h.1.1, by have := h.1.2; omega⟩, h.2⟩
/-- \ names no constant -/
theorem tk_lam {s : aZ} (hT : XT t n s) {i : Nat} (h0 : ftT t n i = 0) (hk : kdT t n i = 9) : Sg (zz s 2) (stT t n i) [92] ∧ stT t n i + 1 = tkE t n (stT t n i) ∧ tkE t n (stT t n i) ≤ 8000 := by
  obtain ⟨a1, a2⟩ := lt_nx h0 (by omega)
  have hK : tkK t n (stT t n i) = 9 := by rw [← hk]; unfold kdT; rw [if_pos a1]
  have hE := tkE_le a1 (ft0 h0 a1).2
  have hn := hT.2.1
  unfold tkK at hK
  have key : t (stT t n i) = 92 ∧ tkE t n (stT t n i) = stT t n i + 1 := by
    by_cases c1 : z31 (t (stT t n i)) ≠ 0
    · rw [if_pos c1] at hK
      split at hK <;> exact absurd hK (by decide)
    rw [if_neg c1] at hK
    by_cases c2 : t (stT t n i) = 39
    · rw [if_pos c2] at hK
      exact absurd hK (by decide)
    rw [if_neg c2] at hK
    by_cases c3 : z34 (t (stT t n i)) ≠ 0
    · rw [if_pos c3] at hK
      exact absurd hK (by decide)
    rw [if_neg c3] at hK
    have b1 : ∀ a b c : Int, z43 a b c ≠ 9 := fun a b c => by unfold z43; omega
    have b2 : ∀ a b : Int, z44 a b ≠ 9 := fun a b => by unfold z44; omega
    by_cases c4 : z43 (t (stT t n i)) (bt t n (stT t n i + 1)) (bt t n (stT t n i + 2)) ≠ -1
    · rw [if_pos c4] at hK
      exact absurd hK (b1 _ _ _)
    rw [if_neg c4] at hK
    by_cases c5 : z44 (t (stT t n i)) (bt t n (stT t n i + 1)) ≠ -1
    · rw [if_pos c5] at hK
      exact absurd hK (b2 _ _)
    rw [if_neg c5] at hK
    refine ⟨by unfold z45 at hK; omega, ?_⟩
    unfold tkE
    rw [if_neg c1, if_neg c2, if_neg c3, if_neg c4, if_neg c5]
  refine ⟨fun j hj => ?_, key.2.symm, by omega⟩
  have : j = 0 := by have : j < 1 := hj; omega
  subst this
  rw [Nat.add_zero, (hT.2.2 _ a1).1, key.1]
  rfl
theorem VX.x {ty : aT} {i j j2 : Nat} {s s2 s3 : aZ} {P P2 α : Nat} (h : VX t n ns tn ta ty i j s P s2 P2 α) (f : FrX s2 s3) (hj : j ≤ j2) : VX t n ns tn ta ty i j2 s P s3 P2 α := by
  obtain ⟨⟨a1, a2, a3⟩, ⟨b1, b2, b3⟩, ⟨c1, c2, c3⟩, d⟩ := h
  refine ⟨⟨by omega, a2, a3⟩, ⟨(zz_of (f.hi 45 (by decide)) 7).trans b1, (zz_of (f.hi 17 (by decide)) 11).trans b2, (zz_of (f.hi 17 (by decide)) 10).trans b3⟩, ⟨(zz_of (f.hi 38 (by decide)) 9).trans c1, (zz_of (f.hi 36 (by decide)) 6).trans c2, by rw [zz_of (f.hi 36 (by decide)) 5]; exact c3⟩, fun hb hE => ?_⟩
  obtain ⟨q1, q2⟩ := d hb hE
  refine ⟨f.se.pe q1, ?_⟩
  rw [f.se.vw]
  exact q2
theorem XVf.x {P c sc wc i : Nat} {r r2 : (Int × Nat) ⊕ (aT × Nat)} {s s2 s3 : aZ} {P2 : Nat} (h : XVf t n ns tn ta cn ct P c sc wc i r s s2 P2) (f : FrX s2 s3) (ho : (∃ T j j2, r = .inr (T, j) ∧ r2 = .inr (T, j2) ∧ j ≤ j2 ∧ XAt t n ns j2 s3) ∨ (∃ f j, r2 = .inl (f, j) ∧ XFt t n ns f j s3)) : XVf t n ns tn ta cn ct P c sc wc i r2 s s3 P2 := by
  obtain ⟨a1, a2, a3, a4⟩ := h
  have z : ∀ k j, 10 ≤ k → zz s3 k j = zz s2 k j := fun k j hk => zz_of (f.hi k hk) j
  refine ⟨a1.tr (f.lo.fr c sc wc) XFrr, ⟨a2.1, a2.2.1, fun e => by rw [z 45 7 (by decide)]; exact a2.2.2.1 e, fun e => by rw [z 17 10 (by decide)]; exact a2.2.2.2 e⟩, ?_, ?_⟩
  · rcases a3 with ⟨o1, o2, o3⟩ | ⟨o1, o2, o3⟩
    · exact Or.inl ⟨o1, o2.lo f.lo (f.se.ps o2.1) (Nat.le_refl _) o2.2.1, by rw [z 45 7 (by decide)]; exact o3⟩
    · exact Or.inr ⟨o1, o2.lo f.lo (f.se.ps o2.1) (Nat.le_refl _) o2.2.1, by rw [z 45 7 (by decide)]; exact o3⟩
  · rcases ho with ⟨T, j, j2, e1, e2, hj, hA⟩ | ⟨f', j, e2, hF⟩
    · rcases a4 with ⟨T', j', e3, b1, b2, b3⟩ | ⟨f', j', e3, -⟩
      · rw [e1] at e3
        cases e3
        refine Or.inl ⟨T, j2, e2, hA, fun g => ?_, fun e1 e2 e3 e4 => ?_⟩
        · rw [z 40 _ (by decide), z 41 _ (by decide)]; exact b2 g
        · rw [z 42 _ (by decide)]; exact (b3 e1 e2 e3 e4).x f hj
      · rw [e1] at e3
        cases e3
    · exact Or.inr ⟨f', j, e2, hF⟩
theorem x_rvar (hB : a_Can B) (hcap : XCap t n ns) (hta : ∀ i, ta.getD i 0 ≤ 2) (h2 : 2 < tn.length) (h2a : ta.getD 2 0 = 2) (N d dep i P c sc wc : Nat) (s : aZ) (l : aZL) (res : (Int × Nat) ⊕ (aT × Nat)) (hd : 33 + 5 * (40 - dep) ≤ d) (hdep : dep ≤ 40) (h : pvr t n N dep i = some res) (hi : i ≤ 6000) (hA : XAt t n ns i s) (hR : XRs tn ta cn ct P c sc wc s) (x2 : Int) (u3 u4 u5 : Value) (Q : aR → Prop) (K : ∀ (s2 : aZ) (P2 : Nat) (x3 x4 x5 : Int), XVf t n ns tn ta cn ct P c sc wc i res s s2 P2 → a_W d 38 158 [.ref 38, iv (dep : Int), iv x2, iv x3, iv x4, iv x5] [] (mkH B s2 l) Q) : a_W d 38 35 [.ref 38, iv (dep : Int), iv x2, u3, u4, u5] [] (mkH B s l) Q := by
  have hP := hR.2.1
  have p0 := hR.1.1
  -- behind an untyped name
  have unt : ∀ (s1 : aZ) (x3 x4 : Int), inR x3 → inR x4 → FrX s s1 → ((∃ j, res = .inr (noT, j) ∧ XAt t n ns j s1 ∧ (x3 = stT t n (vtk t n i) ∧ x4 = tkE t n (stT t n (vtk t n i))) ∧ i ≤ j) ∨ (∃ f j, res = .inl (f, j) ∧ XFt t n ns f j s1)) → inR 0 ∧ (((0 : Int) = 0 → (((zz s1 45 7) = 0 → a_W (d - 1) 47 0 [.ref 17] [] (mkH B s1 l) (fun r => ∃ (v8 : Int) (s6 : Nat → Nat → Int32) (l7 : Nat → Nat → Int64), r = (.inl (some (iv v8)), mkH B s6 l7) ∧ (((zz s6 39 3) < 500 → ((0 ≤ (zz s6 39 3) ∧ (zz s6 39 3) < 500) ∧ a_W d 38 158 [.ref 38, iv (dep : Int), iv x2, iv 0, iv x3, iv x4] [] (mkH B (zu (zu (zu (zu s6 40 (zz s6 39 3).toNat x3) 41 (zz s6 39 3).toNat x4) 42 (zz s6 39 3).toNat v8) 39 3 ((zz s6 39 3) + 1)) l7) Q)) ∧ (500 ≤ (zz s6 39 3) → a_W d 38 158 [.ref 38, iv (dep : Int), iv x2, iv 0, iv x3, iv x4] [] (mkH B (zu s6 45 7 1) l7) Q)))) ∧ ((zz s1 45 7) ≠ 0 → (((zz s1 39 3) < 500 → ((0 ≤ (zz s1 39 3) ∧ (zz s1 39 3) < 500) ∧ a_W d 38 158 [.ref 38, iv (dep : Int), iv x2, iv 0, iv x3, iv x4] [] (mkH B (zu (zu (zu (zu s1 40 (zz s1 39 3).toNat x3) 41 (zz s1 39 3).toNat x4) 42 (zz s1 39 3).toNat 0) 39 3 ((zz s1 39 3) + 1)) l) Q)) ∧ (500 ≤ (zz s1 39 3) → a_W d 38 158 [.ref 38, iv (dep : Int), iv x2, iv 0, iv x3, iv x4] [] (mkH B (zu s1 45 7 1) l) Q)))))) := by
    intro s1 x3 x4 h3 h4 f1 hr
    have lo1 := f1.lo
    have hR1 := hR.lo lo1 (f1.se.ps hR.1) (Nat.le_refl _) hP
    have e45 : zz s1 45 7 = zz s 45 7 := zz_of (lo1.1 45 (by decide)) 7
    have e10 : zz s1 17 10 = zz s 17 10 := zz_of (f1.hi 17 (by decide)) 10
    refine ⟨by decide, fun _ => ⟨fun o1 => ?_, fun o1 => ?_⟩⟩
    · refine a_W.imp (x_unknownG hB (by omega) l P hP s1 hR1.1) ?_
      rintro _ ⟨s6, w6, P6, rfl, hG⟩
      obtain ⟨g1, g2, g3, g4, -⟩ := hG.safe (by decide) ⟨by omega, by omega⟩ ⟨by omega, by omega⟩ hR1.1 (fun e => absurd e (by decide))
      obtain ⟨f6, q6, r6⟩ := hG.fa (by decide) ⟨by omega, by omega⟩ ⟨by omega, by omega⟩ hR1.1 (fun e => absurd e (by decide))
      refine ⟨_, s6, l, rfl, x_scAdd (t := t) (n := n) (ns := ns) (i := i) (C := fun s2 => a_W d 38 158 [.ref 38, iv (dep : Int), iv x2, iv 0, iv x3, iv x4] [] (mkH B s2 l) Q) x3 x4 h3 h4 w6 g4 (hR1.lo f6.lo g1 g2 g3) (lo1.tr f6.lo) g2 (q6.trans e10) res ?_ (fun s2 hX => K s2 P6 _ _ _ hX)⟩
      rcases hr with ⟨j, e, gA, gx, hij⟩ | ⟨f, j, e, gF⟩
      · refine Or.inl ⟨noT, j, e, gA.keep (fun k hk => f6.1 k (by omega)), gx, fun e1 e2 e3 => ?_⟩
        obtain ⟨rfl, rfl, hN⟩ := hG.pn (by omega)
        obtain ⟨-, -, n3, -, -⟩ := hN.facts (by omega) (by decide) ⟨by omega, by omega⟩ ⟨by omega, by omega⟩ hR1.1 (fun e => absurd e (by decide))
        refine ⟨⟨by omega, by omega, by omega⟩, ⟨(zz_of (f6.1 45 (by decide)) 7).trans o1, (n3 11 (by decide)).trans (zz_of (f1.hi 17 (by decide)) 11), q6.trans e10⟩, ⟨(zz_of (f6.1 38 (by decide)) 9).trans (zz_of (f1.hi 38 (by decide)) 9), (zz_of (f6.1 36 (by decide)) 6).trans (zz_of (f1.hi 36 (by decide)) 6), ?_⟩, fun _ hE => ?_⟩
        · rw [zz_of (f6.1 36 (by decide)) 5, zz_of (f1.hi 36 (by decide)) 5]
          exact ⟨Or.inl, fun h => h.elim id (fun h => absurd h (by decide))⟩
        · obtain ⟨rt, u, hE⟩ := f1.se.pe hE
          obtain ⟨hE2, hV2⟩ := PN.pe hE (by omega) (by decide) (by decide) ⟨by omega, by omega⟩ ⟨by omega, by omega⟩ (fun e => absurd e (by decide)) (fun e => absurd rfl e) hN
          refine ⟨⟨_, _, hE2⟩, fun v hV => ⟨?_, fun e => absurd rfl e⟩, fun v τ hV _ => ?_⟩
          · rw [← f1.se.vw]
            exact ((hV2 v).mp hV).1
          · refine ⟨fun k => if k = w6 then τ else v k, (hV2 _).mpr ⟨?_, fun e => absurd rfl e⟩, fun k hk => if_neg (by omega), if_pos rfl⟩
            rw [← f1.se.vw] at hV
            exact hV.congr hE.2.2.1.1 (fun k hk => (hE.2.1 k hk).1) (fun k hk => if_neg (by omega))
      · exact Or.inr ⟨f, j, e, gF.keep (fun k hk => f6.1 k (by omega))⟩
    · have := x_scAdd (t := t) (n := n) (ns := ns) (i := i) (C := fun s2 => a_W d 38 158 [.ref 38, iv (dep : Int), iv x2, iv 0, iv x3, iv x4] [] (mkH B s2 l) Q) x3 x4 h3 h4 0 p0 hR1 lo1 (Nat.le_refl _) e10 res ?_ (fun s2 hX => K s2 P _ _ _ hX)
      · exact this
      · rcases hr with ⟨j, e, gA, gx, hij⟩ | ⟨f, j, e, gF⟩
        · exact Or.inl ⟨noT, j, e, gA, gx, fun e1 => absurd (e45.trans e1) o1⟩
        · exact Or.inr ⟨f, j, e, gF⟩
  -- a fault stands: what closes the variable
  have flt5 : ∀ (s3 : aZ) (P2 : Nat) (x3 x4 : Int), XVf t n ns tn ta cn ct P c sc wc i res s s3 P2 → (∃ f j, res = .inl (f, j)) → a_W (d - 1) 63 0 [.ref 1, iv 5] [] (mkH B s3 l) (fun r => ∃ (s20 : Nat → Nat → Int32) (l21 : Nat → Nat → Int64), r = (.inl none, mkH B s20 l21) ∧ a_W d 38 158 [.ref 38, iv (dep : Int), iv x2, iv 1, iv x3, iv x4] [] (mkH B s20 l21) Q) := by
    rintro s3 P2 x3 x4 hX ⟨f, j, e⟩
    rcases hX.2.2.2 with ⟨T, j', e', -⟩ | ⟨f', j', e', gF⟩
    · rw [e] at e'
      cases e'
    refine a_W.imp (x_expect_f hB (by omega) l 5 (by decide) gF) ?_
    rintro _ rfl
    exact ⟨s3, l, rfl, K s3 P2 _ _ _ hX⟩
  -- typed, behind a fault
  have typF : ∀ (s1 : aZ) (x3 x4 : Int) (f : Int) (j : Nat), inR x3 → inR x4 → FrX s s1 → res = .inl (f, j) → XFt t n ns f j s1 → a_W (d - 1) 63 0 [.ref 1, iv 6] [] (mkH B s1 l) (fun r => ∃ (s13 : Nat → Nat → Int32) (l14 : Nat → Nat → Int64), r = (.inl none, mkH B s13 l14) ∧ a_W (d - 1) 65 0 [.ref 36, iv (dep : Int), .retAddr 0, .retAddr 0, .retAddr 0] [] (mkH B s13 l14) (fun r => ∃ (v17 : Int) (s15 : Nat → Nat → Int32) (l16 : Nat → Nat → Int64), r = (.inl (some (iv v17)), mkH B s15 l16) ∧ (((zz s15 39 3) < 500 → ((0 ≤ (zz s15 39 3) ∧ (zz s15 39 3) < 500) ∧ a_W (d - 1) 63 0 [.ref 1, iv 5] [] (mkH B (zu (zu (zu (zu s15 40 (zz s15 39 3).toNat x3) 41 (zz s15 39 3).toNat x4) 42 (zz s15 39 3).toNat v17) 39 3 ((zz s15 39 3) + 1)) l16) (fun r => ∃ (s20 : Nat → Nat → Int32) (l21 : Nat → Nat → Int64), r = (.inl none, mkH B s20 l21) ∧ a_W d 38 158 [.ref 38, iv (dep : Int), iv x2, iv 1, iv x3, iv x4] [] (mkH B s20 l21) Q))) ∧ (500 ≤ (zz s15 39 3) → a_W (d - 1) 63 0 [.ref 1, iv 5] [] (mkH B (zu s15 45 7 1) l16) (fun r => ∃ (s20 : Nat → Nat → Int32) (l21 : Nat → Nat → Int64), r = (.inl none, mkH B s20 l21) ∧ a_W d 38 158 [.ref 38, iv (dep : Int), iv x2, iv 1, iv x3, iv x4] [] (mkH B s20 l21) Q))))) := by
    intro s1 x3 x4 f j h3 h4 f1 e gF
    refine a_W.imp (x_expect_f hB (by omega) l 6 (by decide) gF) ?_
    rintro _ rfl
    have lo1 := f1.lo
    have hS1 := f1.se.ps hR.1
    refine ⟨s1, l, rfl, a_W.imp (x_writtenF hB (by omega) l _ hP hS1 gF) ?_⟩
    rintro _ ⟨s2, v, rfl, hv⟩
    have gF2 : XFt t n ns f j (zu s2 36 5 v) := (gF.keep (fun k hk => hv.k k (by omega))).keep (fun k hk => zu_ne _ _ _ _ _ (by omega))
    have lo2 : XLo s (zu s2 36 5 v) := lo1.tr (hv.fa.lo.tr ⟨fun k hk => zu_ne _ _ _ _ _ (by omega), fun j _ => zz_ne _ _ _ _ _ _ (by omega), zz_ne _ _ _ _ _ _ (by omega), zz_ne _ _ _ _ _ _ (by omega)⟩)
    have hS2 : PS P (zu s2 36 5 v) := (hv.ps hS1).z (zz_ne _ _ _ _ _ _ (by omega)) (fun k k1 k2 j => zz_ne _ _ _ _ _ _ (by omega))
    have e10 : zz (zu s2 36 5 v) 17 10 = zz s 17 10 := by rw [zz_ne _ _ _ _ _ _ (by omega), zz_of (hv.k 17 (by decide)), zz_of (f1.hi 17 (by decide))]
    exact ⟨_, _, l, rfl, x_scAdd (t := t) (n := n) (ns := ns) (i := i) (C := fun sC => a_W (d - 1) 63 0 [.ref 1, iv 5] [] (mkH B sC l) (fun r => ∃ (s20 : Nat → Nat → Int32) (l21 : Nat → Nat → Int64), r = (.inl none, mkH B s20 l21) ∧ a_W d 38 158 [.ref 38, iv (dep : Int), iv x2, iv 1, iv x3, iv x4] [] (mkH B s20 l21) Q)) x3 x4 h3 h4 0 p0 (hR.lo lo2 hS2 (Nat.le_refl _) hP) lo2 (Nat.le_refl _) e10 res (Or.inr ⟨f, j, e, gF2⟩) (fun s3 hX => flt5 s3 P x3 x4 hX ⟨f, j, e⟩)⟩
  unfold pvr at h
  rcases pLk_some h with ⟨cf, e⟩ | ⟨h0, h⟩
  · have gF := hA.f cf
    refine w38_35 hB (by omega) _ _ _ _ _ s l ⟨fun _ => w38_63 hB (by omega) _ _ _ _ _ s l (a_W.imp (x_expect_f hB (by omega) l 1 (by decide) gF) ?_), fun e4 => absurd e4 (by rw [gF.k0]; decide)⟩
    rintro _ rfl
    obtain ⟨u1, u2⟩ := unt s (zz s 1 7) (zz s 1 8) (inR_zz _ _ _) (inR_zz _ _ _) (FrX.rf s) (Or.inr ⟨_, _, e, gF⟩)
    exact ⟨s, l, rfl, u1, u2, fun c => absurd rfl c⟩
  have k6 : zz s 1 6 = kdT t n i := hA.k6 h0
  by_cases k4 : kdT t n i = 4
  · rw [if_pos k4] at h
    obtain ⟨a1, a2⟩ := lt_nx h0 (by omega)
    refine w38_35 hB (by omega) _ _ _ _ _ s l ⟨fun c => absurd (k6.trans k4) c, fun _ => a_W.imp (x_advance hB (by omega) hcap l i h0 a1 (hA.1 h0)) ?_⟩
    rintro _ ⟨s2, rfl, hA2, f2, -⟩
    refine ⟨s2, l, rfl, w38_63 hB (by omega) _ _ _ _ _ s2 l (a_W.imp (x_expect hB (by omega) hcap l (i + 1) 1 (by decide) hA2) ?_)⟩
    have r3 := inR_zz s2 1 7
    have r4 := inR_zz s2 1 8
    rintro _ ⟨s3, rfl, f3, ⟨h1, hk1, hs1, hA3⟩ | ⟨h1, hk1, gF⟩ | ⟨h1, gF⟩⟩
    rotate_left
    · rcases pLk_some h with ⟨c, -⟩ | ⟨-, h⟩
      · exact absurd h1 c
      rw [if_neg hk1] at h
      cases h
      exact ⟨s3, l, rfl, by decide, fun c => absurd c (by decide), fun _ => typF s3 _ _ 2 (i + 1) r3 r4 (f2.tr f3) rfl gF⟩
    · rcases pLk_some h with ⟨-, e⟩ | ⟨c, -⟩
      · exact ⟨s3, l, rfl, by decide, fun c => absurd c (by decide), fun _ => typF s3 _ _ _ (i + 1) r3 r4 (f2.tr f3) e gF⟩
      · exact absurd c h1
    rcases pLk_some h with ⟨c, -⟩ | ⟨-, h⟩
    · exact absurd h1 c
    rw [if_pos hk1] at h
    have b2 := (lt_nx h1 (by omega)).2
    have hC2 := hA2.1 h1
    have x3e : zz s2 1 7 = stT t n (i + 1) := hC2.2.2.2.1
    have x4e : zz s2 1 8 = tkE t n (stT t n (i + 1)) := (hC2.2.2.2.2.2.1 hs1).1
    have hvt : vtk t n i = i + 1 := if_pos k4
    refine ⟨s3, l, rfl, by decide, fun c => absurd c (by decide), fun _ => ?_⟩
    have f23 := f2.tr f3
    by_cases hcol : ftT t n (i + 2) = 0 ∧ kdT t n (i + 2) = 6
    · obtain ⟨h2t, hk6⟩ := hcol
      rcases pLk_some h with ⟨c, -⟩ | ⟨-, h⟩
      · exact absurd h2t c
      rw [if_pos hk6] at h
      refine a_W.imp (x_expect hB (by omega) hcap l (i + 2) 6 (by decide) hA3) ?_
      rintro _ ⟨s9, rfl, f9, ⟨-, -, hs2, hA9⟩ | ⟨-, c, -⟩ | ⟨c, -⟩⟩
      rotate_left
      · exact absurd hk6 c
      · exact absurd h2t c
      have c2 := (lt_nx h2t (by omega)).2
      have f9' := f23.tr f9
      have lo9 := f9'.lo
      have hR9 := hR.lo lo9 (f9'.se.ps hR.1) (Nat.le_refl _) hP
      have e10 : zz s9 17 10 = zz s 17 10 := zz_of (f9'.hi 17 (by decide)) 10
      have e11 : zz s9 17 11 = zz s 17 11 := zz_of (f9'.hi 17 (by decide)) 11
      rcases pBd_some h with ⟨e, r1, e2⟩ | ⟨Ty, k, r1, r2⟩
      · refine ⟨s9, l, rfl, a_W.imp (x_wr hB hcap hta h2 h2a N (d - 1) dep (i + 3) P c sc wc s9 l _ (by omega) hdep r1 (by omega) hA9 hR9) ?_⟩
        rintro _ ⟨s11, y, P2, rfl, g1, g2, g3, g4, g5, ⟨T, j, hh, -⟩ | ⟨f, j, hh, gF⟩⟩
        · cases hh
        · cases hh
          exact ⟨_, s11, l, rfl, x_scAdd (t := t) (n := n) (ns := ns) (i := i) (C := fun sC => a_W (d - 1) 63 0 [.ref 1, iv 5] [] (mkH B sC l) (fun r => ∃ (s20 : Nat → Nat → Int32) (l21 : Nat → Nat → Int64), r = (.inl none, mkH B s20 l21) ∧ a_W d 38 158 [.ref 38, iv (dep : Int), iv x2, iv 1, iv (zz s2 1 7), iv (zz s2 1 8)] [] (mkH B s20 l21) Q)) _ _ r3 r4 y g4 g2 (lo9.tr g1) g3 (g5.trans e10) res (Or.inr ⟨f, j, e2, gF⟩) (fun s3 hX => flt5 s3 P2 _ _ hX ⟨f, j, e2⟩)⟩
      · have r3' := (pty_le t n N 0 dep (i + 3) _ (by decide) (fun c => absurd c (by decide)) (by omega) r1).1 Ty k rfl
        have r4' := pty0_ft t n N dep (i + 3) Ty k r1
        refine ⟨s9, l, rfl, a_W.imp (x_wr hB hcap hta h2 h2a N (d - 1) dep (i + 3) P c sc wc s9 l _ (by omega) hdep r1 (by omega) hA9 hR9) ?_⟩
        rintro _ ⟨s11, y, P2, rfl, g1, g2, g3, g4, g5, ⟨T, j, hh, gA, gW⟩ | ⟨f, j, hh, -⟩⟩
        rotate_left
        · cases hh
        cases hh
        refine ⟨_, s11, l, rfl, x_scAdd (t := t) (n := n) (ns := ns) (i := i) (C := fun sC => a_W (d - 1) 63 0 [.ref 1, iv 5] [] (mkH B sC l) (fun r => ∃ (s20 : Nat → Nat → Int32) (l21 : Nat → Nat → Int64), r = (.inl none, mkH B s20 l21) ∧ a_W d 38 158 [.ref 38, iv (dep : Int), iv x2, iv 1, iv (zz s2 1 7), iv (zz s2 1 8)] [] (mkH B s20 l21) Q)) _ _ r3 r4 y g4 g2 (lo9.tr g1) g3 (g5.trans e10) (.inr (Ty, k)) (Or.inl ⟨Ty, k, rfl, gA, ⟨by rw [hvt]; exact x3e, by rw [hvt]; exact x4e⟩, fun e1 e2 e3 => ?_⟩) (fun s13 hX => ?_)⟩
        · obtain ⟨⟨w1, w2⟩, ⟨w3, w4⟩, w5⟩ := gW (e11.trans e2) (by omega)
          have z36 : ∀ j, zz s9 36 j = zz s 36 j := fun j => zz_of (f9'.hi 36 (by decide)) j
          have lo11 := lo9.tr g1
          refine ⟨⟨by omega, g3, g4⟩, ⟨?_, ?_, g5.trans e10⟩, ⟨zz_of (lo11.1 38 (by decide)) 9, ?_, ?_⟩, fun hb hE => ?_⟩
          · rw [zz_of (lo11.1 45 (by decide)) 7]; exact e1
          · rw [w2, e11]
          · rw [w3, z36]
          · rw [w4, z36]
          · obtain ⟨q1, q2, q3⟩ := w5 hb (f9'.se.pe hE)
            rw [f9'.se.vw] at q2 q3
            refine ⟨q1, fun v hV => ⟨(q2 v hV).1, fun _ => (q2 v hV).2⟩, fun v τ hV hτ => ?_⟩
            obtain ⟨v2, a, b⟩ := q3 v hV
            refine ⟨v2, a, b, ?_⟩
            rw [(q2 v2 a).2]
            have hne : Ty ≠ noT := by
              rintro rfl
              exact pty_noT t n N 0 dep (i + 3) k (by decide) r1
            exact (hτ hne).symm
        · rcases hX.2.2.2 with ⟨T', j', e', gA', -⟩ | ⟨f', j', e', -⟩
          rotate_left
          · cases e'
          cases e'
          refine a_W.imp (x_expect hB (by omega) hcap l k 5 (by decide) gA') ?_
          rintro _ ⟨s14, rfl, f14, hh⟩
          refine ⟨s14, l, rfl, K s14 P2 _ _ _ (hX.x f14 ?_)⟩
          rcases hh with ⟨-, hk5, hs5, hA14⟩ | ⟨-, hk5, gF⟩ | ⟨c, -⟩
          rotate_left
          · rw [if_neg hk5] at r2
            cases r2
            exact Or.inr ⟨2, k, rfl, gF⟩
          · exact absurd r4' c
          rw [if_pos hk5] at r2
          cases r2
          exact Or.inl ⟨Ty, k, k + 1, rfl, rfl, Nat.le_succ _, hA14⟩
    · -- no colon
      have fl : ∃ f, res = .inl (f, i + 2) ∧ ((ftT t n (i + 2) = 0 ∧ f = 2) ∨ (ftT t n (i + 2) ≠ 0 ∧ f = ftT t n (i + 2))) := by
        rcases pLk_some h with ⟨c, e⟩ | ⟨c, h⟩
        · exact ⟨_, e, Or.inr ⟨c, rfl⟩⟩
        · rw [if_neg (fun e => hcol ⟨c, e⟩)] at h
          cases h
          exact ⟨2, rfl, Or.inl ⟨c, rfl⟩⟩
      obtain ⟨f, er, hf⟩ := fl
      refine a_W.imp (x_expect hB (by omega) hcap l (i + 2) 6 (by decide) hA3) ?_
      rintro _ ⟨s9, rfl, f9, hh⟩
      have gF : XFt t n ns f (i + 2) s9 := by
        rcases hh with ⟨a, b, -, -⟩ | ⟨a, b, g⟩ | ⟨a, g⟩
        · exact absurd ⟨a, b⟩ hcol
        · rcases hf with ⟨-, rfl⟩ | ⟨q, -⟩
          · exact g
          · exact absurd a q
        · rcases hf with ⟨q, -⟩ | ⟨-, rfl⟩
          · exact absurd q a
          · exact g
      have f9' := f23.tr f9
      refine ⟨s9, l, rfl, a_W.imp (x_writtenF hB (by omega) l _ hP (f9'.se.ps hR.1) gF) ?_⟩
      rintro _ ⟨s2', v, rfl, hv⟩
      have gF2 : XFt t n ns f (i + 2) (zu s2' 36 5 v) := (gF.keep (fun k hk => hv.k k (by omega))).keep (fun k hk => zu_ne _ _ _ _ _ (by omega))
      have lo2 : XLo s (zu s2' 36 5 v) := f9'.lo.tr (hv.fa.lo.tr ⟨fun k hk => zu_ne _ _ _ _ _ (by omega), fun j _ => zz_ne _ _ _ _ _ _ (by omega), zz_ne _ _ _ _ _ _ (by omega), zz_ne _ _ _ _ _ _ (by omega)⟩)
      have hS2 : PS P (zu s2' 36 5 v) := (hv.ps (f9'.se.ps hR.1)).z (zz_ne _ _ _ _ _ _ (by omega)) (fun k k1 k2 j => zz_ne _ _ _ _ _ _ (by omega))
      have e10 : zz (zu s2' 36 5 v) 17 10 = zz s 17 10 := by rw [zz_ne _ _ _ _ _ _ (by omega), zz_of (hv.k 17 (by decide)), zz_of (f9'.hi 17 (by decide))]
      exact ⟨_, _, l, rfl, x_scAdd (t := t) (n := n) (ns := ns) (i := i) (C := fun sC => a_W (d - 1) 63 0 [.ref 1, iv 5] [] (mkH B sC l) (fun r => ∃ (s20 : Nat → Nat → Int32) (l21 : Nat → Nat → Int64), r = (.inl none, mkH B s20 l21) ∧ a_W d 38 158 [.ref 38, iv (dep : Int), iv x2, iv 1, iv (zz s2 1 7), iv (zz s2 1 8)] [] (mkH B s20 l21) Q)) _ _ r3 r4 0 p0 (hR.lo lo2 hS2 (Nat.le_refl _) hP) lo2 (Nat.le_refl _) e10 res (Or.inr ⟨f, i + 2, er, gF2⟩) (fun s3 hX => flt5 s3 P _ _ hX ⟨f, i + 2, er⟩)⟩
  · rw [if_neg k4] at h
    refine w38_35 hB (by omega) _ _ _ _ _ s l ⟨fun _ => w38_63 hB (by omega) _ _ _ _ _ s l (a_W.imp (x_expect hB (by omega) hcap l i 1 (by decide) hA) ?_), fun e4 => absurd (k6.symm.trans e4) k4⟩
    rintro _ ⟨s3, rfl, f3, ⟨-, hk1, hs1, hA3⟩ | ⟨-, hk1, gF⟩ | ⟨c, -⟩⟩
    · rw [if_pos hk1] at h
      have hC := hA.1 h0
      have hvt : vtk t n i = i := if_neg k4
      obtain ⟨u1, u2⟩ := unt s3 (zz s 1 7) (zz s 1 8) (inR_zz _ _ _) (inR_zz _ _ _) f3 (Or.inl ⟨i + 1, by cases h; rfl, hA3, ⟨by rw [hvt]; exact hC.2.2.2.1, by rw [hvt]; exact (hC.2.2.2.2.2.1 hs1).1⟩, by omega⟩)
      exact ⟨s3, l, rfl, u1, u2, fun c => absurd rfl c⟩
    · rw [if_neg hk1] at h
      cases h
      obtain ⟨u1, u2⟩ := unt s3 (zz s 1 7) (zz s 1 8) (inR_zz _ _ _) (inR_zz _ _ _) f3 (Or.inr ⟨2, i, rfl, gF⟩)
      exact ⟨s3, l, rfl, u1, u2, fun c => absurd rfl c⟩
    · exact absurd h0 c
end
