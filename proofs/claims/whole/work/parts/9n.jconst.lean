/-! A CONSTANT IS DECLARED: both agree -/
/-- the pool is emptied: node 0 stands where no type is -/
theorem x_clear {d : Nat} {B : aH} (hB : a_Can B) (hd : 6 ≤ d) (l : aZL) (s : aZ) : a_W d 46 0 [.ref 17] [] (mkH B s l) (fun q => ∃ s2, q = (.inl none, mkH B s2 l) ∧ PS 1 s2 ∧ zz s2 17 9 = 0 ∧ zz s2 17 10 = 0 ∧ zz s2 17 11 = 0 ∧ zz s2 18 0 = -1000000 ∧ zz s2 21 0 = 0 ∧ ∀ k, (k < 17 ∨ 23 < k) → s2 k = s k) := by
  refine w46_0 hB (by omega) s l ?_
  have e8 : zz (zu (zu (zu (zu s 17 8 0) 17 9 0) 17 10 0) 17 11 0) 17 8 = 0 := by rw [zz_ne _ _ _ _ _ _ (by omega), zz_ne _ _ _ _ _ _ (by omega), zz_ne _ _ _ _ _ _ (by omega), zz_same _ _ _ (by decide)]
  have e9 : zz (zu (zu (zu (zu s 17 8 0) 17 9 0) 17 10 0) 17 11 0) 17 9 = 0 := by rw [zz_ne _ _ _ _ _ _ (by omega), zz_ne _ _ _ _ _ _ (by omega), zz_same _ _ _ (by decide)]
  have e10 : zz (zu (zu (zu (zu s 17 8 0) 17 9 0) 17 10 0) 17 11 0) 17 10 = 0 := by rw [zz_ne _ _ _ _ _ _ (by omega), zz_same _ _ _ (by decide)]
  have e11 : zz (zu (zu (zu (zu s 17 8 0) 17 9 0) 17 10 0) 17 11 0) 17 11 = 0 := zz_same _ _ _ (by decide)
  have ek : ∀ k, k ≠ 17 → zu (zu (zu (zu s 17 8 0) 17 9 0) 17 10 0) 17 11 0 k = s k := fun k hk => by rw [zu_ne _ _ _ _ _ hk, zu_ne _ _ _ _ _ hk, zu_ne _ _ _ _ _ hk, zu_ne _ _ _ _ _ hk]
  generalize zu (zu (zu (zu s 17 8 0) 17 9 0) 17 10 0) 17 11 0 = s1 at *
  refine w47_0 hB (by omega) s1 l (w48_0 hB _ _ _ s1 l ⟨fun _ => ⟨⟨by omega, by omega⟩, ?_⟩, fun h => absurd h (by omega)⟩)
  have t8 : (zz s1 17 8).toNat = 0 := by rw [e8]; rfl
  rw [t8, e8]
  have es : zu (zu (zu (zu s1 18 0 (-1000000)) 19 0 (-1)) 20 0 (-1)) 21 0 0 = nwP s1 0 (-1000000) (-1) (-1) := rfl
  rw [es]
  obtain ⟨n1, n2, n3, n4⟩ := nwP_at s1 0 (-1000000) (-1) (-1) (by decide) (by decide) (by decide) (by decide)
  have ne := fun k j h => nwP_ne s1 0 (-1000000) (-1) (-1) k j h
  have nk := fun k h => nwP_k s1 0 (-1000000) (-1) (-1) k h
  generalize nwP s1 0 (-1000000) (-1) (-1) = s2 at *
  have z : ∀ k j, k ≠ 17 → zz (zu s2 17 8 (0 + 1)) k j = zz s2 k j := fun k j h1 => zz_ne _ _ _ _ _ _ (by omega)
  have z17 : ∀ j, j ≠ 8 → zz (zu s2 17 8 (0 + 1)) 17 j = zz s1 17 j := fun j hj => by rw [zz_ne _ _ _ _ _ _ (by omega), ne 17 j (by omega)]
  refine ⟨_, _, l, rfl, _, _, l, rfl, _, rfl, ⟨by decide, ?_, fun j hj => ?_, fun j hj => ?_⟩, (z17 9 (by decide)).trans e9, (z17 10 (by decide)).trans e10, (z17 11 (by decide)).trans e11, ?_, ?_, fun k hk => ?_⟩
  · rw [zz_same _ _ _ (by decide)]; rfl
  · have e : j = 0 := by omega
    rw [e, z 21 0 (by decide), n4]
    decide
  · have e : j = 0 := by omega
    rw [e, z 18 0 (by decide), z 19 0 (by decide), z 20 0 (by decide), n1, n2, n3]
    decide
  · rw [z 18 0 (by decide), n1]
  · rw [z 21 0 (by decide), n4]; rfl
  · rw [zu_ne _ _ _ _ _ (by omega), nk k (by omega), ek k (by omega)]
/-- what the call constant leaves of what it has no business with -/
def CDf (s : aZ) (l : aZL) (s3 : aZ) (l3 : aZL) : Prop := (∀ k, 34 ≤ k → k < 56 → k ≠ 36 → k ≠ 37 → s3 k = s k) ∧ s3 2 = s 2 ∧ zz s3 1 2 = 0 ∧ zz s3 56 2 = 0 ∧ (∀ k, 56 < k → k < 106 → k ≠ 59 → k ≠ 60 → (k < 64 ∨ 67 < k) → k ≠ 71 → k ≠ 72 → k ≠ 73 → (k < 75 ∨ 81 < k) → s3 k = s k) ∧ (∀ j, j ∉ [0, 2, 3, 5, 16, 17, 22, 23, 24, 25, 26, 31, 32, 33, 41, 48, 51] → zz s3 56 j = zz s 56 j) ∧ (∀ k, k < 105 → k ≠ 58 → k ≠ 63 → k ≠ 74 → l3 k = l k) ∧ zz s3 1 10 = zz s3 56 22 ∧ zz s3 1 11 = zz s3 56 23
/-- no constant is named by the sign of an abstraction -/
theorem co_ne {t : Nat → Int} {n : Nat} {tn : List (List Int)} {ta : List Int} {cn : List (List Int)} {T : aT} (h : coR t n tn ta cn = .inr T) : nmW t n (stT t n 0) ≠ [92] := by
  unfold coR at h
  cases hP : coP t n with
  | none => rw [hP] at h; cases h
  | some r =>
    cases r with
    | inl q => rw [hP] at h; cases h
    | inr q =>
      unfold coP at hP
      rcases pLk_some hP with ⟨c, e⟩ | ⟨h0, hP⟩
      · cases e
      split at hP
      · rename_i hz
        have hkr := kd_rng h0
        have hkk : kdT t n 0 = 1 ∨ (19 ≤ kdT t n 0 ∧ kdT t n 0 ≤ 22) := by unfold z122 at hz; omega
        have hs : stT t n 0 < n := by omega
        obtain ⟨i6, hF0⟩ := ft0 h0 hs
        have ekd : kdT t n 0 = tkK t n (stT t n 0) := by unfold kdT; rw [if_pos hs]
        intro e92
        rcases hkk with hk | hk
        · have hkT : tkK t n (stT t n 0) = 1 := by rw [← ekd]; exact hk
          have hz31 := tkK1 hkT
          obtain ⟨v1, v2, v3, v4⟩ := nmW_ok hs hF0 hz31
          have hg0 : (nmW t n (stT t n 0)).getD 0 0 = t (stT t n 0) := by
            have : (nmW t n (stT t n 0)).getD 0 0 = t (stT t n 0 + 0) := by unfold nmW; exact seg_get _ _ _ _ (by rw [nmW, seg_len] at v4; exact v4)
            exact this
          rw [e92] at hg0
          have h92 : t (stT t n 0) = 92 := hg0.symm
          rw [h92] at hz31
          exact hz31 (by decide)
        · obtain ⟨o1, -, -⟩ := tk_op hs (by rw [← ekd]; omega)
          rw [← ekd, e92] at o1
          rcases (show kdT t n 0 = 19 ∨ kdT t n 0 = 20 ∨ kdT t n 0 = 21 ∨ kdT t n 0 = 22 by omega) with e | e | e | e <;> rw [e] at o1 <;> exact absurd o1 (by decide)
      · cases hP
theorem j119_ok {d L i : Nat} (hd : 250 ≤ d) {xs : Nat → Int32} {Inv : Nat → aH → aZ → aZL → Prop} {B : aH} {s : aZ} {l : aZL} {t : Nat → Int} {n : Nat} {vs tn : List (List Int)} {ta : List Int} {cn : List (List Int)} {ct : List aT} {fx : Nat} (hB : a_BI L i xs B s) (hn : n ≤ 8000) (hf1 : (n : Int) ≤ zz s 1 2) (hf2 : (n : Int) ≤ zz s 56 2) (hb : ∀ j, j < n → zz s 2 j = sb (t j) ∧ zz s 57 j = t j ∧ 0 ≤ t j ∧ t j < 256) (hXc : XCap t n vs) (hMc : MCap t n vs) (hN : NT 3 5 6 7 4 10240 3000 vs s) (hV : MV vs s l) (hX : XTy tn ta s) (hM : MTy tn ta s l) (hta : ∀ i, ta.getD i 0 ≤ 2) (h2a : ta.getD 2 0 = 2) (hXC : XCo cn ct s) (hMC : MCo cn ct fx s l) (hW : ∀ c, c < cn.length → wfC tn.length ta (ct.getD c cNo)) (hFx : MFx ta fx s)
    (hI : ∀ B3 s3 l3 cn3 ct3 fx3, ((cn3 = cn ∧ ct3 = ct) ∨ ∃ (nm : List Int) (C : aT), nm ≠ [92] ∧ cn3 = cn ++ [nm] ∧ ct3 = ct ++ [C]) → MFx ta fx3 s3 → CDf s l s3 l3 → XTy tn ta s3 → MTy tn ta s3 l3 → XCo cn3 ct3 s3 → MCo cn3 ct3 fx3 s3 l3 → (∀ c, c < cn3.length → wfC tn.length ta (ct3.getD c cNo)) → NT 3 5 6 7 4 10240 3000 (nsT t n vs (coN t n)) s3 → MV (nsT t n vs (coN t n)) s3 l3 → Inv (i + 1) B3 s3 l3) : a_J d L i xs Inv 119 202 [.ref 0, iv (n : Int), .ref 105, .retAddr 0] [.ref 56, iv (n : Int), .retAddr 0, .retAddr 0, .retAddr 0, .retAddr 0] B s l := by
  have hnR : inR (n : Int) := ⟨by omega, by omega⟩
  have h2 : 2 < tn.length := by have := hM.2.2.1; omega
  have hv : ∀ i, 0 ≤ vT t n vs i ∧ vT t n vs i ≤ 20000 := fun i => by
    have a := ixn_rng (nsT t n vs i) (nmT t n (stT t n i))
    have b := (hXc i).1
    unfold vT
    omega
  refine w119_0 hB.1 (by omega) _ s l ?_
  refine w120_0 hB.1 (by omega) _ s l ⟨hnR, fun h => absurd h (by omega), fun _ => ⟨fun h => absurd h (by omega), fun _ => ?_⟩⟩
  refine a_W.imp (x_open hB.1 (by omega) hXc l hn (fun j hj => ⟨(hb j hj).1, (hb j hj).2.2⟩) hN) ?_
  rintro _ ⟨s1, rfl, g1, g2, g3, g4⟩
  refine ⟨s1, l, rfl, a_W.imp (x_clear hB.1 (by omega) l s1) ?_⟩
  rintro _ ⟨s2, rfl, p1, p2, p3, p4, p5, p6, p7⟩
  refine ⟨s2, l, rfl, w54_0 hB.1 s2 l ⟨_, l, rfl, ?_⟩⟩
  have k1 : ∀ k, 10 ≤ k → s1 k = s k := fun k hk => g4 k (by omega) (by omega) (by omega) (by omega) (by omega) (by omega)
  have k2 : ∀ k, (k < 17 ∨ 23 < k) → k ≠ 36 → zu (zu (zu s2 36 4 0) 36 5 0) 36 6 0 k = s1 k := fun k h1 h2 => by rw [zu_ne _ _ _ _ _ h2, zu_ne _ _ _ _ _ h2, zu_ne _ _ _ _ _ h2, p7 k h1]
  have k2' : ∀ k, k ≠ 36 → zu (zu (zu s2 36 4 0) 36 5 0) 36 6 0 k = s2 k := fun k h2 => by rw [zu_ne _ _ _ _ _ h2, zu_ne _ _ _ _ _ h2, zu_ne _ _ _ _ _ h2]
  have v4 : zz (zu (zu (zu s2 36 4 0) 36 5 0) 36 6 0) 36 4 = 0 := by rw [zz_ne _ _ _ _ _ _ (by omega), zz_ne _ _ _ _ _ _ (by omega), zz_same _ _ _ (by decide)]
  have v5 : zz (zu (zu (zu s2 36 4 0) 36 5 0) 36 6 0) 36 5 = 0 := by rw [zz_ne _ _ _ _ _ _ (by omega), zz_same _ _ _ (by decide)]
  have v6 : zz (zu (zu (zu s2 36 4 0) 36 5 0) 36 6 0) 36 6 = 0 := zz_same _ _ _ (by decide)
  generalize zu (zu (zu s2 36 4 0) 36 5 0) 36 6 0 = s3 at *
  have k3 : ∀ k, 10 ≤ k → (k < 17 ∨ 23 < k) → k ≠ 36 → s3 k = s k := fun k h1 h2 h3 => (k2 k h2 h3).trans (k1 k h1)
  have hS3 : PS 1 s3 := p1.z (zz_of (k2' 17 (by decide)) 8) (fun k h1 h2 j => zz_of (k2' k (by omega)) j)
  refine a_W.imp (x_declConst hB.1 (by omega) hXc hta h2 h2a l (g1.keep (fun k hk => k2 k (by omega) (by omega))) ((zz_of (k2 1 (by decide) (by decide)) 5).trans g2) (hX.fr (fun k h1 h2 => k3 k h1 (by omega) (by omega))) cn ct (hXC.fr (fun k h1 h2 => k3 k (by omega) (by omega) (by omega))) hS3 v4 v5 v6 ((zz_of (k2' 17 (by decide)) 11).trans p4)) ?_
  have mside : ∀ (v : Int) (s4 : aZ) (cn3 : List (List Int)) (ct3 : List aT), ((cn3 = cn ∧ ct3 = ct) ∨ ∃ (nm : List Int) (C : aT), nm ≠ [92] ∧ cn3 = cn ++ [nm] ∧ ct3 = ct ++ [C]) → inR v → FrC s3 s4 → NT 3 5 6 7 4 10240 3000 (nsT t n vs (coN t n)) s4 → XCo cn3 ct3 s4 → (∀ c, c < cn3.length → wfC tn.length ta (ct3.getD c cNo)) → (∀ (q : aR), MCR t n vs tn ta cn ct fx B s4 (a_up l 105 0 ((Int32.ofInt v).toInt64)) q → ∃ s5 l5 fx5, q = (.inl (some (iv v)), mkH B s5 l5) ∧ FrK s4 s5 (a_up l 105 0 ((Int32.ofInt v).toInt64)) l5 ∧ zz s5 56 0 = 0 ∧ zz s5 56 2 = 0 ∧ MV (nsT t n vs (coN t n)) s5 l5 ∧ MTy tn ta s5 l5 ∧ MCo cn3 ct3 fx5 s5 l5 ∧ (∀ j, fx ≤ j → j < fx5 → okD ta s5 j) ∧ zz s4 1 10 = zz s5 56 22 ∧ zz s4 1 11 = zz s5 56 23) → (fun r => ∃ (v : Int) (B2 : aH) (s2 : aZ) (l2 : aZL), r = (.inl (some (iv v)), mkH B2 s2 l2) ∧ a_BI L (i + 1) xs B2 s2 ∧ inR v ∧ a_W d 202 0 [.ref 56, iv (n : Int), .retAddr 0, .retAddr 0, .retAddr 0, .retAddr 0] [] (mkH B2 s2 l2) (fun r => ∃ (v2 : Int) (B3 : aH) (s3 : aZ) (l3 : aZL), r = (.inl (some (iv v2)), mkH B3 s3 l3) ∧ a_BI L (i + 1) xs B3 s3 ∧ zz s3 56 0 = v ∧ (v = 0 → l3 105 0 = (Int32.ofInt v2).toInt64) ∧ Inv (i + 1) B3 s3 l3)) ((.inl (some (iv 0)), mkH B s4 (a_up l 105 0 ((Int32.ofInt v).toInt64))) : aR) := by
    intro v s4 cn3 ct3 hx3 hvr q1 q4 q5 qW q6
    have kk : ∀ k, 34 ≤ k → k ≠ 36 → k ≠ 37 → s4 k = s k := fun k h1 h2 h3 => (q1.1 k (by omega) (by omega) (by omega) (by omega) (by omega) (by omega) (by omega) h2 h3).trans (k3 k (by omega) (by omega) h2)
    have z56 : ∀ j, zz s4 56 j = zz s 56 j := fun j => zz_of (kk 56 (by decide) (by decide) (by decide)) j
    have lk : ∀ k, k ≠ 105 → a_up l 105 0 ((Int32.ofInt v).toInt64) k = l k := fun k hk => by unfold a_up; rw [if_neg hk]
    have hXT4 : XTy tn ta s4 := hX.fr (fun k h1 h2 => (q1.1 k (by omega) (by omega) (by omega) (by omega) (by omega) (by omega) (by omega) (by omega) (by omega)).trans (k3 k h1 (by omega) (by omega)))
    refine ⟨0, B, s4, _, rfl, hB.up (kk aSc (by decide) (by decide) (by decide)), by decide, ?_⟩
    refine a_W.imp (m_const hB.1 (by omega) hMc hv hta h2a hn (by rw [z56]; exact hf2) (fun j hj => ⟨(zz_of (kk 57 (by decide) (by decide) (by decide)) j).trans (hb j hj).2.1, (hb j hj).2.2⟩) (hV.fr (z56 5) (lk 63 (by decide))) (hM.fr (z56 4) (kk 62 (by decide) (by decide) (by decide)) (lk 61 (by decide))) (hMC.fr (z56 3) (z56 17) (kk 59 (by decide) (by decide) (by decide)) (kk 60 (by decide) (by decide) (by decide)) (fun k h1 h2 j _ => zz_of (kk k (by omega) (by omega) (by omega)) j) (lk 58 (by decide)))) ?_
    intro q hq
    obtain ⟨s5, l5, fx5, rfl, r1, r2, r3, r4, rT, r5, rF, r6, r7⟩ := q6 q hq
    have k5 : ∀ k, k < 56 → s5 k = s4 k := fun k hk => r1.1 k (by omega) (by omega) (by omega) (by omega) (by omega) (by omega) (by omega) (by omega)
    have hF5 : MFx ta fx5 s5 := fun j hj => by
      by_cases e : j < fx
      · have e17 : zz s4 56 17 = (fx : Nat) := (z56 17).trans hMC.2.2.2.1
        exact (hFx j e).k (fun k k1 k2 => (r1.2.2.2 k k1 k2 j (by rw [e17]; omega)).trans (zz_of (kk k (by omega) (by omega) (by omega)) j))
      · exact rF j (by omega) hj
    have e2 : s4 2 = s 2 := (q1.1 2 (by decide) (by decide) (by decide) (by decide) (by decide) (by decide) (by decide) (by decide) (by decide)).trans ((k2 2 (by decide) (by decide)).trans (g4 2 (by decide) (by decide) (by decide) (by decide) (by decide) (by decide)))
    refine ⟨v, B, s5, l5, rfl, hB.up ((r1.1 aSc (by decide) (by decide) (by decide) (by decide) (by decide) (by decide) (by decide) (by decide)).trans (kk aSc (by decide) (by decide) (by decide))), r2, fun _ => ?_, hI B s5 l5 cn3 ct3 fx5 hx3 hF5 ⟨fun k h1 h2 h3 h4 => (k5 k h2).trans (kk k h1 h3 h4), (k5 2 (by decide)).trans e2, ?_, r3, fun k h1 h2 n1 n2 n3 n4 n5 n6 n7 => (r1.1 k (by omega) n1 n2 n3 n4 n5 n6 n7).trans (kk k (by omega) (by omega) (by omega)), fun j hj => (r1.2.1 j hj).trans (z56 j), fun k h1 n1 n2 n3 => (r1.2.2.1 k n1 n2 n3).trans (lk k (by omega)), (zz_of (k5 1 (by decide)) 10).trans r6, (zz_of (k5 1 (by decide)) 11).trans r7⟩ (hXT4.fr (fun k _ h2 => k5 k (by omega))) rT (q5.fr (fun k _ h2 => k5 k (by omega))) r5 qW (q4.fr (zz_of (k5 3 (by decide)) 4) (k5 5 (by decide)) (k5 6 (by decide)) (k5 7 (by decide)) (k5 4 (by decide))) r4⟩
    · rw [r1.2.2.1 105 (by decide) (by decide) (by decide)]
      unfold a_up
      simp only [if_true]
    · rw [zz_of (k5 1 (by decide)), q1.2 2 (by decide), zz_of (k2 1 (by decide) (by decide))]
      exact g3
  rintro _ ⟨s4, q1, q4, ⟨f, j, hR, rfl, e1, e2, q5⟩ | ⟨T, hR, rfl, e1, e2, q5, qw⟩⟩
  · refine ⟨_, s4, l, rfl, Or.inl ⟨_, s4, l, rfl, mside (-1) s4 cn ct (Or.inl ⟨rfl, rfl⟩) (by decide) q1 q4 q5 hW ?_⟩⟩
    rintro q ⟨s5, l5, r1, r2, r3, r4, rT, ⟨f2, j2, hR2, rfl, y1, y2, y3⟩ | ⟨T2, fx2, hR2, rfl, y1, y2, y3, y4⟩⟩
    · rw [hR] at hR2
      cases hR2
      exact ⟨s5, l5, fx, rfl, r1, r2, r3, r4, rT, y3, fun j h1 h2 => absurd h2 (by omega), e1.trans y1.symm, e2.trans y2.symm⟩
    · rw [hR] at hR2
      cases hR2
  · have hlen := hXC.1.2.2.2.1
    refine ⟨_, s4, l, rfl, Or.inl ⟨_, s4, l, rfl, mside (cn.length : Int) s4 _ _ (Or.inr ⟨_, _, co_ne hR, rfl, rfl⟩) ⟨by omega, by omega⟩ q1 q4 q5 ?_ ?_⟩⟩
    · intro c hc
      rw [List.length_append] at hc
      have hc' : c < cn.length + 1 := hc
      have hcl := hXC.2.1
      by_cases e : c < cn.length
      · rw [getD_app _ _ _ _ (by omega)]; exact hW c e
      · have ec : c = ct.length := by omega
        rw [ec, getD_last]
        exact qw
    · rintro q ⟨s5, l5, r1, r2, r3, r4, rT, ⟨f2, j2, hR2, rfl, y1, y2, y3⟩ | ⟨T2, fx2, hR2, rfl, y1, y2, y3, y4⟩⟩
      · rw [hR] at hR2
        cases hR2
      · rw [hR] at hR2
        cases hR2
        exact ⟨s5, l5, fx2, rfl, r1, r2, r3, r4, rT, y3, y4, e1.trans y1.symm, e2.trans y2.symm⟩
