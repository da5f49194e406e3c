/-! A TYPE IS DECLARED: both agree -/
/-- what a call that reads a text leaves of what it has no business with -/
def TDf (s : aZ) (l : aZL) (s3 : aZ) (l3 : aZL) : Prop := (∀ k, 17 ≤ k → k < 56 → s3 k = s k) ∧ s3 2 = s 2 ∧ zz s3 1 2 = 0 ∧ zz s3 56 2 = 0 ∧ (∀ k, 56 < k → k < 106 → k ≠ 62 → k ≠ 67 → k ≠ 71 → k ≠ 72 → k ≠ 73 → s3 k = s k) ∧ (∀ j, j ∉ [0, 2, 4, 5, 16, 22, 23, 24, 25, 26, 31, 32, 33, 41, 48, 51] → zz s3 56 j = zz s 56 j) ∧ (∀ k, k < 105 → k ≠ 61 → k ≠ 63 → k ≠ 74 → l3 k = l k) ∧ zz s3 1 10 = zz s3 56 22 ∧ zz s3 1 11 = zz s3 56 23
theorem tyR_c {t : Nat → Int} {n : Nat} {tn : List (List Int)} {c : Nat} (h : tyR t n tn = .inr c) : c ≤ 2 := by
  unfold tyR at h
  split at h
  · cases h
  · rename_i j hj
    have hj2 : tyL t n 2 1 = .inr j := by
      unfold tyP at hj
      split at hj
      · cases hj
      · split at hj
        · cases hj
        · exact hj
    have := (tyL_pos t n 2 1 j hj2).2
    split at h
    · cases h
    · split at h
      · cases h
      · injection h with h
        omega
theorem j125_ok {d L i : Nat} (hd : 14 ≤ d) {xs : Nat → Int32} {Inv : Nat → aH → aZ → aZL → Prop} {B : aH} {s : aZ} {l : aZL} {t : Nat → Int} {n : Nat} {vs tn : List (List Int)} {ta : List Int} (hB : a_BI L i xs B s) (hn : n ≤ 8000) (hf1 : (n : Int) ≤ zz s 1 2) (hf2 : (n : Int) ≤ zz s 56 2) (hb : ∀ j, j < n → zz s 2 j = sb (t j) ∧ zz s 57 j = t j ∧ 0 ≤ t j ∧ t j < 256) (hXc : XCap t n vs) (hMc : MCap t n vs) (hN : NT 3 5 6 7 4 10240 3000 vs s) (hV : MV vs s l) (hX : XTy tn ta s) (hM : MTy tn ta s l) (fx : Nat) (hfx : zz s 56 17 = fx) (h6 : fx ≤ 60000)
    (hI : ∀ B3 s3 l3 tn3 ta3, ((tn3 = tn ∧ ta3 = ta) ∨ ∃ (nm : List Int) (c : Nat), tn3 = tn ++ [nm] ∧ ta3 = ta ++ [(c : Int)] ∧ c ≤ 2) → TDf s l s3 l3 → XTy tn3 ta3 s3 → MTy tn3 ta3 s3 l3 → NT 3 5 6 7 4 10240 3000 (nsT t n vs (tyN t n)) s3 → MV (nsT t n vs (tyN t n)) s3 l3 → Inv (i + 1) B3 s3 l3) : a_J d L i xs Inv 125 203 [.ref 0, iv (n : Int), .ref 105, .retAddr 0] [.ref 56, iv (n : Int), .retAddr 0] B s l := by
  have hnR : inR (n : Int) := ⟨by omega, by omega⟩
  refine w125_0 hB.1 (by omega) _ s l ?_
  refine w126_0 hB.1 (by omega) _ s l ⟨hnR, fun h => absurd h (by omega), fun _ => ⟨fun h => absurd h (by omega), fun _ => ?_⟩⟩
  refine a_W.imp (x_open hB.1 (by omega) hXc l hn (fun j hj => ⟨(hb j hj).1, (hb j hj).2.2⟩) hN) ?_
  rintro _ ⟨s1, rfl, g1, g2, g3, g4⟩
  refine ⟨s1, l, rfl, ?_⟩
  have k1 : ∀ k, 10 ≤ k → s1 k = s k := fun k hk => g4 k (by omega) (by omega) (by omega) (by omega) (by omega) (by omega)
  refine a_W.imp (x_declareType hB.1 (by omega) hXc l g1 g2 tn ta (hX.fr (fun k h _ => k1 k h))) ?_
  have mside : ∀ (v : Int) (s2 : aZ) (tn3 : List (List Int)) (ta3 : List Int), ((tn3 = tn ∧ ta3 = ta) ∨ ∃ (nm : List Int) (c : Nat), tn3 = tn ++ [nm] ∧ ta3 = ta ++ [(c : Int)] ∧ c ≤ 2) → inR v → (∀ k, 17 ≤ k → s2 k = s1 k) → s2 2 = s1 2 → zz s2 1 2 = zz s1 1 2 → NT 3 5 6 7 4 10240 3000 (nsT t n vs (tyN t n)) s2 → XTy tn3 ta3 s2 → (∀ (s3 : aZ) (l3 : aZL) (q : aR), MTR t n vs tn ta B s2 (a_up l 105 0 ((Int32.ofInt v).toInt64)) q → ∃ s3 l3, q = (.inl (some (iv v)), mkH B s3 l3) ∧ FrT s2 s3 (a_up l 105 0 ((Int32.ofInt v).toInt64)) l3 ∧ zz s3 56 0 = 0 ∧ zz s3 56 2 = 0 ∧ MV (nsT t n vs (tyN t n)) s3 l3 ∧ MTy tn3 ta3 s3 l3 ∧ zz s2 1 10 = zz s3 56 22 ∧ zz s2 1 11 = zz s3 56 23) → (fun r => ∃ (v : Int) (B2 : aH) (s2 : aZ) (l2 : aZL), r = (.inl (some (iv v)), mkH B2 s2 l2) ∧ a_BI L (i + 1) xs B2 s2 ∧ inR v ∧ a_W d 203 0 [.ref 56, iv (n : Int), .retAddr 0] [] (mkH B2 s2 l2) (fun r => ∃ (v2 : Int) (B3 : aH) (s3 : aZ) (l3 : aZL), r = (.inl (some (iv v2)), mkH B3 s3 l3) ∧ a_BI L (i + 1) xs B3 s3 ∧ zz s3 56 0 = v ∧ (v = 0 → l3 105 0 = (Int32.ofInt v2).toInt64) ∧ Inv (i + 1) B3 s3 l3)) ((.inl (some (iv 0)), mkH B s2 (a_up l 105 0 ((Int32.ofInt v).toInt64))) : aR) := by
    intro v s2 tn3 ta3 hx3 hv q1 q2 q3 q4 q5 q6
    have kk : ∀ k, 17 ≤ k → s2 k = s k := fun k hk => (q1 k hk).trans (k1 k (by omega))
    have z56 : ∀ j, zz s2 56 j = zz s 56 j := fun j => zz_of (kk 56 (by decide)) j
    have lk : ∀ k, k ≠ 105 → a_up l 105 0 ((Int32.ofInt v).toInt64) k = l k := fun k hk => by unfold a_up; rw [if_neg hk]
    refine ⟨0, B, s2, _, rfl, hB.up (kk aSc (by decide)), by decide, ?_⟩
    refine a_W.imp (m_type hB.1 (by omega) hMc fx ((z56 17).trans hfx) h6 hn (by rw [z56]; exact hf2) (fun j hj => ⟨(zz_of (kk 57 (by decide)) j).trans (hb j hj).2.1, (hb j hj).2.2⟩) (hV.fr (z56 5) (lk 63 (by decide))) (hM.fr (z56 4) (kk 62 (by decide)) (lk 61 (by decide)))) ?_
    intro q hq
    obtain ⟨s3, l3, rfl, r1, r2, r3, r4, r5, r6, r7⟩ := q6 s2 l q hq
    have k3 : ∀ k, k < 56 → s3 k = s2 k := fun k hk => r1.1 k (by omega) (by omega) (by omega) (by omega) (by omega) (by omega)
    refine ⟨v, B, s3, l3, rfl, hB.up ((r1.1 aSc (by decide) (by decide) (by decide) (by decide) (by decide) (by decide)).trans (kk aSc (by decide))), r2, fun _ => ?_, hI B s3 l3 tn3 ta3 hx3 ⟨fun k h1 h2 => (k3 k h2).trans (kk k h1), (k3 2 (by decide)).trans (q2.trans (g4 2 (by decide) (by decide) (by decide) (by decide) (by decide) (by decide))), (zz_of (k3 1 (by decide)) 2).trans (q3.trans g3), r3, fun k h1 h2 n1 n2 n3 n4 n5 => (r1.1 k (by omega) n1 n2 n3 n4 n5).trans (kk k (by omega)), fun j hj => (r1.2.1 j hj).trans (z56 j), fun k h1 n1 n2 n3 => (r1.2.2 k n1 n2 n3).trans (lk k (by omega)), (zz_of (k3 1 (by decide)) 10).trans r6, (zz_of (k3 1 (by decide)) 11).trans r7⟩ (q5.fr (fun k _ h2 => k3 k (by omega))) r5 (q4.fr (zz_of (k3 3 (by decide)) 4) (k3 5 (by decide)) (k3 6 (by decide)) (k3 7 (by decide)) (k3 4 (by decide))) r4⟩
    rw [r1.2.2 105 (by decide) (by decide) (by decide)]
    unfold a_up
    simp only [if_true]
  rintro _ ⟨s2, q1, q2, q3, q4, ⟨f, j, hR, rfl, e1, e2, q5⟩ | ⟨c, hR, rfl, e1, e2, q5⟩⟩
  · refine ⟨_, s2, l, rfl, Or.inl ⟨_, s2, l, rfl, mside (-1) s2 tn ta (Or.inl ⟨rfl, rfl⟩) (by decide) q1 q2 q3 q4 q5 ?_⟩⟩
    rintro - - q ⟨s3, l3, r1, r2, r3, r4, ⟨f2, j2, hR2, rfl, y1, y2, y3⟩ | ⟨c2, hR2, rfl, y1, y2, y3⟩⟩
    · rw [hR] at hR2
      cases hR2
      exact ⟨s3, l3, rfl, r1, r2, r3, r4, y3, e1.trans y1.symm, e2.trans y2.symm⟩
    · rw [hR] at hR2
      cases hR2
  · have hlen := hX.1.2.2.2.1
    refine ⟨_, s2, l, rfl, Or.inl ⟨_, s2, l, rfl, mside (tn.length : Int) s2 _ _ (Or.inr ⟨_, c, rfl, rfl, tyR_c hR⟩) ⟨by omega, by omega⟩ q1 q2 q3 q4 q5 ?_⟩⟩
    rintro - - q ⟨s3, l3, r1, r2, r3, r4, ⟨f2, j2, hR2, rfl, y1, y2, y3⟩ | ⟨c2, hR2, rfl, y1, y2, y3⟩⟩
    · rw [hR] at hR2
      cases hR2
    · rw [hR] at hR2
      cases hR2
      exact ⟨s3, l3, rfl, r1, r2, r3, r4, y3, e1.trans y1.symm, e2.trans y2.symm⟩
