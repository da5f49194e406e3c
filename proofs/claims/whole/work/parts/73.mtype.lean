/-! THE REFERENCE DECLARES A TYPE -/
/-- what a text call of the reference may touch here -/
def FrT (s s2 : aZ) (l l2 : aZL) : Prop := (∀ k, k ≠ 56 → k ≠ 62 → k ≠ 67 → k ≠ 71 → k ≠ 72 → k ≠ 73 → s2 k = s k) ∧ (∀ j, j ∉ [0, 2, 4, 5, 16, 22, 23, 24, 25, 26, 31, 32, 33, 41, 48, 51] → zz s2 56 j = zz s 56 j) ∧ ∀ k, k ≠ 61 → k ≠ 63 → k ≠ 74 → l2 k = l k
theorem FrT.m {s s1 s2 : aZ} {l l1 l2 : aZL} (a : FrT s s1 l l1) (b : FrM s1 s2 l1 l2) : FrT s s2 l l2 := ⟨fun k h1 h2 h3 h4 h5 h6 => (b.1 k h1 h4 h5 h6).trans (a.1 k h1 h2 h3 h4 h5 h6), fun j hj => (b.2.1 j (fun q => hj (by simp only [List.mem_cons, List.not_mem_nil, or_false] at q ⊢; omega))).trans (a.2.1 j hj), fun k h1 h2 h3 => (b.2.2 k h3 h2).trans (a.2.2 k h1 h2 h3)⟩
theorem FrT.zu {s s1 : aZ} {l l1 : aZL} (a : FrT s s1 l l1) (j : Nat) (v : Int) (hj : j ∈ [0, 2, 4, 5, 16, 22, 23, 24, 25, 26, 31, 32, 33, 41, 48, 51]) : FrT s (zu s1 56 j v) l l1 := ⟨fun k h1 h2 h3 h4 h5 h6 => (zu_ne _ _ _ _ _ h1).trans (a.1 k h1 h2 h3 h4 h5 h6), fun i hi => (zz_ne _ _ _ _ _ _ (fun q => hi (by rw [q.2]; exact hj))).trans (a.2.1 i hi), a.2.2⟩
/-- what stands of the type table while a text is read -/
def MTk2 (tn : List (List Int)) (ta : List Int) (s : aZ) (l : aZL) : Prop := MTy tn ta s l
theorem MTy.fr {tn : List (List Int)} {ta : List Int} {s s2 : aZ} {l l2 : aZL} (h : MTy tn ta s l) (h4 : zz s2 56 4 = zz s 56 4) (h62 : s2 62 = s 62) (hl : l2 61 = l 61) : MTy tn ta s2 l2 := by
  obtain ⟨a1, a2, a3, a4, a5, a6, a7, a8⟩ := h
  refine ⟨h4.trans a1, a2, a3, a4, a5, fun i hi h2 => ?_, fun q hq => by rw [hl]; exact a7 q hq, a8⟩
  obtain ⟨b1, b2, b3⟩ := a6 i hi h2
  exact ⟨b1, fun q hq => by rw [hl]; exact b2 q hq, (zz_of h62 i).trans b3⟩
theorem MTy.m {tn : List (List Int)} {ta : List Int} {s s2 : aZ} {l l2 : aZL} (h : MTy tn ta s l) (b : FrM s s2 l l2) : MTy tn ta s2 l2 := h.fr (b.2.1 4 (by decide)) (b.1 62 (by decide) (by decide) (by decide) (by decide)) (b.2.2 61 (by decide) (by decide))
section
variable {d : Nat} {B : aH} {t : Nat → Int} {n : Nat} {vs tn : List (List Int)} {ta : List Int} {s0 : aZ} {l0 : aZL}
/-- what the call comes to -/
def MTR (t : Nat → Int) (n : Nat) (vs tn : List (List Int)) (ta : List Int) (B : aH) (s0 : aZ) (l0 : aZL) (q : aR) : Prop := ∃ s2 l2, FrT s0 s2 l0 l2 ∧ zz s2 56 0 = 0 ∧ zz s2 56 2 = 0 ∧ MV (nsT t n vs (tyN t n)) s2 l2 ∧ ((∃ f j, tyR t n tn = .inl (f, j) ∧ q = (.inl (some (iv (-1))), mkH B s2 l2) ∧ zz s2 56 22 = f ∧ zz s2 56 23 = stT t n j ∧ MTy tn ta s2 l2) ∨ (∃ c, tyR t n tn = .inr c ∧ q = (.inl (some (iv (tn.length : Int))), mkH B s2 l2) ∧ zz s2 56 22 = 0 ∧ zz s2 56 23 = -1 ∧ MTy (tn ++ [nmW t n (stT t n 0)]) (ta ++ [(c : Int)]) s2 l2))
theorem m_ty97f (hB : a_Can B) (hd : 2 ≤ d) (x1 x2 : Int) (s : aZ) (l : aZL) (hf : FrT s0 s l0 l) (h0 : zz s 56 0 = 0) (h2 : zz s 56 2 = 0) (f : Int) (j : Nat) (hR : tyR t n tn = .inl (f, j)) (hF : MF t n f (stT t n j) (nsT t n vs (tyN t n)) s l) (hT : MTy tn ta s l) : a_W d 203 97 [.ref 56, iv x1, iv x2] [] (mkH B s l) (MTR t n vs tn ta B s0 l0) := by
  obtain ⟨f1, f2, f3, f4, f5, f6, f7⟩ := hF
  have fin : a_W d 203 118 [.ref 56, iv x1, iv x2] [] (mkH B s l) (MTR t n vs tn ta B s0 l0) := w203_118 hB (by omega) x1 x2 s l ⟨fun h => absurd h (by omega), fun _ => ⟨s, l, hf, h0, h2, f7, Or.inl ⟨f, j, hR, rfl, f3, f4, hT⟩⟩⟩
  refine w203_97 hB (by omega) x1 x2 s l ⟨fun _ => fin, fun _ => a_W.imp (m_die_f hB _ _ s l (by omega)) ?_⟩
  rintro _ rfl
  exact ⟨s, l, rfl, fin⟩
theorem m_ty54 (hB : a_Can B) (hd : 7 ≤ d) (hcap : MCap t n vs) (x1 : Int) (i : Nat) (hi : 1 ≤ i) (s : aZ) (l : aZL) (hf : FrT s0 s l0 l) (h0 : zz s 56 0 = 0) (h2 : zz s 56 2 = 0) (hT : MTy tn ta s l) (hA : MAt t n vs i s l) (hk1 : ftT t n 0 = 0 ∧ kdT t n 0 = 1) (hP : (ftT t n i ≠ 0 ∧ tyP t n = .inl (ftT t n i, i)) ∨ (ftT t n i = 0 ∧ kdT t n i ≠ 0 ∧ tyP t n = .inl (2, i)) ∨ (ftT t n i = 0 ∧ kdT t n i = 0 ∧ tyP t n = .inr i)) : a_W d 203 54 [.ref 56, iv x1, iv ((i : Int) - 1)] [] (mkH B s l) (MTR t n vs tn ta B s0 l0) := by
  have i6 := hA.le
  refine w203_54 hB (by omega) x1 _ s l (a_W.imp (m_need hB (by omega) hcap i 0 (by decide) hA) ?_)
  rintro _ ⟨s2, l2, rfl, ⟨c1, c2, hC, s1, hf1, rfl⟩ | ⟨c1, c2, hF, hf1⟩ | ⟨c1, hF, hf1⟩⟩
  · refine ⟨_, l2, rfl, fun g => absurd hC.2.1 g, fun _ => ?_⟩
    have hPi : tyP t n = .inr i := by
      rcases hP with h | h | h
      · exact absurd c1 h.1
      · exact absurd c2 h.2.1
      · exact h.2.2
    have hN : tyN t n = i + 1 := by unfold tyN; rw [hPi]
    have hff : FrT s0 (zu s1 56 31 ((i : Int) + 1)) l0 l2 := (hf.m hf1).zu 31 _ (by decide)
    have g0 : zz (zu s1 56 31 ((i : Int) + 1)) 56 0 = 0 := by rw [zz_ne _ _ _ _ _ _ (by decide), hf1.2.1 0 (by decide)]; exact h0
    have g2 : zz (zu s1 56 31 ((i : Int) + 1)) 56 2 = 0 := by rw [zz_ne _ _ _ _ _ _ (by decide), hf1.2.1 2 (by decide)]; exact h2
    have hTy : MTy tn ta (zu s1 56 31 ((i : Int) + 1)) l2 := (hT.m hf1).fr (zz_ne _ _ _ _ _ _ (by decide)) (zu_ne _ _ _ _ _ (by decide)) rfl
    generalize (zu s1 56 31 ((i : Int) + 1)) = s3 at hC hff g0 g2 hTy
    have hTy' := hTy
    obtain ⟨a1, a2, a3, a4, a5, a6, a7, a8⟩ := hTy
    have hk0 := hC.2.2.2.2.2.2.2.1 0 (by omega)
    have hs0 : stT t n 0 < n := by
      have := kd_rng hk1.1
      have := hk1.2
      omega
    have hF0 := (ft0 hk1.1 hs0).2
    have hkk : tkK t n (stT t n 0) = 1 := by have := hk1.2; unfold kdT at this; rw [if_pos hs0] at this; exact this
    have hz := tkK1 hkk
    obtain ⟨v1, v2, v3, v4⟩ := nmW_ok hs0 hF0 hz
    have hln : LN l2 74 0 (nmW t n (stT t n 0)) := hk0.2.2.2.2.2 hs0 hz
    have hne : nmW t n (stT t n 0) ≠ [] := fun e => by rw [e] at v4; exact absurd v4 (by decide)
    have hna : nmW t n (stT t n 0) ≠ [45, 62] := by
      intro e
      have h1 : (nmW t n (stT t n 0)).getD 0 0 = t (stT t n 0 + 0) := by unfold nmW; exact seg_get _ _ _ _ (by rw [nmW, seg_len] at v4; exact v4)
      rw [e] at h1
      have h2 : (45 : Int) = t (stT t n 0) := h1
      rw [z31_iff] at hz
      omega
    have hset : (tn.set 2 []).length = tn.length := List.length_set
    have hv : ∀ i, i < (tn.set 2 []).length → VN ((tn.set 2 []).getD i []) ∧ LN l2 61 i ((tn.set 2 []).getD i []) := by
      intro i hi
      rw [hset] at hi
      rw [getD_set _ _ (by omega)]
      by_cases e : i = 2
      · rw [if_pos e, e]
        exact ⟨⟨by decide, fun c hc => absurd hc List.not_mem_nil⟩, a7⟩
      · rw [if_neg e]
        exact ⟨(a6 i hi e).1, (a6 i hi e).2.1⟩
    have hfd := ffd_ty (by omega) a4 a5 (nmW t n (stT t n 0)) hne hna
    rw [a1, ← hset]
    refine a_W.imp (m_find61 hB (by omega) s3 l2 (tn.set 2 []) (by omega) hv 0 (by decide) _ v1 hln) ?_
    rintro _ rfl
    rw [hfd]
    have hfr : inR (fd tn (nmW t n (stT t n 0)) tn.length) := by
      rcases fd_cases tn (nmW t n (stT t n 0)) tn.length with ⟨h, -⟩ | ⟨i, hi, h, -⟩
      · rw [h]; decide
      · rw [h]; exact ⟨by omega, by omega⟩
    have r72 := inR_zz s3 72 0
    have e72 := hk0.2.2.1
    refine ⟨_, s3, l2, rfl, hfr, fun hneg => ?_, fun hpos => a_W.imp (m_die hB 4 _ s3 l2 hC.2.1) ?_⟩
    · by_cases h34 : tn.length = 34
      · have hR : tyR t n tn = .inl (8, 0) := by
          unfold tyR
          rw [hPi]
          show (if _ then _ else _) = _
          rw [if_neg (by omega), if_pos (by omega)]
        refine w203_97 hB (by omega) x1 _ s3 l2 ⟨fun g => absurd a1 (by omega), fun _ => a_W.imp (m_die hB 8 _ s3 l2 hC.2.1) ?_⟩
        rintro _ rfl
        rw [e72]
        rw [e72] at r72
        refine ⟨_, l2, rfl, ?_⟩
        have hF := hC.die (by omega) 8 _ (by decide) r72
        obtain ⟨f1, f2, f3, f4, f5, f6, f7⟩ := hF
        rw [← hN] at f7
        exact w203_118 hB (by omega) x1 _ _ l2 ⟨fun h => absurd h (by omega), fun _ => ⟨_, l2, (hff.zu 22 _ (by decide)).zu 23 _ (by decide), by rw [zz_ne _ _ _ _ _ _ (by decide), zz_ne _ _ _ _ _ _ (by decide)]; exact g0, by rw [zz_ne _ _ _ _ _ _ (by decide), zz_ne _ _ _ _ _ _ (by decide)]; exact g2, f7, Or.inl ⟨8, 0, hR, rfl, f3, f4, hTy'.fr (by rw [zz_ne _ _ _ _ _ _ (by decide), zz_ne _ _ _ _ _ _ (by decide)]) (by rw [zu_ne _ _ _ _ _ (by decide), zu_ne _ _ _ _ _ (by decide)]) rfl⟩⟩⟩
      · have hR : tyR t n tn = .inr (i - 1) := by
          unfold tyR
          rw [hPi]
          show (if _ then _ else _) = _
          rw [if_neg (by omega), if_neg (by omega)]
        refine w203_97 hB (by omega) x1 _ s3 l2 ⟨fun _ => ?_, fun g => absurd a1 (by omega)⟩
        refine w203_118 hB (by omega) x1 _ s3 l2 ⟨fun _ => ?_, fun h => absurd h (by have := hC.2.1; omega)⟩
        rw [a1]
        refine a_W.imp (m_write61 hB s3 l2 tn.length 0 (by omega) (by decide)) ?_
        rintro _ ⟨l3, rfl, w1, w2, w3⟩
        refine ⟨s3, l3, rfl, ?_⟩
        rw [a1, natc]
        have c22 := hC.2.1
        have c23 := hC.2.2.1
        have c7 := hC.2.2.2.2.2.2.1
        rw [← hN] at c7
        refine ⟨⟨by omega, by omega⟩, zu (zu s3 62 tn.length ((i : Int) - 1)) 56 4 ((tn.length : Int) + 1), l3, ⟨fun k h1 h2 h3 h4 h5 h6 => ?_, fun j hj => ?_, fun k h1 h2 h3 => ?_⟩, ?_, ?_, ?_, Or.inr ⟨i - 1, hR, ?_, ?_, ?_, ?_⟩⟩
        · rw [zu_ne _ _ _ _ _ h1, zu_ne _ _ _ _ _ h2]; exact hff.1 k h1 h2 h3 h4 h5 h6
        · rw [zz_ne _ _ _ _ _ _ (fun q => hj (by rw [q.2]; decide)), zz_ne _ _ _ _ _ _ (by omega)]; exact hff.2.1 j hj
        · rw [w3 k h1]; exact hff.2.2 k h1 h2 h3
        · rw [zz_ne _ _ _ _ _ _ (by decide), zz_ne _ _ _ _ _ _ (by omega)]; exact g0
        · rw [zz_ne _ _ _ _ _ _ (by decide), zz_ne _ _ _ _ _ _ (by omega)]; exact g2
        · exact c7.fr (by rw [zz_ne _ _ _ _ _ _ (by decide), zz_ne _ _ _ _ _ _ (by omega)]) (w3 63 (by decide))
        · rw [show (tn.length : Int) + 1 - 1 = tn.length by omega]
        · rw [zz_ne _ _ _ _ _ _ (by decide), zz_ne _ _ _ _ _ _ (by omega)]; exact c22
        · rw [zz_ne _ _ _ _ _ _ (by decide), zz_ne _ _ _ _ _ _ (by omega)]; exact c23
        · refine ⟨?_, ?_, ?_, ?_, fun p q hpq hq => ?_, fun p hp hp2 => ?_, fun q hq => ?_, ?_⟩
          · rw [zz_same _ _ _ ⟨by omega, by omega⟩, List.length_append]; simp
          · rw [List.length_append]; simp; omega
          · rw [List.length_append]; simp; omega
          · rw [getD_app _ _ _ _ (by omega)]; exact a4
          · rw [List.length_append] at hq
            simp at hq
            by_cases e : q = tn.length
            · rw [e, getD_last, getD_app _ _ _ _ (by omega)]
              rcases fd_cases tn (nmW t n (stT t n 0)) tn.length with ⟨h, hno⟩ | ⟨i, hi, h, -⟩
              · exact hno p (by omega)
              · omega
            · rw [getD_app _ _ _ _ (by omega), getD_app _ _ _ _ (by omega)]
              exact a5 p q hpq (by omega)
          · rw [List.length_append] at hp
            simp at hp
            by_cases e : p = tn.length
            · subst e
              rw [getD_last]
              refine ⟨v1, fun q hq => ?_, ?_⟩
              · rw [w1 q hq]; exact hln q hq
              · rw [zz_ne _ _ _ _ _ _ (by omega), zz_same _ _ _ ⟨by omega, by omega⟩, ← a8, getD_last]
                omega
            · obtain ⟨b1, b2, b3⟩ := a6 p (by omega) hp2
              rw [getD_app _ _ _ _ (by omega), getD_app _ _ _ _ (by omega)]
              refine ⟨b1, fun q hq => ?_, ?_⟩
              · rw [w2 _ (by omega)]; exact b2 q hq
              · rw [zz_ne _ _ _ _ _ _ (by omega), zz_ne _ _ _ _ _ _ (by omega)]; exact b3
          · rw [w2 _ (by omega)]; exact a7 q hq
          · rw [List.length_append, List.length_append, a8]; rfl
    · rintro _ rfl
      have hR : tyR t n tn = .inl (4, 0) := by
        unfold tyR
        rw [hPi]
        show (if _ then _ else _) = _
        rw [if_pos]
        rcases fd_cases tn (nmW t n (stT t n 0)) tn.length with ⟨h, -⟩ | ⟨i, hi, h, -⟩
        · exact absurd h hpos
        · omega
      rw [e72]
      rw [e72] at r72
      refine ⟨_, l2, rfl, ?_⟩
      have hF := hC.die (by omega) 4 _ (by decide) r72
      rw [← hN] at hF
      exact m_ty97f hB (by omega) x1 _ _ l2 ((hff.zu 22 _ (by decide)).zu 23 _ (by decide)) (by rw [zz_ne _ _ _ _ _ _ (by decide), zz_ne _ _ _ _ _ _ (by decide)]; exact g0) (by rw [zz_ne _ _ _ _ _ _ (by decide), zz_ne _ _ _ _ _ _ (by decide)]; exact g2) 4 0 hR hF (hTy'.fr (by rw [zz_ne _ _ _ _ _ _ (by decide), zz_ne _ _ _ _ _ _ (by decide)]) (by rw [zu_ne _ _ _ _ _ (by decide), zu_ne _ _ _ _ _ (by decide)]) rfl)
  · refine ⟨s2, l2, rfl, fun _ => ?_, fun g => absurd g (by have := hF.2.1; have := hF.2.2.1; omega)⟩
    have hPi : tyP t n = .inl (2, i) := by
      rcases hP with h | h | h
      · exact absurd c1 h.1
      · exact h.2.2
      · exact absurd h.2.1 c2
    have hN : tyN t n = i + 1 := by unfold tyN; rw [hPi]
    rw [← hN] at hF
    exact m_ty97f hB (by omega) x1 _ s2 l2 (hf.m hf1) ((hf1.2.1 0 (by decide)).trans h0) ((hf1.2.1 2 (by decide)).trans h2) 2 i (by unfold tyR; rw [hPi]) hF (hT.m hf1)
  · refine ⟨s2, l2, rfl, fun _ => ?_, fun g => absurd g (by have := hF.2.1; have := hF.2.2.1; omega)⟩
    have hPi : tyP t n = .inl (ftT t n i, i) := by
      rcases hP with h | h | h
      · exact h.2
      · exact absurd h.1 c1
      · exact absurd h.1 c1
    have hN : tyN t n = i + 1 := by unfold tyN; rw [hPi]
    rw [← hN] at hF
    exact m_ty97f hB (by omega) x1 _ s2 l2 (hf.m hf1) ((hf1.2.1 0 (by decide)).trans h0) ((hf1.2.1 2 (by decide)).trans h2) _ i (by unfold tyR; rw [hPi]) hF (hT.m hf1)
end
