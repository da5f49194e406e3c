/-! THE REFERENCE DECLARES A TYPE: the whole call -/
section
variable {d : Nat} {B : aH} {t : Nat → Int} {n : Nat} {vs tn : List (List Int)} {ta : List Int} {s0 : aZ} {l0 : aZL}
theorem m_ty54f (hB : a_Can B) (hd : 7 ≤ d) (x1 x2 : Int) (s : aZ) (l : aZL) (hf : FrT s0 s l0 l) (h0 : zz s 56 0 = 0) (h2 : zz s 56 2 = 0) (f : Int) (j : Nat) (hR : tyR t n tn = .inl (f, j)) (hF : MF t n f (stT t n j) (nsT t n vs (tyN t n)) s l) (hT : MTy tn ta s l) : a_W d 203 54 [.ref 56, iv x1, iv x2] [] (mkH B s l) (MTR t n vs tn ta B s0 l0) := by
  refine w203_54 hB (by omega) x1 x2 s l (a_W.imp (m_need_f hB (by omega) hF 0 (by decide)) ?_)
  rintro _ rfl
  have f2 := hF.2.1
  have f3 := hF.2.2.1
  exact ⟨s, l, rfl, fun _ => m_ty97f hB (by omega) x1 x2 s l hf h0 h2 f j hR hF hT, fun g => absurd g (by omega)⟩
theorem m_ty17f (hB : a_Can B) (hd : 7 ≤ d) (x1 x2 : Int) (hx : inR x2) (s : aZ) (l : aZL) (hf : FrT s0 s l0 l) (h0 : zz s 56 0 = 0) (h2 : zz s 56 2 = 0) (f : Int) (j : Nat) (hR : tyR t n tn = .inl (f, j)) (hF : MF t n f (stT t n j) (nsT t n vs (tyN t n)) s l) (hT : MTy tn ta s l) : a_W d 203 17 [.ref 56, iv x1, iv x2] [] (mkH B s l) (MTR t n vs tn ta B s0 l0) := by
  have e54 := m_ty54f (tn := tn) (ta := ta) hB hd x1 x2 s l hf h0 h2 f j hR hF hT
  refine w203_17 hB (by omega) x1 x2 s l ⟨hx, fun _ => e54, fun _ => a_W.imp (m_look_f hB (by omega) hF 0 (by decide)) ?_⟩
  rintro _ rfl
  exact ⟨_, s, l, rfl, by decide, fun _ => e54, fun g => absurd g (by decide)⟩
theorem m_tyloop (hB : a_Can B) (hd : 8 ≤ d) (hcap : MCap t n vs) (x1 : Int) (hk1 : ftT t n 0 = 0 ∧ kdT t n 0 = 1) : ∀ (r i : Nat) (s : aZ) (l : aZL), r + i = 3 → 1 ≤ i → MAt t n vs i s l → FrT s0 s l0 l → zz s 56 0 = 0 → zz s 56 2 = 0 → MTy tn ta s l → tyL t n r i = tyP t n → a_W d 203 17 [.ref 56, iv x1, iv ((i : Int) - 1)] [] (mkH B s l) (MTR t n vs tn ta B s0 l0) := by
  intro r
  induction r with
  | zero =>
    intro i s l hi h1 hA hf h0 h2 hT he
    refine w203_17 hB (by omega) x1 _ s l ⟨⟨by omega, by omega⟩, fun _ => m_ty54 hB (by omega) hcap x1 i h1 s l hf h0 h2 hT hA hk1 ?_, fun h => absurd h (by omega)⟩
    unfold tyL at he
    by_cases c0 : ftT t n i = 0
    · rw [if_neg (fun q => q c0)] at he
      by_cases c1 : kdT t n i = 0
      · rw [if_neg (fun q => q c1)] at he
        exact Or.inr (Or.inr ⟨c0, c1, he.symm⟩)
      · rw [if_pos c1] at he
        exact Or.inr (Or.inl ⟨c0, c1, he.symm⟩)
    · rw [if_pos c0] at he
      exact Or.inl ⟨c0, he.symm⟩
  | succ r ih =>
    intro i s l hi h1 hA hf h0 h2 hT he
    have he2 : (if ftT t n i ≠ 0 then .inl (ftT t n i, i) else if kdT t n i = 2 then tyL t n r (i + 1) else if kdT t n i ≠ 0 then .inl (2, i) else .inr i) = tyP t n := he
    have i6 := hA.le
    refine w203_17 hB (by omega) x1 _ s l ⟨⟨by omega, by omega⟩, fun h => absurd h (by omega), fun _ => a_W.imp (m_look0 hB (by omega) hcap i hA) ?_⟩
    rintro _ ⟨s2, l2, hf1, ⟨c0, rfl, hC⟩ | ⟨c0, rfl, hF⟩⟩
    · have hr := kd_rng c0
      rw [if_neg (fun q => q c0)] at he2
      have hff := hf.m hf1
      have g0 := (hf1.2.1 0 (by decide)).trans h0
      have g2 := (hf1.2.1 2 (by decide)).trans h2
      have hT2 := hT.m hf1
      refine ⟨_, s2, l2, rfl, inR_kM ⟨hr.1, hr.2.1⟩, fun hne => ?_, fun heq => ⟨fun g => absurd hC.2.1 g, fun _ => ?_⟩⟩
      · have hk2 : kdT t n i ≠ 2 := fun e => hne (by rw [e]; rfl)
        rw [if_neg hk2] at he2
        refine m_ty54 hB (by omega) hcap x1 i h1 s2 l2 hff g0 g2 hT2 ⟨Or.inr hC, hA.2⟩ hk1 ?_
        by_cases c1 : kdT t n i = 0
        · rw [if_neg (fun q => q c1)] at he2
          exact Or.inr (Or.inr ⟨c0, c1, he2.symm⟩)
        · rw [if_pos c1] at he2
          exact Or.inr (Or.inl ⟨c0, c1, he2.symm⟩)
      · have hk2 : kdT t n i = 2 := (kM_inj ⟨hr.1, hr.2.1⟩ (by decide)).mp (heq.trans rfl)
        rw [if_pos hk2] at he2
        rw [hC.2.2.2.1, show (i : Int) + 1 = ((i + 1 : Nat) : Int) by omega, show (i : Int) - 1 + 1 = ((i + 1 : Nat) : Int) - 1 by omega]
        refine ih (i + 1) _ l2 (by omega) (by omega) ⟨Or.inl (hC.now (by omega)), fun j hj => ?_⟩ (hff.zu 31 _ (by decide)) ?_ ?_ (hT2.fr (zz_ne _ _ _ _ _ _ (by decide)) (zu_ne _ _ _ _ _ (by decide)) rfl) he2
        · by_cases e : j = i
          · rw [e]
            omega
          · exact hA.2 j (by omega)
        · rw [zz_ne _ _ _ _ _ _ (by decide)]; exact g0
        · rw [zz_ne _ _ _ _ _ _ (by decide)]; exact g2
    · rw [if_pos c0] at he2
      have hN : tyN t n = i + 1 := by unfold tyN; rw [← he2]
      rw [← hN] at hF
      exact ⟨_, s2, l2, rfl, by decide, fun _ => m_ty54f hB (by omega) x1 _ s2 l2 (hf.m hf1) ((hf1.2.1 0 (by decide)).trans h0) ((hf1.2.1 2 (by decide)).trans h2) _ i (by unfold tyR; rw [← he2]) hF (hT.m hf1), fun g => absurd g (by decide)⟩
/-- begin, seen as the place at the first token -/
theorem MBg.mc {fx : Nat} {s s2 : aZ} {l : aZL} (h : MBg n fx s s2) (hn : n ≤ 8000) (hb : ∀ j, j < n → zz s 57 j = t j ∧ 0 ≤ t j ∧ t j < 256) (hV : MV vs s l) : MC t n vs 0 0 s2 l := by
  obtain ⟨b1, b2, b3, b4, b5, b6, b7, b8, b9, b10, b11, b12, b13, b14, b15⟩ := h
  exact ⟨⟨b4, hn, fun j hj => ⟨(zz_of (b1 57 (by decide) (by decide)) j).trans (hb j hj).1, (hb j hj).2⟩⟩, b8, b9, b7, b6, b5, hV.fr (b15 5 (by decide)) rfl, fun j hj => absurd hj (Nat.not_lt_zero _), fun j hj => absurd hj (Nat.not_lt_zero _)⟩
theorem m_type (hB : a_Can B) (hd : 9 ≤ d) (hcap : MCap t n vs) (fx : Nat) (hfx : zz s0 56 17 = fx) (h6 : fx ≤ 60000) (hn : n ≤ 8000) (hfed : (n : Int) ≤ zz s0 56 2) (hb : ∀ j, j < n → zz s0 57 j = t j ∧ 0 ≤ t j ∧ t j < 256) (hV : MV vs s0 l0) (hT : MTy tn ta s0 l0) : a_W d 203 0 [.ref 56, iv (n : Int), .retAddr 0] [] (mkH B s0 l0) (MTR t n vs tn ta B s0 l0) := by
  have z0 : ∀ j, j ≠ 0 → zz (zu s0 56 0 0) 56 j = zz s0 56 j := fun j hj => zz_ne _ _ _ _ _ _ (fun q => hj q.2)
  have zk : ∀ k, k ≠ 56 → zu s0 56 0 0 k = s0 k := fun k hk => zu_ne _ _ _ _ _ hk
  refine w203_0 hB (by omega) _ s0 l0 ⟨⟨by omega, by omega⟩, fun h => absurd h (by omega), fun _ => ⟨fun _ => ?_, fun h => absurd h (by omega)⟩⟩
  refine a_W.imp (m_begin hB n fx hn (zu s0 56 0 0) l0 ((z0 17 (by decide)).trans hfx) h6) ?_
  rintro _ ⟨s4, rfl, hbg⟩
  refine ⟨s4, l0, rfl, ?_⟩
  have hC : MC t n vs 0 0 s4 l0 := hbg.mc hn (fun j hj => ⟨(zz_of (zk 57 (by decide)) j).trans (hb j hj).1, (hb j hj).2⟩) (hV.fr (z0 5 (by decide)) rfl)
  have f5 : ∀ j, j ≠ 51 → j ≠ 2 → zz (zu (zu s4 56 51 0) 56 2 0) 56 j = zz s4 56 j := fun j h1 h2 => by rw [zz_ne _ _ _ _ _ _ (fun q => h2 q.2), zz_ne _ _ _ _ _ _ (fun q => h1 q.2)]
  have fk : ∀ k, k ≠ 56 → zu (zu s4 56 51 0) 56 2 0 k = s4 k := fun k hk => by rw [zu_ne _ _ _ _ _ hk, zu_ne _ _ _ _ _ hk]
  have hC5 : MC t n vs 0 0 (zu (zu s4 56 51 0) 56 2 0) l0 := by
    obtain ⟨c1, c2, c3, c4, c5, c6, c7, c8, c9⟩ := hC
    exact ⟨⟨(f5 24 (by decide) (by decide)).trans c1.1, c1.2.1, fun j hj => ⟨(zz_of (fk 57 (by decide)) j).trans (c1.2.2 j hj).1, (c1.2.2 j hj).2⟩⟩, (f5 22 (by decide) (by decide)).trans c2, (f5 23 (by decide) (by decide)).trans c3, (f5 31 (by decide) (by decide)).trans c4, (f5 26 (by decide) (by decide)).trans c5, (f5 25 (by decide) (by decide)).trans c6, c7.fr (f5 5 (by decide) (by decide)) rfl, fun j hj => absurd hj (Nat.not_lt_zero _), c9⟩
  obtain ⟨b1, b2, b3, b4, b5, b6, b7, b8, b9, b10, b11, b12, b13, b14, b15⟩ := hbg
  have hff : FrT s0 (zu (zu s4 56 51 0) 56 2 0) l0 l0 := by
    refine ⟨fun k h1 h2 h3 h4 h5 h6 => (fk k h1).trans ((b1 k h1 h3).trans (zk k h1)), fun j hj => ?_, fun _ _ _ _ => rfl⟩
    have hj2 : j ∉ [16, 22, 23, 24, 25, 26, 31, 32, 33, 41, 48] ∧ j ≠ 51 ∧ j ≠ 2 ∧ j ≠ 0 := by
      simp only [List.mem_cons, List.not_mem_nil, or_false] at hj ⊢
      omega
    rw [f5 j hj2.2.1 hj2.2.2.1, b15 j hj2.1, z0 j hj2.2.2.2]
  have g0 : zz (zu (zu s4 56 51 0) 56 2 0) 56 0 = 0 := by rw [f5 0 (by decide) (by decide), b15 0 (by decide)]; exact zz_same _ _ _ (by decide)
  have g2 : zz (zu (zu s4 56 51 0) 56 2 0) 56 2 = 0 := zz_same _ _ _ (by decide)
  have hT5 : MTy tn ta (zu (zu s4 56 51 0) 56 2 0) l0 := hT.fr (by rw [f5 4 (by decide) (by decide), b15 4 (by decide), z0 4 (by decide)]) (by rw [fk 62 (by decide), b1 62 (by decide) (by decide), zk 62 (by decide)]) rfl
  generalize (zu (zu s4 56 51 0) 56 2 0) = s5 at hC5 hff g0 g2 hT5
  refine a_W.imp (m_need hB (by omega) hcap 0 1 (by decide) ⟨Or.inl hC5, fun j hj => absurd hj (Nat.not_lt_zero _)⟩) ?_
  rintro _ ⟨s2, l2, rfl, ⟨c1, c2, hC1, s1, hf1, rfl⟩ | ⟨c1, c2, hF, hf1⟩ | ⟨c1, hF, hf1⟩⟩
  · refine ⟨_, l2, rfl, ?_⟩
    have hP : tyL t n 2 1 = tyP t n := by unfold tyP; rw [if_neg (fun q => q c1), if_neg (fun q => q c2)]
    have hr := kd_rng c1
    refine m_tyloop hB (by omega) hcap _ ⟨c1, c2⟩ 2 1 _ l2 rfl (Nat.le_refl _) ⟨Or.inl hC1, fun j hj => ?_⟩ ((hff.m hf1).zu 31 _ (by decide)) ?_ ?_ ((hT5.m hf1).fr (zz_ne _ _ _ _ _ _ (by decide)) (zu_ne _ _ _ _ _ (by decide)) rfl) hP
    · have hj0 : j = 0 := by omega
      rw [hj0]
      omega
    · rw [zz_ne _ _ _ _ _ _ (by decide), hf1.2.1 0 (by decide)]; exact g0
    · rw [zz_ne _ _ _ _ _ _ (by decide), hf1.2.1 2 (by decide)]; exact g2
  · refine ⟨s2, l2, rfl, ?_⟩
    have hP : tyP t n = .inl (2, 0) := by unfold tyP; rw [if_neg (fun q => q c1), if_pos c2]
    have hN : tyN t n = 0 + 1 := by unfold tyN; rw [hP]
    rw [← hN] at hF
    exact m_ty17f hB (by omega) _ 0 (by decide) s2 l2 (hff.m hf1) ((hf1.2.1 0 (by decide)).trans g0) ((hf1.2.1 2 (by decide)).trans g2) 2 0 (by unfold tyR; rw [hP]) hF (hT5.m hf1)
  · refine ⟨s2, l2, rfl, ?_⟩
    have hP : tyP t n = .inl (ftT t n 0, 0) := by unfold tyP; rw [if_pos c1]
    have hN : tyN t n = 0 + 1 := by unfold tyN; rw [hP]
    rw [← hN] at hF
    exact m_ty17f hB (by omega) _ 0 (by decide) s2 l2 (hff.m hf1) ((hf1.2.1 0 (by decide)).trans g0) ((hf1.2.1 2 (by decide)).trans g2) _ 0 (by unfold tyR; rw [hP]) hF (hT5.m hf1)
end
