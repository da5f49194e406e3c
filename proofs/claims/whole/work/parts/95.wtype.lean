/-! THE REFERENCE READS A TYPE -/
theorem FrR.dep (s : aZ) (x : Int) : FrR s (zu s 56 32 x) := ⟨fun k h1 _ => zu_ne _ _ _ _ _ h1, fun j _ h2 => zz_ne _ _ _ _ _ _ (fun q => h2 q.2)⟩
theorem FrW.die (s : aZ) (l : aZL) (f p : Int) : FrW s (zu (zu s 56 22 f) 56 23 p) l l := ⟨fun k q1 _ _ _ _ => by rw [zu_ne _ _ _ _ _ q1, zu_ne _ _ _ _ _ q1], fun j hj => by rw [zz_ne _ _ _ _ _ _ (fun q => hj (by rw [q.2]; decide)), zz_ne _ _ _ _ _ _ (fun q => hj (by rw [q.2]; decide))], fun _ _ _ => rfl⟩
theorem WFr.k56 (W : Nat) (s : aZ) (j : Nat) (x : Int) : WFr W s (zu s 56 j x) := fun k h1 h2 q _ => zz_ne _ _ _ _ _ _ (by omega)
theorem FrM.rd {s s2 : aZ} {l l2 : aZL} (b : FrM s s2 l l2) {v : Nat → Int} {ts : List aT} {lo hi : Nat} {w : Int} (h : RD s v ts lo hi w) : RD s2 v ts lo hi w := RD.keep ts lo hi w h (fun k j h1 h2 _ _ => zz_of (b.1 k (by omega) (by omega) (by omega) (by omega)) j)
theorem wr7_new0 (s : aZ) (W : Nat) (hW : W < 12100) (k o : Int) (hk : inR k) (ho : inR o) : ∀ s1, s1 = zu (wr7 s W k o) 56 33 ((W : Int) + 1) → (zz s1 75 W = k ∧ zz s1 76 W = o ∧ zz s1 77 W = -1 ∧ zz s1 79 W = 0 ∧ zz s1 80 W = 1 ∧ zz s1 81 W = 1) ∧ WFr W s s1 ∧ zz s1 56 33 = ((W + 1 : Nat) : Int) ∧ zz s1 56 32 = zz s 56 32 := by
  rintro s1 rfl
  obtain ⟨a1, a2, a3, a4, a5, a6, a7⟩ := wr7_at s W k o hk ho
  have z : ∀ c j, c ≠ 56 → zz (zu (wr7 s W k o) 56 33 ((W : Int) + 1)) c j = zz (wr7 s W k o) c j := fun c j h => by rw [zz_ne _ _ _ _ _ _ (by omega)]
  refine ⟨⟨(z 75 W (by decide)).trans a1, (z 76 W (by decide)).trans a2, (z 77 W (by decide)).trans a3, (z 79 W (by decide)).trans a5, (z 80 W (by decide)).trans a6, (z 81 W (by decide)).trans a7⟩, fun c h1 h2 j hj => (z c j (by omega)).trans (wr7_ne s W k o c j (by omega)), ?_, ?_⟩
  · rw [zz_same _ _ _ ⟨by omega, by omega⟩]; rfl
  · rw [zz_ne _ _ _ _ _ _ (by omega), wr7_ne _ _ _ _ _ _ (by omega)]
section
variable {B : aH} {t : Nat → Int} {n : Nat} {vs : List (List Int)}
def MA1 (B : aH) (t : Nat → Int) (n : Nat) (vs : List (List Int)) (N : Nat) : Prop := ∀ (d dep K i W : Nat) (s : aZ) (l : aZL) (res : (Int × Nat) ⊕ (aT × Nat)), 19 + 3 * (40 - dep) ≤ d → dep ≤ 40 → pty t n N 1 dep i = some res → MAt t n vs i s l → zz s 56 32 = dep → zz s 56 33 = W → W + K ≤ i → a_W d 168 0 [.ref 56, .retAddr 0, .retAddr 0, .retAddr 0, .retAddr 0, .retAddr 0, .retAddr 0] [] (mkH B s l) (MPo t n vs W dep K res B s l)
def MA0 (B : aH) (t : Nat → Int) (n : Nat) (vs : List (List Int)) (N : Nat) : Prop := ∀ (d dep K i W : Nat) (s : aZ) (l : aZL) (res : (Int × Nat) ⊕ (aT × Nat)), 20 + 3 * (40 - dep) ≤ d → dep ≤ 40 → pty t n N 0 dep i = some res → MAt t n vs i s l → zz s 56 32 = dep → zz s 56 33 = W → W + K ≤ i → a_W d 167 0 [.ref 56, .retAddr 0, .retAddr 0, .retAddr 0, .retAddr 0, .retAddr 0, .retAddr 0, .retAddr 0, .retAddr 0] [] (mkH B s l) (MPo t n vs W dep K res B s l)
theorem MAt.z22 {i : Nat} {s : aZ} {l : aZL} (h : MAt t n vs i s l) : zz s 56 22 = 0 := by rcases h.1 with c | c <;> exact c.2.1
theorem m_a2 (hB : a_Can B) (hcap : MCap t n vs) (N : Nat) (hM : MA0 B t n vs N) : MA2 B t n vs (N + 1) := by
  intro d dep K i W s l res hd hdep h hi0 hk hC hl h32 h33 hW
  rw [pty_2] at h
  rcases pLk_some h with ⟨c, -⟩ | ⟨-, h⟩
  · exact absurd hi0 c
  have c4 := hC.2.2.2.1
  have hk' := kd_rng hi0
  have hl1 : ∀ j, j < i + 1 → stT t n j < n := fun q hq => by
    by_cases e : q = i
    · subst e; omega
    · exact hl q (by omega)
  have i6 : i ≤ 6000 := MAt.le (⟨Or.inr hC, hl⟩ : MAt t n vs i s l)
  have hC1 : MC t n vs (i + 1) (i + 1) (zu s 56 31 ((i + 1 : Nat) : Int)) l := hC.now (i2 := i + 1) (by omega)
  refine w169_0 hB (by omega) s l ?_
  rw [c4, show (i : Int) + 1 = ((i + 1 : Nat) : Int) by omega]
  have f0 : FrW s (zu s 56 31 ((i + 1 : Nat) : Int)) l l := FrW.now s l _
  have g0 : WFr W s (zu s 56 31 ((i + 1 : Nat) : Int)) := WFr.k56 W s _ _
  have e32 : zz (zu s 56 31 ((i + 1 : Nat) : Int)) 56 32 = (dep : Int) := (zz_ne _ _ _ _ _ _ (by omega)).trans h32
  have e33 : zz (zu s 56 31 ((i + 1 : Nat) : Int)) 56 33 = (W : Int) := (zz_ne _ _ _ _ _ _ (by omega)).trans h33
  generalize (zu s 56 31 ((i + 1 : Nat) : Int)) = s1 at *
  refine a_W.imp (m_enter hB (by omega) hcap (i + 1) dep hdep e32 ⟨Or.inl hC1, hl1⟩) ?_
  rintro _ ⟨s2, s3, l2, rfl, f2, hh⟩
  have f2' : FrW s s2 l l2 := f0.tr (((FrR.dep s1 ((dep : Int) + 1)).w l).tr f2.w)
  have g2' : WFr W s s2 := g0.tr ((WFr.k56 W s1 32 ((dep : Int) + 1)).tr (f2.wf W) (Nat.le_refl _)) (Nat.le_refl _)
  have fin : ∀ (f : Int) (j w : Nat) (s3 : aZ) (l3 : aZL), FrW s s3 l l3 → WFr W s s3 → w < 12100 → MF t n f (stT t n j) (nsT t n vs (j + 1)) s3 l3 → MPo t n vs W dep K (.inl (f, j)) B s l (.inl (some (iv (w : Int))), mkH B (zu s3 56 32 (zz s3 56 32 - 1)) l3) := fun f j w s3 l3 a b c hF => ⟨_, l3, w, rfl, a.tr ((FrR.dep _ _).w _), b.tr (WFr.k56 W _ _ _) (Nat.le_refl _), c, Or.inr ⟨f, j, rfl, hF.rw (FrR.dep _ _)⟩⟩
  rcases hh with ⟨h1, hd1, e, hC2⟩ | ⟨h1, hd1, e, hF⟩ | ⟨h1, e, hF⟩
  · rw [e]
    have c22 := hC2.2.1
    refine ⟨s2, l2, rfl, fun _ => ?_, fun c => absurd c (by omega)⟩
    rcases pLk_some h with ⟨c, -⟩ | ⟨-, h⟩
    · exact absurd h1 c
    rw [if_neg (by omega)] at h
    have k32 : zz s2 56 32 = ((dep + 1 : Nat) : Int) := (f2.2.1 32 (by decide)).trans ((zz_same _ _ _ ⟨by omega, by omega⟩).trans (by omega))
    have k33 : zz s2 56 33 = (W : Int) := (f2.2.1 33 (by decide)).trans ((zz_ne _ _ _ _ _ _ (by omega)).trans e33)
    rcases pBd_some h with ⟨e, q1, rfl⟩ | ⟨a, j, q1, q2⟩
    · refine a_W.imp (hM (d - 1) (dep + 1) K (i + 1) W s2 l2 _ (by omega) (by omega) q1 ⟨Or.inr hC2, hl1⟩ k32 k33 (by omega)) ?_
      rintro _ ⟨s4, l4, w, rfl, f4, g4, w4, ⟨T, j3, W3, hh, -⟩ | ⟨f, j3, hh, hF⟩⟩
      · cases hh
      · cases hh
        refine ⟨_, s4, l4, rfl, a_W.imp (m_need_f hB (by omega) hF 5 (by decide)) ?_⟩
        rintro _ rfl
        exact ⟨s4, l4, rfl, fin f j3 w s4 l4 (f2'.tr f4) (g2'.tr g4 (Nat.le_refl _)) w4 hF⟩
    · refine a_W.imp (hM (d - 1) (dep + 1) K (i + 1) W s2 l2 _ (by omega) (by omega) q1 ⟨Or.inr hC2, hl1⟩ k32 k33 (by omega)) ?_
      rintro _ ⟨s4, l4, w, rfl, f4, g4, w4, ⟨T, j3, W3, hh, hA4, q32, q33, qW, hT⟩ | ⟨f, j3, hh, -⟩⟩
      rotate_left
      · cases hh
      cases hh
      have hn := m_need hB (d := d - 1) (by omega) hcap j 5 (by decide) hA4
      rw [show kM 5 = 5 by decide] at hn
      refine ⟨_, s4, l4, rfl, a_W.imp hn ?_⟩
      rintro _ ⟨s5, l5, rfl, ⟨m1, m2, m3, s6, m4, m5⟩ | ⟨m1, m2, m3, m4⟩ | ⟨m1, m3, m4⟩⟩
      · rcases pLk_some q2 with ⟨c, -⟩ | ⟨-, q2⟩
        · exact absurd m1 c
        rw [if_pos m2] at q2
        cases q2
        have hkj := kd_rng m1
        have f5 : FrW s4 s5 l4 l5 := by rw [m5]; exact m4.w.tr (FrW.now _ _ _)
        have g5 : ∀ k, 75 ≤ k → k ≤ 81 → ∀ q, zz s5 k q = zz s4 k q := fun k h1 h2 q => by
          rw [m5, zz_ne _ _ _ _ _ _ (by omega)]
          exact zz_of (m4.1 k (by omega) (by omega) (by omega) (by omega)) q
        have e32 : zz s5 56 32 = ((dep + 1 : Nat) : Int) := by
          rw [m5, zz_ne _ _ _ _ _ _ (by omega)]
          exact (m4.2.1 32 (by decide)).trans q32
        have e33 : zz s5 56 33 = (W3 : Int) := by
          rw [m5, zz_ne _ _ _ _ _ _ (by omega)]
          exact (m4.2.1 33 (by decide)).trans q33
        refine ⟨s5, l5, rfl, zu s5 56 32 (zz s5 56 32 - 1), l5, w, rfl, (f2'.tr (f4.tr f5)).tr ((FrR.dep _ _).w _), (g2'.tr (g4.tr (fun k h1 h2 q _ => g5 k h1 h2 q) (Nat.le_refl _)) (Nat.le_refl _)).tr (WFr.k56 W _ _ _) (Nat.le_refl _), w4, Or.inl ⟨a, j + 1, W3, rfl, ⟨Or.inl (m3.rw (FrR.dep _ _)), fun q hq => ?_⟩, ?_, (zz_ne _ _ _ _ _ _ (by omega)).trans e33, by omega, (WI.keep a).1 _ _ _ hT (fun k q h1 h2 _ _ _ => (zz_ne _ _ _ _ _ _ (by omega)).trans (g5 k h1 h2 q))⟩⟩
        · by_cases e : q = j
          · subst e; omega
          · exact hA4.2 q (by omega)
        · rw [zz_same _ _ _ ⟨by omega, by omega⟩]; omega
      · rcases pLk_some q2 with ⟨c, -⟩ | ⟨-, q2⟩
        · exact absurd m1 c
        rw [if_neg m2] at q2
        cases q2
        exact ⟨s5, l5, rfl, fin 2 j w s5 l5 (f2'.tr (f4.tr m4.w)) (g2'.tr (g4.tr (m4.wf W) (Nat.le_refl _)) (Nat.le_refl _)) w4 m3⟩
      · rcases pLk_some q2 with ⟨-, rfl⟩ | ⟨c, -⟩
        · exact ⟨s5, l5, rfl, fin _ j w s5 l5 (f2'.tr (f4.tr m4.w)) (g2'.tr (g4.tr (m4.wf W) (Nat.le_refl _)) (Nat.le_refl _)) w4 m3⟩
        · exact absurd c m1
  · rcases pLk_some h with ⟨c, -⟩ | ⟨-, h⟩
    · exact absurd h1 c
    rw [if_pos (by omega)] at h
    cases h
    have p := hF.2.2.1
    have ff : FrW s2 s3 l2 l2 := by rw [e]; exact FrW.die _ _ _ _
    have gg : WFr W s2 s3 := by rw [e]; exact (WFr.k56 W _ _ _).tr (WFr.k56 W _ _ _) (Nat.le_refl _)
    refine ⟨s3, l2, rfl, fun c => absurd c (by omega), fun _ => a_W.imp (m_need_f hB (by omega) hF 5 (by decide)) ?_⟩
    rintro _ rfl
    exact ⟨s3, l2, rfl, fin 8 (i + 1) 0 s3 l2 (f2'.tr ff) (g2'.tr gg (Nat.le_refl _)) (by decide) hF⟩
  · rcases pLk_some h with ⟨-, rfl⟩ | ⟨c, -⟩
    rotate_left
    · exact absurd c h1
    rw [e]
    have p := hF.2.2.1
    have p2 := hF.2.1
    refine ⟨s2, l2, rfl, fun c => absurd c (by omega), fun _ => a_W.imp (m_need_f hB (by omega) hF 5 (by decide)) ?_⟩
    rintro _ rfl
    exact ⟨s2, l2, rfl, fin _ (i + 1) 0 s2 l2 f2' g2' (by decide) hF⟩
theorem m_atomF (hB : a_Can B) (hcap : MCap t n vs) {d : Nat} (hd : 5 ≤ d) (W dep K i : Nat) {s : aZ} {l : aZL} (hf : ftT t n i ≠ 0) (hA : MAt t n vs i s l) : a_W d 168 0 [.ref 56, .retAddr 0, .retAddr 0, .retAddr 0, .retAddr 0, .retAddr 0, .retAddr 0] [] (mkH B s l) (MPo t n vs W dep K (.inl (ftT t n i, i)) B s l) := by
  refine w168_0 hB (by omega) s l (a_W.imp (m_look0 hB (by omega) hcap i hA) ?_)
  rintro _ ⟨s2, l2, f2, ⟨h0, -⟩ | ⟨h0, rfl, hF⟩⟩
  · exact absurd h0 hf
  · have p := hF.2.1
    have q := hF.2.2.1
    exact ⟨_, s2, l2, rfl, fun c => absurd c (by omega), fun _ => ⟨s2, l2, 0, rfl, f2.w, f2.wf W, by decide, Or.inr ⟨_, _, rfl, hF⟩⟩⟩
theorem m_a1 (hB : a_Can B) (hcap : MCap t n vs) (N : Nat) (hM : ∀ M, M ≤ N → MA2 B t n vs M) : MA1 B t n vs (N + 1) := by
  intro d dep K i W s l res hd hdep h hA h32 h33 hW
  have i6 := hA.le
  rw [pty_1] at h
  rcases pLk_some h with ⟨c, rfl⟩ | ⟨h0, h⟩
  · exact m_atomF hB hcap (by omega) W dep K i c hA
  refine w168_0 hB (by omega) s l (a_W.imp (m_look0 hB (by omega) hcap i hA) ?_)
  rintro _ ⟨s2, l2, f2, ⟨-, rfl, hC⟩ | ⟨c, -⟩⟩
  rotate_left
  · exact absurd h0 c
  have hk := kd_rng h0
  have k1 : kM (kdT t n i) = 1 ↔ kdT t n i = 1 := kM_inj (b := 1) ⟨hk.1, hk.2.1⟩ (by decide)
  have k2 : kM (kdT t n i) = 2 ↔ kdT t n i = 2 := kM_inj (b := 2) ⟨hk.1, hk.2.1⟩ (by decide)
  have k4 : kM (kdT t n i) = 4 ↔ kdT t n i = 4 := kM_inj (b := 4) ⟨hk.1, hk.2.1⟩ (by decide)
  have c2 := hC.2.1
  have c4 := hC.2.2.2.1
  have e33 : zz s2 56 33 = (W : Int) := (f2.2.1 33 (by decide)).trans h33
  have e32 : zz s2 56 32 = (dep : Int) := (f2.2.1 32 (by decide)).trans h32
  have eW : (zz s2 56 33).toNat = W := by omega
  have e31 : (zz s2 56 31).toNat = i := by omega
  have tk := hC.2.2.2.2.2.2.2.1 i (Nat.lt_succ_self _)
  have hlt : kdT t n i ≠ 0 → ∀ q, q < i + 1 → stT t n q < n := fun hk0 q hq => by
    by_cases e : q = i
    · subst e; omega
    · exact hA.2 q (by omega)
  refine ⟨_, s2, l2, rfl, fun _ => ⟨inR_kM ⟨hk.1, hk.2.1⟩, fun g4 => ⟨fun g2 => ⟨fun g1 => ?_, fun g1 => ?_⟩, fun g2 => ?_⟩, fun g4 => ?_⟩, fun c => absurd c (by omega)⟩
  · -- a name
    have hk1 := k1.mp g1
    rw [if_neg (by omega), if_neg (by omega), if_pos hk1] at h
    obtain ⟨q, hq, rfl⟩ := pBd_resM h
    refine ⟨⟨by omega, by omega⟩, ?_⟩
    rw [eW, e33, show (W : Int) + 1 - 1 = (W : Int) by omega, c4]
    obtain ⟨p1, p2, p3, p4⟩ := wr7_new s2 W (by omega) 1 (i : Int) ((i : Int) + 1) (by decide) ⟨by omega, by omega⟩ _ rfl
    have fw := wr7_fr s2 l2 W 1 (i : Int) ((i : Int) + 1)
    have hC2 : MC t n vs (i + 1) (i + 1) (zu (zu (wr7 s2 W 1 (i : Int)) 56 33 ((W : Int) + 1)) 56 31 ((i + 1 : Nat) : Int)) l2 := (hC.rw (wr7_r s2 W 1 (i : Int))).now (i2 := i + 1) (by omega)
    rw [show ((i + 1 : Nat) : Int) = (i : Int) + 1 by omega] at hC2
    exact m_row hB hcap W i dep K hdep N (fun M hM' => hM M (by omega)) d (i + 1) (W + 1) [] (-1) _ _ _ s _ l l2 q hd hq ⟨Or.inl hC2, hlt (by omega)⟩ ⟨⟨by omega, rfl⟩, rfl, p1.1, p1.2.1, p1.2.2.1, p1.2.2.2.1, p1.2.2.2.2.1, p1.2.2.2.2.2, p3, p4.trans e32⟩ (by omega) (f2.w.tr fw) ((f2.wf W).tr p2 (Nat.le_refl _))
  · -- none of these
    have n1 : ¬ kdT t n i = 1 := fun c => g1 (k1.mpr c)
    have n2 : ¬ kdT t n i = 2 := fun c => g2 (k2.mpr c)
    have n4 : ¬ kdT t n i = 4 := fun c => g4 (k4.mpr c)
    rw [if_neg n4, if_neg n2, if_neg n1] at h
    cases h
    have c72 := tk.2.2.1
    have r72 := inR_zz s2 72 i
    refine ⟨⟨by omega, by omega⟩, ?_⟩
    rw [e31, c72]
    rw [c72] at r72
    exact ⟨_, l2, 0, rfl, f2.w.tr (FrW.die _ _ _ _), (f2.wf W).tr ((WFr.k56 W _ _ _).tr (WFr.k56 W _ _ _) (Nat.le_refl _)) (Nat.le_refl _), by decide, Or.inr ⟨2, i, rfl, hC.die (by omega) 2 _ (by decide) r72⟩⟩
  · -- a variable
    have hk2 := k2.mp g2
    rw [if_neg (by omega), if_pos hk2] at h
    cases h
    have e31' : (zz s2 56 31 + 1 - 1).toNat = i := by omega
    refine ⟨⟨by omega, by omega⟩, ⟨by omega, by omega⟩, ?_⟩
    rw [e31', eW, e33, show (W : Int) + 1 - 1 = (W : Int) by omega, c4, show (i : Int) + 1 = ((i + 1 : Nat) : Int) by omega]
    have hC2 : MC t n vs (i + 1) (i + 1) (zu s2 56 31 ((i + 1 : Nat) : Int)) l2 := hC.now (i2 := i + 1) (by omega)
    have fn := FrW.now s2 l2 ((i + 1 : Nat) : Int)
    have gn : WFr W s2 (zu s2 56 31 ((i + 1 : Nat) : Int)) := WFr.k56 W _ _ _
    have v73 : zz s2 73 i = vT t n vs i := tk.2.2.2.2.1 hk2
    have d32 : zz (zu s2 56 31 ((i + 1 : Nat) : Int)) 56 32 = (dep : Int) := (zz_ne _ _ _ _ _ _ (by omega)).trans e32
    generalize (zu s2 56 31 ((i + 1 : Nat) : Int)) = s3 at *
    obtain ⟨p1, p2, p3, p4⟩ := wr7_new0 s3 W (by omega) 0 (zz s2 73 i) (by decide) (inR_zz _ _ _) _ rfl
    have fw := wr7_r s3 W 0 (zz s2 73 i)
    exact ⟨zu (wr7 s3 W 0 (zz s2 73 i)) 56 33 ((W : Int) + 1), l2, W, rfl, f2.w.tr (fn.tr (fw.w l2)), ((f2.wf W).tr gn (Nat.le_refl _)).tr p2 (Nat.le_refl _), by omega, Or.inl ⟨.leaf (0, i), i + 1, W + 1, rfl, ⟨Or.inl (hC2.rw fw), hlt (by omega)⟩, p4.trans d32, p3, ⟨by omega, rfl⟩, wi_var W i ⟨p1.1, p1.2.1.trans v73, p1.2.2⟩⟩⟩
  · -- parentheses
    have hk4 := k4.mp g4
    rw [if_pos hk4] at h
    refine a_W.imp (hM N (Nat.le_refl _) (d - 1) dep K i W s2 l2 res (by omega) hdep h h0 hk4 hC hA.2 e32 e33 hW) ?_
    rintro _ ⟨s3, l3, w, rfl, a2, a3, a4⟩
    exact ⟨_, s3, l3, rfl, s3, l3, w, rfl, f2.w.tr a2, (f2.wf W).tr a3 (Nat.le_refl _), a4⟩
/-- the loop over arrows -/
theorem m_arr (hB : a_Can B) (hcap : MCap t n vs) (W dep K : Nat) (hdep : dep ≤ 40) : ∀ (N : Nat), (∀ M, M < N → MA1 B t n vs M) → ∀ (d j Wc : Nat) (a : aT) (ts : List aT) (x1 x2 x3 : Int) (u4 : Value) (s0 s : aZ) (l0 l : aZL) (res : (Int × Nat) ⊕ (aT × Nat)), 20 + 3 * (40 - dep) ≤ d → pA t n N dep j a = some res → MAt t n vs j s l → RD s (vT t n vs) (a :: ts) W Wc x2 → x3 = (ts.length : Int) + 1 → zz s 56 33 = (Wc : Nat) → zz s 56 32 = dep → Wc + (K + ts.length) ≤ j → (W ≤ Wc ∧ Wc = W + lsW (a :: ts)) → FrW s0 s l0 l → WFr W s0 s → a_W d 167 9 [.ref 56, iv x1, iv x2, iv x3, u4, .retAddr 0, .retAddr 0, .retAddr 0, .retAddr 0] [] (mkH B s l) (MPo t n vs W dep K (resM (arrF ts) res) B s0 l0) := by
  intro N
  induction N using Nat.strongRecOn with
  | _ N ih =>
  intro hA1 d j Wc a ts x1 x2 x3 u4 s0 s l0 l res hd h hA hR h3 h33 h32 hW hWc hf hg
  have j6 := hA.le
  unfold pA at h
  refine w167_9 hB (by omega) x1 x2 x3 u4 s l (a_W.imp (m_look0 hB (by omega) hcap j hA) ?_)
  rintro _ ⟨s2, l2, f2, ⟨h0, rfl, hC⟩ | ⟨h0, rfl, hF⟩⟩
  · rcases pLk_some h with ⟨c, -⟩ | ⟨-, h⟩
    · exact absurd h0 c
    have hk := kd_rng h0
    have k8 : kM (kdT t n j) = 13 ↔ kdT t n j = 8 := kM_inj (b := 8) ⟨hk.1, hk.2.1⟩ (by decide)
    have c2 := hC.2.1
    have c4 := hC.2.2.2.1
    have hR2 := f2.rd hR
    have e33 : zz s2 56 33 = (Wc : Int) := (f2.2.1 33 (by decide)).trans h33
    have e32 : zz s2 56 32 = (dep : Int) := (f2.2.1 32 (by decide)).trans h32
    have hf2 := hf.tr f2.w
    have hg2 := hg.tr (f2.wf W) (Nat.le_refl _)
    refine ⟨_, s2, l2, rfl, inR_kM ⟨hk.1, hk.2.1⟩, fun g => ?_, fun g => ⟨fun c => absurd c2 c, fun _ => ?_⟩⟩
    · rw [if_neg (fun c => g (k8.mpr c))] at h
      cases h
      obtain ⟨c, x, b1, b2, b3, b4, b5⟩ := hR2
      subst b3
      have hx := b4.rng
      refine w167_68 hB x1 _ x3 u4 s2 l2 ⟨⟨by omega, by omega⟩, ?_⟩
      rw [natc]
      refine a_W.imp (m_fold hB (by omega) l2 x1 _ x3 W ts a c Wc x (zz s2 78 x) 1 _ _ s2 b1 b4 b5 (by omega) ⟨by omega, by omega⟩ (by decide) e33 (by omega) c2) ?_
      rintro _ ⟨s3, w, rfl, j1, j2, j3, j4, j5⟩
      have hw := j1.rng
      exact ⟨s3, l2, w, rfl, hf2.tr (j4.w l2), hg2.tr j3 (Nat.le_refl _), by omega, Or.inl ⟨arrF ts a, j, Wc + ts.length, rfl, ⟨Or.inr (hC.rw j4), hA.2⟩, j5.trans e32, j2, by have ea := arrF_ls ts a; have eb : lsW (a :: ts) = tyW a + lsW ts := rfl; omega, j1⟩⟩
    · have hk8 := k8.mp g
      rw [if_pos hk8] at h
      cases N with
      | zero => exact absurd (show (none : aPr) = some res from h) (by intro h; cases h)
      | succ M =>
        obtain ⟨q, hq, rfl⟩ := pBd_resM h
        rw [resM_f (f := arrF ts) rfl (fun _ => rfl)]
        have hlt : ∀ q, q < j + 1 → stT t n q < n := fun q hq => by
          by_cases e : q = j
          · subst e; omega
          · exact hA.2 q (by omega)
        rw [c4, show (j : Int) + 1 = ((j + 1 : Nat) : Int) by omega]
        have hA1' : MAt t n vs (j + 1) (zu s2 56 31 ((j + 1 : Nat) : Int)) l2 := ⟨Or.inl (hC.now (i2 := j + 1) (by omega)), hlt⟩
        have fn := FrW.now s2 l2 ((j + 1 : Nat) : Int)
        have gn : ∀ W, WFr W s2 (zu s2 56 31 ((j + 1 : Nat) : Int)) := fun W => WFr.k56 W _ _ _
        have d33 : zz (zu s2 56 31 ((j + 1 : Nat) : Int)) 56 33 = (Wc : Int) := (zz_ne _ _ _ _ _ _ (by omega)).trans e33
        have d32 : zz (zu s2 56 31 ((j + 1 : Nat) : Int)) 56 32 = (dep : Int) := (zz_ne _ _ _ _ _ _ (by omega)).trans e32
        have hR3 : RD (zu s2 56 31 ((j + 1 : Nat) : Int)) (vT t n vs) (a :: ts) W Wc x2 := RD.keep _ _ _ _ hR2 (fun k j h1 h2 _ _ => zz_ne _ _ _ _ _ _ (by omega))
        generalize (zu s2 56 31 ((j + 1 : Nat) : Int)) = s3 at *
        have bad : ∀ (e : Int × Nat) (K2 : Nat) (q' : aR), MPo t n vs Wc dep K2 (.inl e) B s3 l2 q' → ∃ (w : Nat) (s7 : aZ) (l8 : aZL), q' = (.inl (some (iv (w : Int))), mkH B s7 l8) ∧ 0 < zz s7 56 22 ∧ MPo t n vs W dep K (.inl e) B s0 l0 (.inl (some (iv 0)), mkH B s7 l8) := by
          rintro e K2 _ ⟨s7, l8, w, rfl, f7, g7, w7, ⟨T, j3, W3, hh, -⟩ | ⟨f, j3, hh, hF⟩⟩
          · cases hh
          · cases hh
            have p := hF.2.1
            have p2 := hF.2.2.1
            exact ⟨w, s7, l8, rfl, by omega, s7, l8, 0, rfl, hf2.tr (fn.tr f7), (hg2.tr (gn W) (Nat.le_refl _)).tr (fun k h1 h2 q hq => g7 k h1 h2 q (by omega)) (Nat.le_refl _), by decide, Or.inr ⟨f, j3, rfl, hF⟩⟩
        rw [pty_0] at hq
        rcases pLk_some hq with ⟨c, rfl⟩ | ⟨hj0, hq⟩
        · refine a_W.imp (m_atomF hB hcap (by omega) Wc dep 0 (j + 1) c hA1') ?_
          intro q' hq'
          obtain ⟨w, s7, l8, rfl, p1, p2⟩ := bad _ _ _ hq'
          exact ⟨_, s7, l8, rfl, fun c => absurd c (by omega), fun _ => p2⟩
        · rcases pBd_some hq with ⟨e, h1, rfl⟩ | ⟨a2, j2, h1, h2⟩
          · refine a_W.imp (hA1 M (by omega) (d - 1) dep (K + ts.length + 1) (j + 1) Wc s3 l2 _ (by omega) hdep h1 hA1' d32 d33 (by omega)) ?_
            intro q' hq'
            obtain ⟨w, s7, l8, rfl, p1, p2⟩ := bad _ _ _ hq'
            exact ⟨_, s7, l8, rfl, fun c => absurd c (by omega), fun _ => p2⟩
          · refine a_W.imp (hA1 M (by omega) (d - 1) dep (K + ts.length + 1) (j + 1) Wc s3 l2 _ (by omega) hdep h1 hA1' d32 d33 (by omega)) ?_
            rintro _ ⟨s7, l8, w, rfl, f7, g7, w7, ⟨T, j3, W3, hh, hA7, q32, q33, qW, hT⟩ | ⟨f, j3, hh, -⟩⟩
            rotate_left
            · cases hh
            cases hh
            have p22 := hA7.z22
            refine ⟨_, s7, l8, rfl, fun _ => ⟨⟨by omega, by omega⟩, ?_⟩, fun c => absurd c (by omega)⟩
            rw [natc]
            have fn7 := FrR.next s7 w x2
            have hR7 : RD s7 (vT t n vs) (a :: ts) W Wc x2 := RD.keep _ _ _ _ hR3 (fun k j h1 h2 _ h4 => g7 k h1 h2 j h4)
            have rx2 : inR x2 := by
              obtain ⟨c, x, b1, b2, b3, b4, b5⟩ := hR7
              have := b4.rng
              exact ⟨by omega, by omega⟩
            have hTr := hT.rng
            exact ih M (by omega) (fun M' h' => hA1 M' (by omega)) d j2 W3 a2 (a :: ts) x1 _ _ _ s0 (zu s7 78 w x2) l0 l8 q hd h2 (hA7.rw fn7) (RD.push hR7 hWc.1 hT (fun k j h1 h2 _ _ h5 => zz_ne _ _ _ _ _ _ (by omega)) (zz_same _ _ _ rx2)) (by rw [List.length_cons]; omega) ((zz_ne _ _ _ _ _ _ (by omega)).trans q33) ((zz_ne _ _ _ _ _ _ (by omega)).trans q32) (by rw [List.length_cons]; omega) (by have eb : lsW (a2 :: a :: ts) = tyW a2 + lsW (a :: ts) := rfl; omega) (hf2.tr (fn.tr (f7.tr (fn7.w l8)))) ((hg2.tr (gn W) (Nat.le_refl _)).tr (fun k h1 h2 q hq => (zz_ne _ _ _ _ _ _ (by omega)).trans (g7 k h1 h2 q (by omega))) (Nat.le_refl _))
  · rcases pLk_some h with ⟨-, rfl⟩ | ⟨c, -⟩
    rotate_left
    · exact absurd c h0
    have p := hF.2.1
    have p2 := hF.2.2.1
    obtain ⟨c, x, b1, b2, b3, b4, b5⟩ := hR
    subst b3
    have hx := b4.rng
    refine ⟨_, s2, l2, rfl, by decide, fun _ => ?_, fun c => absurd c (by decide)⟩
    have q0 : MPo t n vs W dep K (resM (arrF ts) (.inl (ftT t n j, j))) B s0 l0 (.inl (some (iv (x : Int))), mkH B s2 l2) := ⟨s2, l2, x, rfl, hf.tr f2.w, hg.tr (f2.wf W) (Nat.le_refl _), by omega, Or.inr ⟨_, _, rfl, hF⟩⟩
    refine w167_68 hB x1 _ x3 u4 s2 l2 ⟨⟨by omega, by omega⟩, w167_82 hB (by omega) _ _ _ _ _ _ _ _ s2 l2 ⟨by decide, ⟨by omega, by omega⟩, fun _ => w167_150 hB _ _ _ _ _ _ _ _ s2 l2 q0, fun _ => ⟨fun _ => w167_150 hB _ _ _ _ _ _ _ _ s2 l2 q0, fun c => absurd c (by omega)⟩⟩⟩
theorem m_a0 (hB : a_Can B) (hcap : MCap t n vs) (N : Nat) (hM : ∀ M, M ≤ N → MA1 B t n vs M) : MA0 B t n vs (N + 1) := by
  intro d dep K i W s l res hd hdep h hA h32 h33 hW
  have i6 := hA.le
  have bad : ∀ (e : Int × Nat) (q' : aR), MPo t n vs W dep K (.inl e) B s l q' → ∃ (v3 : Int) (s1 : aZ) (l2 : aZL), q' = (.inl (some (iv v3)), mkH B s1 l2) ∧ a_W d 167 9 [.ref 56, iv v3, iv v3, iv 1, .retAddr 0, .retAddr 0, .retAddr 0, .retAddr 0, .retAddr 0] [] (mkH B s1 l2) (MPo t n vs W dep K (.inl e) B s l) := by
    rintro e _ ⟨s2, l2, w, rfl, f, g, hw, ⟨T, j3, W3, hh, -⟩ | ⟨f1, j1, hh, hF⟩⟩
    · cases hh
    · cases hh
      refine ⟨_, s2, l2, rfl, w167_9 hB (by omega) _ _ _ _ s2 l2 (a_W.imp (m_look_f hB (by omega) hF 0 (by decide)) ?_)⟩
      rintro _ rfl
      refine ⟨_, s2, l2, rfl, by decide, fun _ => ?_, fun c => absurd c (by decide)⟩
      refine w167_68 hB _ _ _ _ s2 l2 ⟨⟨by omega, by omega⟩, w167_82 hB (by omega) _ _ _ _ _ _ _ _ s2 l2 ⟨by decide, by decide, fun _ => w167_150 hB _ _ _ _ _ _ _ _ s2 l2 ?_, fun c => absurd c (by decide)⟩⟩
      exact ⟨s2, l2, w, rfl, f, g, hw, Or.inr ⟨f1, j1, rfl, hF⟩⟩
  rw [pty_0] at h
  refine w167_0 hB (by omega) s l ?_
  rcases pLk_some h with ⟨c, rfl⟩ | ⟨h0, h⟩
  · exact a_W.imp (m_atomF hB hcap (by omega) W dep K i c hA) (fun q' hq' => bad _ _ hq')
  · rcases pBd_some h with ⟨e, h1, rfl⟩ | ⟨a, j, h1, h2⟩
    · exact a_W.imp (hM N (Nat.le_refl _) (d - 1) dep K i W s l _ (by omega) hdep h1 hA h32 h33 hW) (fun q' hq' => bad _ _ hq')
    · refine a_W.imp (hM N (Nat.le_refl _) (d - 1) dep K i W s l _ (by omega) hdep h1 hA h32 h33 hW) ?_
      rintro _ ⟨s2, l2, w, rfl, f7, g7, w7, ⟨T, j3, W2, hh, hA2, q32, q33, qW, hT⟩ | ⟨f, j3, hh, -⟩⟩
      rotate_left
      · cases hh
      cases hh
      have hTr := hT.rng
      refine ⟨_, s2, l2, rfl, ?_⟩
      have e0 : resM (arrF []) res = res := by cases res <;> rfl
      have := m_arr hB hcap W dep K hdep N (fun M h => hM M (by omega)) d j W2 a [] (w : Int) (w : Int) 1 (.retAddr 0) s s2 l l2 res hd h2 hA2 ⟨W, w, Nat.le_refl _, by omega, rfl, hT, trivial⟩ rfl q33 q32 qW.1 (by have eb : lsW [a] = tyW a := rfl; omega) f7 g7
      rw [e0] at this
      exact this
/-- THE REFERENCE READS TYPES AS THEY PARSE -/
theorem m_types (hB : a_Can B) (hcap : MCap t n vs) : ∀ N, MA0 B t n vs N ∧ MA1 B t n vs N ∧ MA2 B t n vs N := by
  intro N
  induction N using Nat.strongRecOn with
  | _ N ih =>
  cases N with
  | zero =>
    refine ⟨?_, ?_, ?_⟩
    · intro d dep K i W s l res _ _ h; exact absurd (show (none : aPr) = some res from h) (by intro h; cases h)
    · intro d dep K i W s l res _ _ h; exact absurd (show (none : aPr) = some res from h) (by intro h; cases h)
    · intro d dep K i W s l res _ _ h; exact absurd (show (none : aPr) = some res from h) (by intro h; cases h)
  | succ N => exact ⟨m_a0 hB hcap N (fun M h => (ih M (by omega)).2.1), m_a1 hB hcap N (fun M h => (ih M (by omega)).2.2), m_a2 hB hcap N (ih N (by omega)).1⟩
end
