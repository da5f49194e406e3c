/-! THE REFERENCE READS ATOMS -/
/-- what a read term comes to -/
def MTo (t : Nat → Int) (n : Nat) (vs : List (List Int)) (Q W dep wt bd K : Nat) (r : (Int × Nat) ⊕ (aT × Nat)) (B : aH) (s : aZ) (l : aZL) (q : aR) : Prop := ∃ (s2 : aZ) (l2 : aZL) (p : Nat), q = (.inl (some (iv (p : Int))), mkH B s2 l2) ∧ FP Q W wt bd s s2 l l2 ∧ p < 30100 ∧ ((∃ T j Q2 W2, r = .inr (T, j) ∧ MAt t n vs j s2 l2 ∧ MS Q2 W2 dep wt bd s2 ∧ (Q ≤ Q2 ∧ W ≤ W2 ∧ Q2 + K + 1 ≤ 3 * j ∧ W2 ≤ j) ∧ PH s2 (vT t n vs) W2 Q2 T p ∧ LgJ W W2 s2 (lgA T)) ∨ (∃ f j, r = .inl (f, j) ∧ MF t n f (stT t n j) (nsT t n vs (j + 1)) s2 l2))
section
variable {B : aH} {t : Nat → Int} {n : Nat} {vs : List (List Int)}
theorem MTo.f {Q W dep wt bd K : Nat} {s s2 : aZ} {l l2 : aZL} {f : Int} {j p : Nat} (h : FP Q W wt bd s s2 l l2) (hp : p < 30100) (hF : MF t n f (stT t n j) (nsT t n vs (j + 1)) s2 l2) : MTo t n vs Q W dep wt bd K (.inl (f, j)) B s l (.inl (some (iv (p : Int))), mkH B s2 l2) := ⟨s2, l2, p, rfl, h, hp, Or.inr ⟨f, j, rfl, hF⟩⟩
theorem MTo.pre {Q W dep wt bd K : Nat} {r : (Int × Nat) ⊕ (aT × Nat)} {s s1 : aZ} {l l1 : aZL} {q : aR} (f : FP Q W wt bd s s1 l l1) (h : MTo t n vs Q W dep wt bd K r B s1 l1 q) : MTo t n vs Q W dep wt bd K r B s l q := by
  obtain ⟨s2, l2, p, h1, h2, h3⟩ := h
  exact ⟨s2, l2, p, h1, f.tr h2 ⟨Nat.le_refl _, Nat.le_refl _, Nat.le_refl _, Nat.le_refl _⟩, h3⟩
theorem FPr : ∀ {a b c d : Nat}, a ≤ a ∧ b ≤ b ∧ c ≤ c ∧ d ≤ d := ⟨Nat.le_refl _, Nat.le_refl _, Nat.le_refl _, Nat.le_refl _⟩
theorem lt_nx {i : Nat} (h0 : ftT t n i = 0) (hk : kdT t n i ≠ 0) : stT t n i < n ∧ i < 6000 := by
  have := kd_rng h0
  exact ⟨by omega, (ft0 h0 (by omega)).1⟩
theorem lt_all {i : Nat} (h : ∀ j, j < i → stT t n j < n) (h1 : stT t n i < n) : ∀ j, j < i + 1 → stT t n j < n := fun j hj => by
  by_cases e : j = i
  · rw [e]; exact h1
  · exact h j (by omega)
/-- ) behind a term -/
theorem m_close (hB : a_Can B) (hcap : MCap t n vs) {d : Nat} (hd : 6 ≤ d) (Q0 W0 Q W dep wt bd K j : Nat) (x1 x2 : Int) (u4 : Value) (s0 s : aZ) (l0 l : aZL) (T : aT) (p : Nat) (res : (Int × Nat) ⊕ (aT × Nat)) (h0 : ftT t n j = 0) (hdep : dep < 40) (h : (if kdT t n j = 5 then some (.inr (T, j + 1)) else some (.inl (2, j)) : aPr) = some res) (hA : MAt t n vs j s l) (hS : MS Q W (dep + 1) wt bd s) (hP : PH s (vT t n vs) W Q T p) (hp : p < 30100) (hL : LgJ W0 W s (lgA T)) (hf : FP Q0 W0 wt bd s0 s l0 l) (hq : Q0 ≤ Q ∧ W0 ≤ W) (hQ : Q + K ≤ 3 * j + 2) (hW : W ≤ j) : a_W d 179 238 [.ref 56, iv x1, iv x2, iv (p : Int), u4] [] (mkH B s l) (MTo t n vs Q0 W0 dep wt bd K res B s0 l0) := by
  have hn := m_need hB (d := d - 1) (by omega) hcap j 5 (by decide) hA
  rw [show kM 5 = 5 by decide] at hn
  refine w179_238 hB (by omega) x1 x2 _ u4 s l (a_W.imp hn ?_)
  rintro _ ⟨s5, l5, rfl, ⟨m1, m2, m3, s6, m4, m5⟩ | ⟨m1, m2, m3, m4⟩ | ⟨m1, m3, m4⟩⟩
  · rw [if_pos m2] at h
    cases h
    obtain ⟨a1, a2⟩ := lt_nx h0 (by omega)
    have f5 : FP Q W wt bd s s5 l l5 := by rw [m5]; exact (m4.fp Q W wt bd).tr (FP.z56 _ _ _ _ _ _ 31 _ (by decide)) FPr
    have S5 : MS Q W (dep + 1) wt bd s5 := by rw [m5]; exact (hS.m m4).z56 31 _ (by decide)
    have e32 : zz s5 56 32 = ((dep + 1 : Nat) : Int) := S5.2.2.1
    have f6 : FP Q W wt bd s (zu s5 56 32 (zz s5 56 32 - 1)) l l5 := f5.tr (FP.z56 _ _ _ _ _ _ 32 _ (by decide)) FPr
    refine ⟨s5, l5, rfl, zu s5 56 32 (zz s5 56 32 - 1), l5, p, rfl, hf.tr f6 ⟨hq.1, hq.2, Nat.le_refl _, Nat.le_refl _⟩, hp, Or.inl ⟨T, j + 1, Q, W, rfl, ⟨Or.inl (m3.kp (KpT.z56 _ _ _ (by decide))), lt_all hA.2 a1⟩, ⟨(zz_ne _ _ _ _ _ _ (by omega)).trans S5.1, (zz_ne _ _ _ _ _ _ (by omega)).trans S5.2.1, ?_, (zz_ne _ _ _ _ _ _ (by omega)).trans S5.2.2.2.1, (zz_ne _ _ _ _ _ _ (by omega)).trans S5.2.2.2.2⟩, ⟨hq.1, hq.2, by omega, by omega⟩, PH.keep f6.2.1 f6.2.2.1 (Nat.le_refl _) (Nat.le_refl _) _ _ hP, hL.keep f6.2.2.1⟩⟩
    rw [zz_same _ _ _ ⟨by omega, by omega⟩]
    omega
  · rw [if_neg m2] at h
    cases h
    exact ⟨s5, l5, rfl, MTo.f (hf.tr ((m4.fp Q W wt bd).tr (FP.z56 _ _ _ _ _ _ 32 _ (by decide)) FPr) ⟨hq.1, hq.2, Nat.le_refl _, Nat.le_refl _⟩) hp (m3.kp (KpT.z56 _ _ _ (by decide)))⟩
  · exact absurd h0 m1
/-- behind a fault -/
theorem m_closeF (hB : a_Can B) {d : Nat} (hd : 3 ≤ d) (Q0 W0 dep wt bd K j : Nat) (x1 x2 : Int) (u4 : Value) (s0 s : aZ) (l0 l : aZL) (p : Nat) (f : Int) (hF : MF t n f (stT t n j) (nsT t n vs (j + 1)) s l) (hp : p < 30100) (hf : FP Q0 W0 wt bd s0 s l0 l) : a_W d 179 238 [.ref 56, iv x1, iv x2, iv (p : Int), u4] [] (mkH B s l) (MTo t n vs Q0 W0 dep wt bd K (.inl (f, j)) B s0 l0) := by
  refine w179_238 hB (by omega) x1 x2 _ u4 s l (a_W.imp (m_need_f hB (by omega) hF 5 (by decide)) ?_)
  rintro _ rfl
  exact ⟨s, l, rfl, MTo.f (hf.tr (FP.z56 _ _ _ _ _ _ 32 _ (by decide)) FPr) hp (hF.kp (KpT.z56 _ _ _ (by decide)))⟩
def MB0 (B : aH) (t : Nat → Int) (n : Nat) (vs : List (List Int)) (N : Nat) : Prop := ∀ (d dep K i Q W wt bd : Nat) (s : aZ) (l : aZL) (res : (Int × Nat) ⊕ (aT × Nat)), 160 + 5 * (40 - dep) ≤ d → dep ≤ 40 → ptm t n N 0 dep [] noT i = some res → i ≤ 6000 → MAt t n vs i s l → MS Q W dep wt bd s → Q + K ≤ 3 * i → W ≤ i → 2 * wt ≤ i → bd ≤ i → a_W d 146 0 [.ref 56, .retAddr 0, .retAddr 0, .retAddr 0, .retAddr 0] [] (mkH B s l) (MTo t n vs Q W dep wt bd K res B s l)
def MB2 (B : aH) (t : Nat → Int) (n : Nat) (vs : List (List Int)) (N : Nat) : Prop := ∀ (d dep K i Q W wt bd : Nat) (s : aZ) (l : aZL) (res : (Int × Nat) ⊕ (aT × Nat)), 159 + 5 * (40 - dep) ≤ d → dep ≤ 40 → ptm t n N 2 dep [] noT i = some res → i ≤ 6000 → MAt t n vs i s l → MS Q W dep wt bd s → Q + K ≤ 3 * i → W ≤ i → 2 * wt ≤ i → bd ≤ i → a_W d 147 0 [.ref 56, .retAddr 0, .retAddr 0, .retAddr 0, .retAddr 0] [] (mkH B s l) (MTo t n vs Q W dep wt bd K res B s l)
def MB4 (B : aH) (t : Nat → Int) (n : Nat) (vs : List (List Int)) (N : Nat) : Prop := ∀ (d dep K i Q W wt bd : Nat) (s : aZ) (l : aZL) (res : (Int × Nat) ⊕ (aT × Nat)), 157 + 5 * (40 - dep) ≤ d → dep ≤ 40 → ptm t n N 4 dep [] noT i = some res → i ≤ 6000 → MAt t n vs i s l → MS Q W dep wt bd s → Q + K ≤ 3 * i → W ≤ i → 2 * wt ≤ i → bd ≤ i → a_W d 177 0 [.ref 56, .retAddr 0, .retAddr 0] [] (mkH B s l) (MTo t n vs Q W dep wt bd K res B s l)
/-- a term in ( ) -/
theorem m_inside (hB : a_Can B) (hcap : MCap t n vs) (N : Nat) (hM : MB0 B t n vs N) (d dep K i Q W wt bd : Nat) (x1 x2 : Int) (s : aZ) (l : aZL) (res : (Int × Nat) ⊕ (aT × Nat)) (hd : 156 + 5 * (40 - dep) ≤ d) (hdep : dep ≤ 40) (h : (if 40 ≤ dep then some (.inl (8, i + 1)) else pBd (ptm t n N 0 (dep + 1) [] noT (i + 1)) (pIn t n N dep) : aPr) = some res) (hi6 : i + 1 ≤ 6000) (h1 : ftT t n (i + 1) = 0) (hC : MC t n vs (i + 2) i s l) (hl : ∀ j, j < i + 1 → stT t n j < n) (hS : MS Q W dep wt bd s) (hQ : Q + K ≤ 3 * i) (hW : W ≤ i) (hwt : 2 * wt ≤ i) (hbd : bd ≤ i) : a_W d 179 142 [.ref 56, iv x1, iv x2, .retAddr 0, .retAddr 0] [] (mkH B s l) (MTo t n vs Q W dep wt bd K res B s l) := by
  have c4 := hC.2.2.2.1
  refine w179_142 hB (by omega) x1 x2 s l ?_
  rw [c4, show (i : Int) + 1 = ((i + 1 : Nat) : Int) by omega]
  have hC1 : MC t n vs (i + 2) (i + 1) (zu s 56 31 ((i + 1 : Nat) : Int)) l := hC.now (i2 := i + 1) (by omega)
  have f0 : FP Q W wt bd s (zu s 56 31 ((i + 1 : Nat) : Int)) l l := FP.z56 _ _ _ _ _ _ 31 _ (by decide)
  have S0 : MS Q W dep wt bd (zu s 56 31 ((i + 1 : Nat) : Int)) := hS.z56 31 _ (by decide)
  generalize (zu s 56 31 ((i + 1 : Nat) : Int)) = s1 at *
  refine a_W.imp (m_enter hB (by omega) hcap (i + 1) dep hdep S0.2.2.1 ⟨Or.inr hC1, hl⟩) ?_
  rintro _ ⟨s2, s3, l2, rfl, f2, hh⟩
  have f2' : FP Q W wt bd s s2 l l2 := f0.tr ((FP.z56 Q W wt bd s1 l 32 ((dep : Int) + 1) (by decide)).tr (f2.fp Q W wt bd) FPr) FPr
  rcases hh with ⟨-, hd1, e, hC2⟩ | ⟨-, hd1, e, hF⟩ | ⟨c, -, -⟩
  rotate_left
  · rw [if_pos (by omega)] at h
    cases h
    have p := hF.2.2.1
    have ff : FP Q W wt bd s2 s3 l2 l2 := by rw [e]; exact (FP.z56 _ _ _ _ _ _ 22 _ (by decide)).tr (FP.z56 _ _ _ _ _ _ 23 _ (by decide)) FPr
    refine ⟨s3, l2, rfl, fun c => absurd c (by omega), fun _ => a_W.imp (m_look_f hB (by omega) hF 0 (by decide)) ?_⟩
    rintro _ rfl
    exact ⟨_, s3, l2, rfl, by decide, fun _ => m_closeF hB (by omega) Q W dep wt bd K (i + 1) x1 x2 _ s s3 l l2 0 8 hF (by decide) (f2'.tr ff FPr), fun c => absurd c (by decide)⟩
  · exact absurd h1 c
  rw [if_neg (by omega)] at h
  rw [e]
  have c22 := hC2.2.1
  have S2 : MS Q W (dep + 1) wt bd s2 := by
    have g : ∀ j, j ≠ 32 → j ∉ [5, 22, 23, 25, 26] → zz s2 56 j = zz s1 56 j := fun j h1 h2 => (f2.2.1 j h2).trans (zz_ne _ _ _ _ _ _ (fun q => h1 q.2))
    exact ⟨(g 41 (by decide) (by decide)).trans S0.1, (g 33 (by decide) (by decide)).trans S0.2.1, (f2.2.1 32 (by decide)).trans ((zz_same _ _ _ ⟨by omega, by omega⟩).trans (by omega)), (g 48 (by decide) (by decide)).trans S0.2.2.2.1, (g 51 (by decide) (by decide)).trans S0.2.2.2.2⟩
  refine ⟨s2, l2, rfl, fun _ => ?_, fun c => absurd c (by omega)⟩
  rcases pBd_some h with ⟨e, q1, rfl⟩ | ⟨a, j, q1, q2⟩
  · refine a_W.imp (hM (d - 1) (dep + 1) K (i + 1) Q W wt bd s2 l2 _ (by omega) (by omega) q1 hi6 ⟨Or.inr hC2, hl⟩ S2 (by omega) (by omega) (by omega) (by omega)) ?_
    rintro _ ⟨s4, l4, w, rfl, f4, w4, ⟨T, j3, Q3, W3, hh, -⟩ | ⟨f, j3, hh, hF⟩⟩
    · cases hh
    · cases hh
      have p := hF.2.2.1
      have p2 := hF.2.1
      refine ⟨_, s4, l4, rfl, a_W.imp (m_look_f hB (by omega) hF 0 (by decide)) ?_⟩
      rintro _ rfl
      exact ⟨_, s4, l4, rfl, by decide, fun _ => m_closeF hB (by omega) Q W dep wt bd K j3 x1 x2 _ s s4 l l4 w f hF w4 (f2'.tr f4 FPr), fun c => absurd c (by decide)⟩
  · obtain ⟨k1, k2, k3, g0, k5, -, -⟩ := ptm_R t n N 0 (dep + 1) [] noT (i + 1) _ (by decide) hi6 (I0D _ _ _ _ _ (by omega)) q1
    have k1 : i + 1 ≤ j := k1
    have k2 : j ≤ 6000 := k2
    have g0 : ftT t n j = 0 := g0 (by decide)
    refine a_W.imp (hM (d - 1) (dep + 1) K (i + 1) Q W wt bd s2 l2 _ (by omega) (by omega) q1 hi6 ⟨Or.inr hC2, hl⟩ S2 (by omega) (by omega) (by omega) (by omega)) ?_
    rintro _ ⟨s4, l4, w, rfl, f4, w4, ⟨T, j3, Q3, W3, hh, hA4, S4, b4, P4, L4⟩ | ⟨f, j3, hh, -⟩⟩
    rotate_left
    · cases hh
    cases hh
    refine ⟨_, s4, l4, rfl, a_W.imp (m_look0 hB (by omega) hcap j hA4) ?_⟩
    rintro _ ⟨s5, l5, f5, ⟨-, rfl, hC5⟩ | ⟨c, -⟩⟩
    rotate_left
    · exact absurd g0 c
    have hk := kd_rng g0
    have k7 : kM (kdT t n j) = 7 ↔ kdT t n j = 6 := kM_inj (b := 6) ⟨hk.1, hk.2.1⟩ (by decide)
    have f5' : FP Q W wt bd s s5 l l5 := f2'.tr (f4.tr (f5.fp Q W wt bd) FPr) FPr
    have S5 := S4.m f5
    have P5 := PH.keep (f5.fp Q3 W3 wt bd).2.1 (f5.fp Q3 W3 wt bd).2.2.1 (Nat.le_refl _) (Nat.le_refl _) _ _ P4
    have L5 := L4.keep (f5.wf W3)
    have c5 := hC5.2.1
    unfold pIn at q2
    refine ⟨_, s5, l5, rfl, inR_kM ⟨hk.1, hk.2.1⟩, fun c => ?_, fun c => ⟨fun c6 => absurd c5 c6, fun _ => ?_⟩⟩
    · rw [if_neg (fun e => c (k7.mpr e))] at q2
      exact m_close hB hcap (by omega) Q W Q3 W3 dep wt bd K j x1 x2 _ s s5 l l5 a w res g0 hd1 q2 ⟨Or.inr hC5, hA4.2⟩ S5 P5 w4 L5 f5' ⟨b4.1, b4.2.1⟩ (by omega) (by omega)
    · have k6 := k7.mp c
      rw [if_pos k6] at q2
      obtain ⟨a1, a2⟩ := lt_nx g0 (by omega)
      have d4 := hC5.2.2.2.1
      rw [d4, show (j : Int) + 1 = ((j + 1 : Nat) : Int) by omega]
      have hC6 : MC t n vs (j + 1) (j + 1) (zu s5 56 31 ((j + 1 : Nat) : Int)) l5 := hC5.now (i2 := j + 1) (by omega)
      have f6 : FP Q3 W3 wt bd s5 (zu s5 56 31 ((j + 1 : Nat) : Int)) l5 l5 := FP.z56 _ _ _ _ _ _ 31 _ (by decide)
      have S6 : MS Q3 W3 (dep + 1) wt bd (zu s5 56 31 ((j + 1 : Nat) : Int)) := S5.z56 31 _ (by decide)
      generalize (zu s5 56 31 ((j + 1 : Nat) : Int)) = s6 at *
      have hA6 : MAt t n vs (j + 1) s6 l5 := ⟨Or.inl hC6, lt_all hA4.2 a1⟩
      rcases pBd_some q2 with ⟨e, r1, rfl⟩ | ⟨Ty, k, r1, r2⟩
      · refine a_W.imp ((m_types hB hcap N).1 (d - 1) (dep + 1) 0 (j + 1) W3 s6 l5 _ (by omega) (by omega) r1 hA6 S6.2.2.1 S6.2.1 (by omega)) ?_
        rintro _ ⟨s7, l7, y, rfl, f7, g7, y7, ⟨T, j3, W4, hh, -⟩ | ⟨f, j3, hh, hF⟩⟩
        · cases hh
        · cases hh
          have p := hF.2.2.1
          have p2 := hF.2.1
          exact ⟨_, s7, l7, rfl, fun c => absurd c (by omega), fun _ => m_closeF hB (by omega) Q W dep wt bd K j3 x1 x2 _ s s7 l l7 0 f hF (by decide) (f5'.tr (f6.tr (f7.fp g7 Q3 wt bd) FPr) ⟨b4.1, b4.2.1, Nat.le_refl _, Nat.le_refl _⟩)⟩
      · have r3 := (pty_le t n N 0 (dep + 1) (j + 1) _ (by decide) (fun c => absurd c (by decide)) (by omega) r1).1 Ty k rfl
        have r4 := pty0_ft t n N (dep + 1) (j + 1) Ty k r1
        refine a_W.imp ((m_types hB hcap N).1 (d - 1) (dep + 1) 0 (j + 1) W3 s6 l5 _ (by omega) (by omega) r1 hA6 S6.2.2.1 S6.2.1 (by omega)) ?_
        rintro _ ⟨s7, l7, y, rfl, f7, g7, y7, ⟨T, j3, W4, hh, hA7, q32, q33, qW, hT⟩ | ⟨f, j3, hh, -⟩⟩
        rotate_left
        · cases hh
        cases hh
        have c7 := hA7.z22
        have f7' : FP Q3 W3 wt bd s5 s7 l5 l7 := f6.tr (f7.fp g7 Q3 wt bd) FPr
        have S7 : MS Q3 W4 (dep + 1) wt bd s7 := ⟨(f7.2.1 41 (by decide)).trans S6.1, q33, q32, (f7.2.1 48 (by decide)).trans S6.2.2.2.1, (f7.2.1 51 (by decide)).trans S6.2.2.2.2⟩
        have P7 : PH s7 (vT t n vs) W4 Q3 a w := PH.keep f7'.2.1 f7'.2.2.1 (Nat.le_refl _) (by omega) _ _ P5
        have L7 := L5.keep f7'.2.2.1
        obtain ⟨p1, p2, p3⟩ := P7.top
        rw [natc] at p2 p3
        refine ⟨_, s7, l7, rfl, fun _ => ⟨⟨by omega, by omega⟩, ?_⟩, fun c => absurd c (by omega)⟩
        rw [natc, p2, p3]
        refine a_W.imp (m_part hB s7 l7 Q3 (by omega) S7.1 _ _ _ _ _ _ ⟨by omega, by omega⟩ ⟨by omega, by omega⟩) ?_
        rintro _ rfl
        obtain ⟨a1, a2, a3, a4, a5, a6, a7⟩ := nwT_at s7 Q3 5 (w : Int) (y : Int) (-1) (min (min (tmW a : Int) 100000) 100000) (min (min (tmH a : Int) 100000) 100000) (by omega) (by decide) ⟨by omega, by omega⟩ ⟨by omega, by omega⟩ (by decide) ⟨by omega, by omega⟩ ⟨by omega, by omega⟩
        have f8 := FP.nw W4 wt bd s7 l7 Q3 5 (w : Int) (y : Int) (-1) (min (min (tmW a : Int) 100000) 100000) (min (min (tmH a : Int) 100000) 100000)
        have S8 := S7.nw (by omega) 5 (w : Int) (y : Int) (-1) (min (min (tmW a : Int) 100000) 100000) (min (min (tmH a : Int) 100000) 100000)
        have K8 := KpT.nw s7 Q3 5 (w : Int) (y : Int) (-1) (min (min (tmW a : Int) 100000) 100000) (min (min (tmH a : Int) 100000) 100000)
        have hWI : WI (nwT s7 Q3 5 (w : Int) (y : Int) (-1) (min (min (tmW a : Int) 100000) 100000) (min (min (tmH a : Int) 100000) 100000)) (vT t n vs) Ty false W3 W4 y := (WI.keep Ty).1 W3 W4 y hT (fun k j h1 h2 _ h4 _ => f8.2.2.1 k h1 h2 j h4)
        refine ⟨_, _, l7, rfl, m_close hB hcap (by omega) Q W (Q3 + 1) W4 dep wt bd K k x1 x2 _ s _ l l7 (.branch 2 a Ty) Q3 res r4 hd1 r2 (hA7.kp K8) S8 ⟨⟨by omega, by omega⟩, ?_, ?_, Or.inr (Or.inr ⟨rfl, ?_, ?_, ?_⟩)⟩ (by omega) ?_ (f5'.tr (f7'.tr f8 ⟨Nat.le_refl _, by omega, Nat.le_refl _, Nat.le_refl _⟩) ⟨b4.1, b4.2.1, Nat.le_refl _, Nat.le_refl _⟩) ⟨by omega, by omega⟩ (by omega) (by omega)⟩
        · rw [natc, a5]
          show _ = min ((tmW a : Nat) : Int) 100000
          omega
        · rw [natc, a6]
          show _ = min ((tmH a : Nat) : Int) 100000
          omega
        · rw [natc]; exact a1
        · rw [natc, a2]
          exact PH.keep f8.2.1 f8.2.2.1 (by omega) (Nat.le_refl _) _ _ P7
        · rw [natc, a3]
          exact (WI.mono Ty).1 W3 W4 0 W4 _ hWI (Nat.zero_le _) (Nat.le_refl _)
        · exact LgJ.cat (L7.keep (fun k h1 h2 j hj => f8.2.2.1 k h1 h2 j (by omega))) (LgJ.of hWI qW.2) (fun e => (lgA_as _ _).mpr (Or.inl e)) (fun e => (lgA_as _ _).mpr (Or.inr e))
end
