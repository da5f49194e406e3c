/-! THE REFERENCE READS OPERANDS, BINDERS, TERMS -/
def ntN : Nat → aT → aT
  | 0, x => x
  | c + 1, x => ntN c (apT (sgT 13) x)
theorem ntN_s (c : Nat) (x : aT) : ntN (c + 1) x = ntN c (apT (sgT 13) x) := rfl
theorem lgA_nt : ∀ (c : Nat) (x : aT), lgA (ntN c x) ↔ lgA x := by
  intro c
  induction c with
  | zero => intro x; exact Iff.rfl
  | succ c ih =>
    intro x
    rw [ntN_s, ih, lgA_ap]
    show (False ∨ _) ↔ _
    rw [false_or]
theorem resM_nt (c : Nat) (q : (Int × Nat) ⊕ (aT × Nat)) : resM (ntN c) (resM (fun a => apT (sgT 13) a) q) = resM (ntN (c + 1)) q := by cases q <;> rfl
section
variable {B : aH} {t : Nat → Int} {n : Nat} {vs : List (List Int)}
theorem m_nots (hB : a_Can B) {v : Nat → Int} {d : Nat} (hd : 4 ≤ d) (c : Nat) (hc : c ≤ 6000) (x2 : Int) (l : aZL) {W dep wt bd : Nat} : ∀ (r k Q p : Nat) (T : aT) (s : aZ), k + r = c → MS Q W dep wt bd s → zz s 56 22 = 0 → Q + 2 * r ≤ 30000 → PH s v W Q T p → p < 30100 → a_W d 147 78 [.ref 56, iv (c : Int), iv x2, iv (p : Int), iv (k : Int)] [] (mkH B s l) (fun q => ∃ (s2 : aZ) (p2 : Nat), q = (.inl (some (iv (p2 : Int))), mkH B s2 l) ∧ MS (Q + 2 * r) W dep wt bd s2 ∧ PH s2 v W (Q + 2 * r) (ntN r T) p2 ∧ p2 < 30100 ∧ (∀ W wt bd, FP Q W wt bd s s2 l l) ∧ KpT s s2) := by
  intro r
  induction r with
  | zero =>
    intro k Q p T s hk hS h22 hQ hP hp
    exact w147_78 hB (by omega) _ _ _ _ s l ⟨⟨by omega, by omega⟩, ⟨by omega, by omega⟩, fun _ => w147_109 hB _ _ _ _ s l ⟨s, p, rfl, hS, hP, hp, fun W wt bd => FP.rf _ _ _ _ _ _, KpT.rf s⟩, fun c => absurd c (by omega)⟩
  | succ r ih =>
    intro k Q p T s hk hS h22 hQ hP hp
    refine w147_78 hB (by omega) _ _ _ _ s l ⟨⟨by omega, by omega⟩, ⟨by omega, by omega⟩, fun c => absurd c (by omega), fun _ => ⟨fun c => absurd h22 c, fun _ => a_W.imp (m_sign (v := v) hB (by omega) l hS (by omega) 13 (by decide) 3 (by decide)) ?_⟩⟩
    rintro _ ⟨s1, rfl, S1, F1, K1, P1⟩
    refine ⟨_, s1, l, rfl, a_W.imp (m_applied hB (by omega) l S1 (by omega) P1 (PH.keep (F1 W 0 0).2.1 (F1 W 0 0).2.2.1 (by omega) (Nat.le_refl _) _ _ hP)) ?_⟩
    rintro _ ⟨s2, rfl, S2, F2, K2, P2⟩
    have F12 : ∀ W wt bd, FP Q W wt bd s s2 l l := fun W wt bd => (F1 W wt bd).tr (F2 W wt bd) ⟨by omega, Nat.le_refl _, Nat.le_refl _, Nat.le_refl _⟩
    refine ⟨_, s2, l, rfl, ?_⟩
    rw [show (k : Int) + 1 = ((k + 1 : Nat) : Int) by omega]
    refine a_W.imp (ih (k + 1) (Q + 1 + 1) (Q + 1) _ s2 (by omega) S2 ((K1.tr K2).2 22 (by decide) |>.trans h22) (by omega) P2 (by omega)) ?_
    rintro _ ⟨s3, p3, rfl, S3, P3, q3, F3, K3⟩
    rw [show Q + 1 + 1 + 2 * r = Q + 2 * (r + 1) by omega] at S3 P3
    exact ⟨s3, p3, rfl, S3, P3, q3, fun W wt bd => (F12 W wt bd).tr (F3 W wt bd) ⟨by omega, Nat.le_refl _, Nat.le_refl _, Nat.le_refl _⟩, (K1.tr K2).tr K3⟩
/-- a binder's variable -/
def MVo (t : Nat → Int) (n : Nat) (vs : List (List Int)) (Q W dep wt bd i : Nat) (r : (Int × Nat) ⊕ (aT × Nat)) (B : aH) (s : aZ) (l : aZL) (q : aR) : Prop := ∃ (s2 : aZ) (l2 : aZL), q = (.inl none, mkH B s2 l2) ∧ FP Q W wt bd s s2 l l2 ∧ ((∃ T j W2, r = .inr (T, j) ∧ MAt t n vs j s2 l2 ∧ MS Q W2 dep wt (bd + 1) s2 ∧ (W ≤ W2 ∧ W2 ≤ j) ∧ zz s2 90 bd = (vtk t n i : Nat) ∧ TyP s2 (vT t n vs) W2 T (zz s2 91 bd) ∧ LgJ W W2 s2 (40 < tyW T ∨ 12 < tyH T)) ∨ (∃ f j, r = .inl (f, j) ∧ MF t n f (stT t n j) (nsT t n vs (j + 1)) s2 l2))
/-- boundToken, boundType: what they leave -/
theorem FP.z90 (Q W wt bd : Nat) (s : aZ) (l : aZL) (k j : Nat) (x : Int) (hk : k = 90 ∨ k = 91) (hj : bd ≤ j) : FP Q W wt bd s (zu s k j x) l l := by
  refine ⟨⟨fun q h1 h2 => zu_ne _ _ _ _ _ (by omega), fun i _ => zz_ne _ _ _ _ _ _ (by omega), fun _ _ _ => rfl⟩, fun q i h1 h2 _ => zz_ne _ _ _ _ _ _ (by omega), fun q h1 h2 i _ => zz_ne _ _ _ _ _ _ (by omega), fun i _ => ⟨zz_ne _ _ _ _ _ _ (by omega), zz_ne _ _ _ _ _ _ (by omega)⟩, fun i hi => ⟨zz_ne _ _ _ _ _ _ (by omega), zz_ne _ _ _ _ _ _ (by omega)⟩⟩
theorem FP.z88 (Q W wt bd : Nat) (s : aZ) (l : aZL) (k j : Nat) (x : Int) (hk : k = 88 ∨ k = 89) (hj : wt ≤ j) : FP Q W wt bd s (zu s k j x) l l := by
  refine ⟨⟨fun q h1 h2 => zu_ne _ _ _ _ _ (by omega), fun i _ => zz_ne _ _ _ _ _ _ (by omega), fun _ _ _ => rfl⟩, fun q i h1 h2 _ => zz_ne _ _ _ _ _ _ (by omega), fun q h1 h2 i _ => zz_ne _ _ _ _ _ _ (by omega), fun i hi => ⟨zz_ne _ _ _ _ _ _ (by omega), zz_ne _ _ _ _ _ _ (by omega)⟩, fun i hi => ⟨zz_ne _ _ _ _ _ _ (by omega), zz_ne _ _ _ _ _ _ (by omega)⟩⟩
theorem m_var (hB : a_Can B) (hcap : MCap t n vs) (N d dep i Q W wt bd : Nat) (s : aZ) (l : aZL) (res : (Int × Nat) ⊕ (aT × Nat)) (hd : 150 ≤ d) (hdep : dep ≤ 40) (h : pvr t n N dep i = some res) (hi6 : i ≤ 6000) (hA : MAt t n vs i s l) (hS : MS Q W dep wt bd s) (hW : W ≤ i) (hbd : bd ≤ i) : a_W d 165 0 [.ref 56, .retAddr 0] [] (mkH B s l) (MVo t n vs Q W dep wt bd i res B s l) := by
  unfold pvr at h
  refine w165_0 hB (by omega) s l (a_W.imp (m_look0 hB (by omega) hcap i hA) ?_)
  rintro _ ⟨s1, l1, f1, ⟨h0, rfl, hC⟩ | ⟨h0, rfl, hF⟩⟩
  rotate_left
  · rcases pLk_some h with ⟨-, rfl⟩ | ⟨c, -⟩
    · have p := hF.2.2.1
      have p2 := hF.2.1
      exact ⟨_, s1, l1, rfl, by decide, fun _ => ⟨fun c => absurd c (by omega), fun _ => ⟨s1, l1, rfl, f1.fp Q W wt bd, Or.inr ⟨_, _, rfl, hF⟩⟩⟩, fun c => absurd c (by decide)⟩
    · exact absurd c h0
  rcases pLk_some h with ⟨c, -⟩ | ⟨-, h⟩
  · exact absurd h0 c
  have hk := kd_rng h0
  have S1 := hS.m f1
  have c2 := hC.2.1
  have c4 := hC.2.2.2.1
  have F1 := f1.fp Q W wt bd
  have k4 : kM (kdT t n i) = 4 ↔ kdT t n i = 4 := kM_inj (b := 4) ⟨hk.1, hk.2.1⟩ (by decide)
  refine ⟨_, s1, l1, rfl, inR_kM ⟨hk.1, hk.2.1⟩, fun n4 => ⟨fun _ => ?_, fun c => absurd c (by omega)⟩, fun e4 => ⟨fun _ => ?_, fun c => absurd c (by omega)⟩⟩
  · have n4' : ¬ kdT t n i = 4 := fun e => n4 (k4.mpr e)
    rw [if_neg n4'] at h
    have e51 : zz s1 56 51 = (bd : Nat) := S1.2.2.2.2
    refine w165_37 hB (by omega) 0 s1 l1 ⟨⟨by omega, by omega⟩, ?_⟩
    rw [e51, natc, c4]
    have f2 : FP Q W wt bd s1 (zu s1 90 bd (i : Int)) l1 l1 := FP.z90 _ _ _ _ _ _ 90 _ _ (Or.inl rfl) (Nat.le_refl _)
    have S2 : MS Q W dep wt bd (zu s1 90 bd (i : Int)) := S1.zk 90 _ _ (by decide)
    have hC2 : MC t n vs (i + 1) i (zu s1 90 bd (i : Int)) l1 := hC.kp (KpT.zk _ _ _ _ (by decide))
    have e90 : zz (zu s1 90 bd (i : Int)) 90 bd = (i : Int) := zz_same _ _ _ ⟨by omega, by omega⟩
    generalize (zu s1 90 bd (i : Int)) = s2 at *
    have hn := m_need hB (d := d - 1) (by omega) hcap i 1 (by decide) ⟨Or.inr hC2, hA.2⟩
    rw [show kM 1 = 1 by decide] at hn
    refine a_W.imp hn ?_
    have fin : ∀ (f : Int) (j : Nat) (s5 : aZ) (l5 : aZL), res = .inl (f, j) → FrM s2 s5 l1 l5 → MF t n f (stT t n j) (nsT t n vs (j + 1)) s5 l5 → ∃ (s2 : Nat → Nat → Int32) (l3 : Nat → Nat → Int64), (((.inl none, mkH B s5 l5) : aR) = (.inl none, mkH B s2 l3)) ∧ ((0 ≤ (zz s2 56 51) ∧ (zz s2 56 51) < 6002) ∧ (inR 0 ∧ (((0 : Int) = 0 → a_W d 165 86 [.ref 56, iv 0] [] (mkH B (zu (zu s2 91 (zz s2 56 51).toNat (-1)) 56 51 ((zz s2 56 51) + 1)) l3) (MVo t n vs Q W dep wt bd i res B s l)))) ) := by
      rintro f j s5 l5 rfl g5 hF
      have e5 : zz s5 56 51 = (bd : Nat) := (S2.m g5).2.2.2.2
      refine ⟨s5, l5, rfl, ⟨by omega, by omega⟩, by decide, fun _ => w165_86 hB _ _ l5 ?_⟩
      rw [e5, natc]
      exact ⟨_, l5, rfl, F1.tr (f2.tr ((g5.fp Q W wt bd).tr ((FP.z90 _ _ _ _ _ _ 91 _ _ (Or.inr rfl) (Nat.le_refl _)).tr (FP.z56 _ _ _ _ _ _ 51 _ (by decide)) FPr) FPr) FPr) FPr, Or.inr ⟨f, j, rfl, (hF.kp (KpT.zk _ _ _ _ (by decide))).kp (KpT.z56 _ _ _ (by decide))⟩⟩
    rintro _ ⟨s5, l5, rfl, ⟨m1, m2, m3, s6, m4, m5⟩ | ⟨m1, m2, m3, m4⟩ | ⟨m1, m3, m4⟩⟩
    · rw [if_pos m2] at h
      cases h
      obtain ⟨a1, a2⟩ := lt_nx h0 (by omega)
      have f5 : FP Q W wt bd s2 s5 l1 l5 := by rw [m5]; exact (m4.fp Q W wt bd).tr (FP.z56 _ _ _ _ _ _ 31 _ (by decide)) FPr
      have S5 : MS Q W dep wt bd s5 := by rw [m5]; exact (S2.m m4).z56 31 _ (by decide)
      have g90 : zz s5 90 bd = (i : Int) := by
        rw [m5, zz_ne _ _ _ _ _ _ (by omega)]
        exact (zz_of (m4.1 90 (by decide) (by decide) (by decide) (by decide)) bd).trans e90
      have e5 : zz s5 56 51 = (bd : Nat) := S5.2.2.2.2
      refine ⟨s5, l5, rfl, ⟨by omega, by omega⟩, by decide, fun _ => w165_86 hB _ _ l5 ?_, fun c => absurd rfl c⟩
      rw [e5, natc]
      refine ⟨_, l5, rfl, F1.tr (f2.tr (f5.tr ((FP.z90 _ _ _ _ _ _ 91 _ _ (Or.inr rfl) (Nat.le_refl _)).tr (FP.z56 _ _ _ _ _ _ 51 _ (by decide)) FPr) FPr) FPr) FPr, Or.inl ⟨noT, i + 1, W, rfl, ⟨Or.inl ((m3.kp (KpT.zk _ _ _ _ (by decide))).kp (KpT.z56 _ _ _ (by decide))), lt_all hA.2 a1⟩, ⟨?_, ?_, ?_, ?_, ?_⟩, ⟨Nat.le_refl _, by omega⟩, ?_, Or.inl ⟨rfl, ?_⟩, LgJ.nil _ _ _⟩⟩
      · rw [zz_ne _ _ _ _ _ _ (by omega), zz_ne _ _ _ _ _ _ (by omega)]; exact S5.1
      · rw [zz_ne _ _ _ _ _ _ (by omega), zz_ne _ _ _ _ _ _ (by omega)]; exact S5.2.1
      · rw [zz_ne _ _ _ _ _ _ (by omega), zz_ne _ _ _ _ _ _ (by omega)]; exact S5.2.2.1
      · rw [zz_ne _ _ _ _ _ _ (by omega), zz_ne _ _ _ _ _ _ (by omega)]; exact S5.2.2.2.1
      · rw [zz_same _ _ _ ⟨by omega, by omega⟩]; omega
      · rw [zz_ne _ _ _ _ _ _ (by omega), zz_ne _ _ _ _ _ _ (by omega), g90]
        unfold vtk
        rw [if_neg n4']
      · rw [zz_ne _ _ _ _ _ _ (by omega), zz_same _ _ _ (by decide)]
    · rw [if_neg m2] at h
      cases h
      obtain ⟨sa, la, e1, e2, e3, e4⟩ := fin 2 i s5 l5 rfl m4 m3
      exact ⟨sa, la, e1, e2, e3, e4, fun c => absurd rfl c⟩
    · exact absurd h0 m1
  · have e4' := k4.mp e4
    rw [if_pos e4'] at h
    obtain ⟨a1, a2⟩ := lt_nx h0 (by omega)
    rw [c4, show (i : Int) + 1 = ((i + 1 : Nat) : Int) by omega]
    have hC1 : MC t n vs (i + 1) (i + 1) (zu s1 56 31 ((i + 1 : Nat) : Int)) l1 := hC.now (i2 := i + 1) (by omega)
    have f1b : FP Q W wt bd s1 (zu s1 56 31 ((i + 1 : Nat) : Int)) l1 l1 := FP.z56 _ _ _ _ _ _ 31 _ (by decide)
    have S1b : MS Q W dep wt bd (zu s1 56 31 ((i + 1 : Nat) : Int)) := S1.z56 31 _ (by decide)
    generalize (zu s1 56 31 ((i + 1 : Nat) : Int)) = s1' at *
    have F1' := F1.tr f1b FPr
    have d4 := hC1.2.2.2.1
    have e51 : zz s1' 56 51 = (bd : Nat) := S1b.2.2.2.2
    refine w165_37 hB (by omega) 1 s1' l1 ⟨⟨by omega, by omega⟩, ?_⟩
    rw [e51, natc, d4]
    have f2 : FP Q W wt bd s1' (zu s1' 90 bd ((i + 1 : Nat) : Int)) l1 l1 := FP.z90 _ _ _ _ _ _ 90 _ _ (Or.inl rfl) (Nat.le_refl _)
    have S2 : MS Q W dep wt bd (zu s1' 90 bd ((i + 1 : Nat) : Int)) := S1b.zk 90 _ _ (by decide)
    have hC2 : MC t n vs (i + 1) (i + 1) (zu s1' 90 bd ((i + 1 : Nat) : Int)) l1 := hC1.kp (KpT.zk _ _ _ _ (by decide))
    have e90 : zz (zu s1' 90 bd ((i + 1 : Nat) : Int)) 90 bd = ((i + 1 : Nat) : Int) := zz_same _ _ _ ⟨by omega, by omega⟩
    generalize (zu s1' 90 bd ((i + 1 : Nat) : Int)) = s2 at *
    have F2 := F1'.tr f2 FPr
    have hn := m_need hB (d := d - 1) (by omega) hcap (i + 1) 1 (by decide) ⟨Or.inl hC2, lt_all hA.2 a1⟩
    rw [show kM 1 = 1 by decide] at hn
    refine a_W.imp hn ?_
    -- a fault before the colon
    have fin : ∀ (f : Int) (j : Nat) (s5 : aZ) (l5 : aZL), res = .inl (f, j) → FP Q W wt bd s s5 l l5 → zz s5 56 51 = (bd : Nat) → MF t n f (stT t n j) (nsT t n vs (j + 1)) s5 l5 → a_W d 165 86 [.ref 56, iv 1] [] (mkH B (zu (zu s5 91 bd (-1)) 56 51 ((bd : Int) + 1)) l5) (MVo t n vs Q W dep wt bd i res B s l) := by
      rintro f j s5 l5 rfl g5 e5 hF
      refine w165_86 hB _ _ l5 ?_
      exact ⟨_, l5, rfl, g5.tr ((FP.z90 _ _ _ _ _ _ 91 _ _ (Or.inr rfl) (Nat.le_refl _)).tr (FP.z56 _ _ _ _ _ _ 51 _ (by decide)) FPr) FPr, Or.inr ⟨f, j, rfl, (hF.kp (KpT.zk _ _ _ _ (by decide))).kp (KpT.z56 _ _ _ (by decide))⟩⟩
    rintro _ ⟨s5, l5, rfl, ⟨m1, m2, m3, s6, m4, m5⟩ | ⟨m1, m2, m3, m4⟩ | ⟨m1, m3, m4⟩⟩
    rotate_left
    · rcases pLk_some h with ⟨c, -⟩ | ⟨-, h⟩
      · exact absurd m1 c
      rw [if_neg m2] at h
      cases h
      have p := m3.2.2.1
      have e5 : zz s5 56 51 = (bd : Nat) := (S2.m m4).2.2.2.2
      refine ⟨s5, l5, rfl, ⟨by omega, by omega⟩, by decide, fun c => absurd c (by decide), fun _ => ⟨fun c => absurd c (by omega), fun _ => ?_⟩⟩
      rw [e5, natc]
      exact fin 2 (i + 1) s5 l5 rfl (F2.tr (m4.fp Q W wt bd) FPr) e5 m3
    · rcases pLk_some h with ⟨-, e⟩ | ⟨c, -⟩
      · have p := m3.2.2.1
        have p2 := m3.2.1
        have e5 : zz s5 56 51 = (bd : Nat) := (S2.m m4).2.2.2.2
        refine ⟨s5, l5, rfl, ⟨by omega, by omega⟩, by decide, fun c => absurd c (by decide), fun _ => ⟨fun c => absurd c (by omega), fun _ => ?_⟩⟩
        rw [e5, natc]
        exact fin _ (i + 1) s5 l5 e (F2.tr (m4.fp Q W wt bd) FPr) e5 m3
      · exact absurd c m1
    rcases pLk_some h with ⟨c, -⟩ | ⟨-, h⟩
    · exact absurd m1 c
    rw [if_pos m2] at h
    obtain ⟨b1, b2⟩ := lt_nx m1 (by omega)
    have f5 : FP Q W wt bd s2 s5 l1 l5 := by rw [m5]; exact (m4.fp Q W wt bd).tr (FP.z56 _ _ _ _ _ _ 31 _ (by decide)) FPr
    have S5 : MS Q W dep wt bd s5 := by rw [m5]; exact (S2.m m4).z56 31 _ (by decide)
    have g90 : zz s5 90 bd = ((i + 1 : Nat) : Int) := by
      rw [m5, zz_ne _ _ _ _ _ _ (by omega)]
      exact (zz_of (m4.1 90 (by decide) (by decide) (by decide) (by decide)) bd).trans e90
    have e5 : zz s5 56 51 = (bd : Nat) := S5.2.2.2.2
    have e22 := m3.2.1
    refine ⟨s5, l5, rfl, ⟨by omega, by omega⟩, by decide, fun c => absurd c (by decide), fun _ => ⟨fun _ => ?_, fun c => absurd c (by omega)⟩⟩
    rw [e5, natc]
    have f6 : FP Q W wt bd s5 (zu (zu s5 91 bd (-1)) 56 51 ((bd : Int) + 1)) l5 l5 := (FP.z90 _ _ _ _ _ _ 91 _ _ (Or.inr rfl) (Nat.le_refl _)).tr (FP.z56 _ _ _ _ _ _ 51 _ (by decide)) FPr
    have S6 : MS Q W dep wt (bd + 1) (zu (zu s5 91 bd (-1)) 56 51 ((bd : Int) + 1)) := by
      refine ⟨?_, ?_, ?_, ?_, ?_⟩
      · rw [zz_ne _ _ _ _ _ _ (by omega), zz_ne _ _ _ _ _ _ (by omega)]; exact S5.1
      · rw [zz_ne _ _ _ _ _ _ (by omega), zz_ne _ _ _ _ _ _ (by omega)]; exact S5.2.1
      · rw [zz_ne _ _ _ _ _ _ (by omega), zz_ne _ _ _ _ _ _ (by omega)]; exact S5.2.2.1
      · rw [zz_ne _ _ _ _ _ _ (by omega), zz_ne _ _ _ _ _ _ (by omega)]; exact S5.2.2.2.1
      · rw [zz_same _ _ _ ⟨by omega, by omega⟩]; omega
    have hC6 : MC t n vs (i + 2) (i + 2) (zu (zu s5 91 bd (-1)) 56 51 ((bd : Int) + 1)) l5 := (m3.kp (KpT.zk _ _ _ _ (by decide))).kp (KpT.z56 _ _ _ (by decide))
    have h90 : zz (zu (zu s5 91 bd (-1)) 56 51 ((bd : Int) + 1)) 90 bd = ((i + 1 : Nat) : Int) := by rw [zz_ne _ _ _ _ _ _ (by omega), zz_ne _ _ _ _ _ _ (by omega)]; exact g90
    generalize (zu (zu s5 91 bd (-1)) 56 51 ((bd : Int) + 1)) = s6' at *
    have F6 := F2.tr (f5.tr f6 FPr) FPr
    have hl2 := lt_all (lt_all hA.2 a1) b1
    have hn2 := m_need hB (d := d - 1) (by omega) hcap (i + 2) 6 (by decide) ⟨Or.inl hC6, hl2⟩
    rw [show kM 6 = 7 by decide] at hn2
    refine a_W.imp hn2 ?_
    -- behind the colon: what a fault comes to
    have fin2 : ∀ (f : Int) (j : Nat) (s8 s9 : aZ) (l9 : aZL) (v : Int), res = .inl (f, j) → FP Q W wt bd s s9 l l9 → MF t n f (stT t n j) (nsT t n vs (j + 1)) s9 l9 → a_W (d - 1) 166 0 [.ref 56, iv 5] [] (mkH B (zu s9 91 bd v) l9) (fun r => ∃ (s15 : Nat → Nat → Int32) (l16 : Nat → Nat → Int64), r = (.inl none, mkH B s15 l16) ∧ MVo t n vs Q W dep wt bd i res B s l (.inl none, (mkH B s15 l16))) := by
      rintro f j s8 s9 l9 v rfl g9 hF
      refine a_W.imp (m_need_f hB (by omega) (hF.kp (KpT.zk s9 91 bd v (by decide))) 5 (by decide)) ?_
      rintro _ rfl
      exact ⟨_, l9, rfl, _, l9, rfl, g9.tr (FP.z90 _ _ _ _ _ _ 91 _ _ (Or.inr rfl) (Nat.le_refl _)) FPr, Or.inr ⟨f, j, rfl, hF.kp (KpT.zk _ _ _ _ (by decide))⟩⟩
    rintro _ ⟨s7, l7, rfl, ⟨p1, p2, p3, s8, p4, p5⟩ | ⟨p1, p2, p3, p4⟩ | ⟨p1, p3, p4⟩⟩
    rotate_left
    · rcases pLk_some h with ⟨c, -⟩ | ⟨-, h⟩
      · exact absurd p1 c
      rw [if_neg p2] at h
      cases h
      have p := p3.2.2.1
      have e7 : zz s7 56 51 = ((bd + 1 : Nat) : Int) := (S6.m p4).2.2.2.2
      refine ⟨s7, l7, rfl, fun c => absurd c (by omega), fun _ => ⟨⟨by omega, by omega⟩, ?_⟩⟩
      rw [show (zz s7 56 51 - 1).toNat = bd by omega]
      exact fin2 2 (i + 2) s7 s7 l7 (-1) rfl (F6.tr (p4.fp Q W wt bd) FPr) p3
    · rcases pLk_some h with ⟨-, e⟩ | ⟨c, -⟩
      · have p := p3.2.2.1
        have p2 := p3.2.1
        have e7 : zz s7 56 51 = ((bd + 1 : Nat) : Int) := (S6.m p4).2.2.2.2
        refine ⟨s7, l7, rfl, fun c => absurd c (by omega), fun _ => ⟨⟨by omega, by omega⟩, ?_⟩⟩
        rw [show (zz s7 56 51 - 1).toNat = bd by omega]
        exact fin2 _ (i + 2) s7 s7 l7 (-1) e (F6.tr (p4.fp Q W wt bd) FPr) p3
      · exact absurd c p1
    rcases pLk_some h with ⟨c, -⟩ | ⟨-, h⟩
    · exact absurd p1 c
    rw [if_pos p2] at h
    obtain ⟨d1, d2⟩ := lt_nx p1 (by omega)
    have f7 : FP Q W wt bd s6' s7 l5 l7 := by rw [p5]; exact (p4.fp Q W wt bd).tr (FP.z56 _ _ _ _ _ _ 31 _ (by decide)) FPr
    have S7 : MS Q W dep wt (bd + 1) s7 := by rw [p5]; exact (S6.m p4).z56 31 _ (by decide)
    have i90 : zz s7 90 bd = ((i + 1 : Nat) : Int) := by
      rw [p5, zz_ne _ _ _ _ _ _ (by omega)]
      exact (zz_of (p4.1 90 (by decide) (by decide) (by decide) (by decide)) bd).trans h90
    have F7 := F6.tr f7 FPr
    have e7 : zz s7 56 51 = ((bd + 1 : Nat) : Int) := S7.2.2.2.2
    have z7 := p3.2.1
    have hA7 : MAt t n vs (i + 3) s7 l7 := ⟨Or.inl p3, lt_all hl2 d1⟩
    refine ⟨s7, l7, rfl, fun _ => ?_, fun c => absurd c (by omega)⟩
    rcases pBd_some h with ⟨e, r1, e2⟩ | ⟨Ty, k, r1, r2⟩
    · refine a_W.imp ((m_types hB hcap N).1 (d - 1) dep 0 (i + 3) W s7 l7 _ (by omega) hdep r1 hA7 S7.2.2.1 S7.2.1 (by omega)) ?_
      rintro _ ⟨s9, l9, y, rfl, f9, g9, y9, ⟨T, j3, W4, hh, -⟩ | ⟨f, j3, hh, hF⟩⟩
      · cases hh
      · cases hh
        refine ⟨_, s9, l9, rfl, ⟨by omega, by omega⟩, ?_⟩
        rw [show (zz s7 56 51 - 1).toNat = bd by omega]
        exact fin2 f j3 s9 s9 l9 _ e2 (F7.tr (f9.fp g9 Q wt bd) FPr) hF
    · have r3 := (pty_le t n N 0 dep (i + 3) _ (by decide) (fun c => absurd c (by decide)) (by omega) r1).1 Ty k rfl
      have r4 := pty0_ft t n N dep (i + 3) Ty k r1
      refine a_W.imp ((m_types hB hcap N).1 (d - 1) dep 0 (i + 3) W s7 l7 _ (by omega) hdep r1 hA7 S7.2.2.1 S7.2.1 (by omega)) ?_
      rintro _ ⟨s9, l9, y, rfl, f9, g9, y9, ⟨T, j3, W4, hh, hA9, q32, q33, qW, hT⟩ | ⟨f, j3, hh, -⟩⟩
      rotate_left
      · cases hh
      cases hh
      refine ⟨_, s9, l9, rfl, ⟨by omega, by omega⟩, ?_⟩
      rw [show (zz s7 56 51 - 1).toNat = bd by omega]
      have F9 := F7.tr (f9.fp g9 Q wt bd) FPr
      have S9 : MS Q W4 dep wt (bd + 1) s9 := ⟨(f9.2.1 41 (by decide)).trans S7.1, q33, q32, (f9.2.1 48 (by decide)).trans S7.2.2.2.1, (f9.2.1 51 (by decide)).trans S7.2.2.2.2⟩
      have j90 : zz s9 90 bd = ((i + 1 : Nat) : Int) := (zz_of (f9.1 90 (by decide) (by decide) (by decide) (by decide) (by decide)) bd).trans i90
      have F10 := F9.tr (FP.z90 Q W wt bd s9 l9 91 bd (y : Int) (Or.inr rfl) (Nat.le_refl _)) FPr
      have S10 : MS Q W4 dep wt (bd + 1) (zu s9 91 bd (y : Int)) := S9.zk 91 _ _ (by decide)
      have hA10 : MAt t n vs k (zu s9 91 bd (y : Int)) l9 := hA9.kp (KpT.zk _ _ _ _ (by decide))
      have k90 : zz (zu s9 91 bd (y : Int)) 90 bd = ((i + 1 : Nat) : Int) := by rw [zz_ne _ _ _ _ _ _ (by omega)]; exact j90
      have k91 : zz (zu s9 91 bd (y : Int)) 91 bd = (y : Int) := zz_same _ _ _ ⟨by omega, by omega⟩
      have hT10 : WI (zu s9 91 bd (y : Int)) (vT t n vs) Ty false W W4 y := (WI.keep Ty).1 W W4 y hT (fun k j h1 h2 _ _ _ => zz_ne _ _ _ _ _ _ (by omega))
      generalize (zu s9 91 bd (y : Int)) = s10 at *
      have hn3 := m_need hB (d := d - 1) (by omega) hcap k 5 (by decide) hA10
      rw [show kM 5 = 5 by decide] at hn3
      refine a_W.imp hn3 ?_
      rintro _ ⟨sa, la, rfl, ⟨o1, o2, o3, sb, o4, o5⟩ | ⟨o1, o2, o3, o4⟩ | ⟨o1, o3, o4⟩⟩
      · rw [if_pos o2] at r2
        cases r2
        obtain ⟨g1, g2⟩ := lt_nx r4 (by omega)
        have fa : FP Q W4 wt (bd + 1) s10 sa l9 la := by rw [o5]; exact (o4.fp Q W4 wt (bd + 1)).tr (FP.z56 _ _ _ _ _ _ 31 _ (by decide)) FPr
        have Sa : MS Q W4 dep wt (bd + 1) sa := by rw [o5]; exact (S10.m o4).z56 31 _ (by decide)
        have ia := fa.2.2.2.2 bd (by omega)
        have hTa : WI sa (vT t n vs) Ty false W W4 y := (WI.keep Ty).1 W W4 y hT10 (fun k j h1 h2 _ h4 _ => fa.2.2.1 k h1 h2 j h4)
        refine ⟨sa, la, rfl, sa, la, rfl, F10.tr fa ⟨Nat.le_refl _, by omega, Nat.le_refl _, by omega⟩, Or.inl ⟨Ty, k + 1, W4, rfl, ⟨Or.inl o3, lt_all hA9.2 g1⟩, Sa, ⟨by omega, by omega⟩, ?_, Or.inr ?_, LgJ.of hTa qW.2⟩⟩
        · rw [ia.1, k90]
          unfold vtk
          rw [if_pos e4']
        · rw [ia.2, k91]
          exact (WI.mono Ty).1 W W4 0 W4 _ hTa (Nat.zero_le _) (Nat.le_refl _)
      · rw [if_neg o2] at r2
        cases r2
        exact ⟨sa, la, rfl, sa, la, rfl, F10.tr (o4.fp Q W wt bd) FPr, Or.inr ⟨2, k, rfl, o3⟩⟩
      · exact absurd r4 o1
end
