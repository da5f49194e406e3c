/-! THE REFERENCE READS TERMS AS THEY PARSE: operands, operators -/
section
variable {B : aH} {t : Nat → Int} {n : Nat} {vs : List (List Int)}
theorem resM_inl (f : aT → aT) (e : Int × Nat) : resM f (.inl e) = .inl e := rfl
/-- ~ in front -/
theorem m_oploop (hB : a_Can B) (hcap : MCap t n vs) (dep wt bd Q W K : Nat) (hdep : dep ≤ 40) (s0 : aZ) (l0 : aZL) : ∀ (N : Nat), (∀ M, M < N → MB4 B t n vs M ∧ MB0 B t n vs M) → ∀ (d i c : Nat) (s : aZ) (l : aZL) (res : (Int × Nat) ⊕ (aT × Nat)), 159 + 5 * (40 - dep) ≤ d → ptm t n N 2 dep [] noT i = some res → i ≤ 6000 → MAt t n vs i s l → MS Q W dep wt bd s → Q + 2 * c + K ≤ 3 * i → W ≤ i → 2 * wt ≤ i → bd ≤ i → c ≤ i → FP Q W wt bd s0 s l0 l → a_W d 147 2 [.ref 56, iv (c : Int), .retAddr 0, .retAddr 0, .retAddr 0] [] (mkH B s l) (MTo t n vs Q W dep wt bd K (resM (ntN c) res) B s0 l0) := by
  intro N
  induction N with
  | zero => intro _ d i c s l res _ h; exact absurd (show (none : aPr) = some res from h) (by intro h; cases h)
  | succ N ih =>
    intro hM d i c s l res hd h hi hA hS hQ hW hwt hbd hc hf
    have ih := ih (fun M h => hM M (by omega))
    have hi6 := hi
    rw [ptm_2] at h
    refine w147_2 hB (by omega) _ s l (a_W.imp (m_look0 hB (by omega) hcap i hA) ?_)
    rintro _ ⟨s1, l1, f1, ⟨h0, rfl, hC⟩ | ⟨h0, rfl, hF⟩⟩
    rotate_left
    · rcases pLk_some h with ⟨-, rfl⟩ | ⟨c, -⟩
      · have p := hF.2.2.1
        have p2 := hF.2.1
        refine ⟨_, s1, l1, rfl, by decide, fun _ => w147_35 hB (by omega) _ s1 l1 (a_W.imp (m_look_f hB (by omega) hF 0 (by decide)) ?_), fun c => absurd c (by decide)⟩
        rintro _ rfl
        exact ⟨_, s1, l1, rfl, fun c => absurd c (by omega), fun _ => MTo.f (p := 0) (hf.tr (f1.fp Q W wt bd) FPr) (by decide) hF⟩
      · exact absurd c h0
    rcases pLk_some h with ⟨c, -⟩ | ⟨-, h⟩
    · exact absurd h0 c
    have hk := kd_rng h0
    have S1 := hS.m f1
    have c2 := hC.2.1
    have c4 := hC.2.2.2.1
    have F1 := hf.tr (f1.fp Q W wt bd) FPr
    have k13 : kM (kdT t n i) = 12 ↔ kdT t n i = 13 := kM_inj (b := 13) ⟨hk.1, hk.2.1⟩ (by decide)
    refine ⟨_, s1, l1, rfl, inR_kM ⟨hk.1, hk.2.1⟩, fun n13 => ?_, fun e13 => ⟨fun c => absurd c2 c, fun _ => ?_⟩⟩
    rotate_left
    · have e13' := k13.mp e13
      rw [if_pos e13'] at h
      obtain ⟨a1, a2⟩ := lt_nx h0 (by omega)
      obtain ⟨q, hq, rfl⟩ := pBd_resM (g := fun a => apT (sgT 13) a) h
      rw [resM_nt, c4, show (i : Int) + 1 = ((i + 1 : Nat) : Int) by omega, show (c : Int) + 1 = ((c + 1 : Nat) : Int) by omega]
      exact ih d (i + 1) (c + 1) _ l1 q hd hq (by omega) ⟨Or.inl (hC.now (i2 := i + 1) (by omega)), lt_all hA.2 a1⟩ (S1.z56 31 _ (by decide)) (by omega) (by omega) (by omega) (by omega) (by omega) (F1.tr (FP.z56 _ _ _ _ _ _ 31 _ (by decide)) FPr)
    have n13' : ¬ kdT t n i = 13 := fun e => n13 (k13.mpr e)
    rw [if_neg n13'] at h
    refine w147_35 hB (by omega) _ s1 l1 (a_W.imp (m_look0 hB (by omega) hcap i ⟨Or.inr hC, hA.2⟩) ?_)
    rintro _ ⟨s2, l2, f2, ⟨-, rfl, hC2⟩ | ⟨c, -⟩⟩
    rotate_left
    · exact absurd h0 c
    have S2 := S1.m f2
    have d2 := hC2.2.1
    have d4 := hC2.2.2.2.1
    have F2 := F1.tr (f2.fp Q W wt bd) FPr
    have hA2 : MAt t n vs i s2 l2 := ⟨Or.inr hC2, hA.2⟩
    have fin : ∀ (x2 : Int) (r : (Int × Nat) ⊕ (aT × Nat)) (q : aR), MTo t n vs Q W dep wt bd (K + 2 * c) r B s2 l2 q → (∀ T j, r = .inr (T, j) → j ≤ 6000) → ∃ (v : Int) (s3 : aZ) (l3 : aZL), q = (.inl (some (iv v)), mkH B s3 l3) ∧ a_W d 147 78 [.ref 56, iv (c : Int), iv x2, iv v, iv 0] [] (mkH B s3 l3) (MTo t n vs Q W dep wt bd K (resM (ntN c) r) B s0 l0) := by
      rintro x2 r _ ⟨s3, l3, p, rfl, f3, hp, hh⟩ hj6
      refine ⟨_, s3, l3, rfl, ?_⟩
      rcases hh with ⟨T, j, Q3, W3, rfl, hA3, S3, b3, P3, L3⟩ | ⟨f, j, rfl, hF⟩
      · have j6 := hj6 T j rfl
        refine a_W.imp (m_nots hB (v := vT t n vs) (by omega) c (by omega) x2 l3 c 0 Q3 p T s3 (by omega) S3 hA3.z22 (by omega) P3 hp) ?_
        rintro _ ⟨s4, p4, rfl, S4, P4, q4, F4, K4⟩
        exact ⟨s4, l3, p4, rfl, F2.tr (f3.tr (F4 W wt bd) ⟨b3.1, Nat.le_refl _, Nat.le_refl _, Nat.le_refl _⟩) FPr, q4, Or.inl ⟨_, j, Q3 + 2 * c, W3, rfl, hA3.kp K4, S4, ⟨by omega, b3.2.1, by omega, b3.2.2.2⟩, P4, fun j a b c' => (lgA_nt c T).mpr (L3.keep (F4 W3 wt bd).2.2.1 j a b c')⟩⟩
      · have p1 := hF.2.2.1
        have p2 := hF.2.1
        have out : MTo t n vs Q W dep wt bd K (resM (ntN c) (.inl (f, j))) B s0 l0 (.inl (some (iv (p : Int))), mkH B s3 l3) := MTo.f (F2.tr f3 FPr) hp hF
        exact w147_78 hB (by omega) _ _ _ _ s3 l3 ⟨by decide, ⟨by omega, by omega⟩, fun _ => w147_109 hB _ _ _ _ s3 l3 out, fun _ => ⟨fun _ => w147_109 hB _ _ _ _ s3 l3 out, fun c => absurd c (by omega)⟩⟩
    have z59i : z59 (kdT t n i) ≠ 0 ↔ (8 ≤ kM (kdT t n i) ∧ kM (kdT t n i) ≤ 11) := by unfold z59 kM; omega
    -- atoms
    have atoms : ¬ (z59 (kdT t n i) ≠ 0) → a_W d 147 70 [.ref 56, iv (c : Int), iv (kM (kdT t n i)), .retAddr 0, .retAddr 0] [] (mkH B s2 l2) (MTo t n vs Q W dep wt bd K (resM (ntN c) res) B s0 l0) := by
      intro cz
      rw [if_neg cz] at h
      have hj6 : ∀ T j, res = .inr (T, j) → j ≤ 6000 := by
        rintro T j rfl
        rcases pBd_some h with ⟨e, -, q2⟩ | ⟨a, k, q1, q2⟩
        · cases q2
        · obtain ⟨k1, k2, k3, -, k5, -, -⟩ := ptm_R t n N 4 dep [] noT i _ (by decide) hi (I0D _ _ _ _ _ (by omega)) q1
          exact (ptm_R t n N 3 dep [] a k _ (by decide) k2 ⟨fun c => absurd c (by decide), fun _ => k5, fun c => absurd c (by decide)⟩ q2).2.1
      refine w147_70 hB (by omega) _ _ s2 l2 ?_
      refine a_W.imp ?_ (fun q hq => fin _ res q hq hj6)
      refine w176_0 hB (by omega) s2 l2 ?_
      rcases pBd_some h with ⟨e, q1, rfl⟩ | ⟨a, k, q1, q2⟩
      · refine a_W.imp ((hM N (by omega)).1 (d - 1 - 1) dep (K + 2 * c) i Q W wt bd s2 l2 _ (by omega) hdep q1 hi hA2 S2 (by omega) hW hwt hbd) ?_
        rintro _ ⟨s3, l3, p, rfl, f3, hp, ⟨T, j3, Q3, W3, hh, -⟩ | ⟨f, j3, hh, hF⟩⟩
        · cases hh
        · cases hh
          refine ⟨_, s3, l3, rfl, w176_5 hB (by omega) _ _ s3 l3 (a_W.imp (m_look_f hB (by omega) hF 0 (by decide)) ?_)⟩
          rintro _ rfl
          exact ⟨_, s3, l3, rfl, by decide, fun _ => w176_49 hB _ _ s3 l3 (MTo.f f3 hp hF), fun c => absurd rfl c⟩
      · obtain ⟨k1, k2, k3, -, k5, -, -⟩ := ptm_R t n N 4 dep [] noT i _ (by decide) hi (I0D _ _ _ _ _ (by omega)) q1
        have k3 : i < k := k3 (by decide) (by decide)
        have k2 : k ≤ 6000 := k2
        refine a_W.imp ((hM N (by omega)).1 (d - 1 - 1) dep (K + 2 * c) i Q W wt bd s2 l2 _ (by omega) hdep q1 hi hA2 S2 (by omega) hW hwt hbd) ?_
        rintro _ ⟨s3, l3, p, rfl, f3, hp, ⟨T, j3, Q3, W3, hh, hA3, S3, b3, P3, L3⟩ | ⟨f, j3, hh, -⟩⟩
        rotate_left
        · cases hh
        cases hh
        exact ⟨_, s3, l3, rfl, m_aloop hB hcap dep wt bd Q W (K + 2 * c) hdep s2 l2 N (fun M h => (hM M (by omega)).1) (d - 1) k Q3 W3 p a _ s3 l3 res (by omega) q2 k2 hA3 S3 P3 hp b3.2.2.1 b3.2.2.2 (by omega) (by omega) f3 ⟨b3.1, b3.2.1⟩ L3⟩
    refine ⟨_, s2, l2, rfl, fun _ => ⟨inR_kM ⟨hk.1, hk.2.1⟩, fun c8 => atoms (fun e => absurd (z59i.mp e) (by omega)), fun c8 => ⟨fun c11 => atoms (fun e => absurd (z59i.mp e) (by omega)), fun c11 => ?_⟩⟩, fun c => absurd c (by omega)⟩
    -- a binder
    have cz := z59i.mpr ⟨c8, c11⟩
    rw [if_pos cz] at h
    have hkz := z59_k cz
    obtain ⟨a1, a2⟩ := lt_nx h0 (by omega)
    have hl1 := lt_all hA.2 a1
    obtain ⟨k, ek⟩ : ∃ k : Nat, kdT t n i = k := ⟨(kdT t n i).toNat, by omega⟩
    rw [ek] at hkz h ⊢
    rw [natc] at h
    have hj6 : ∀ T j, res = .inr (T, j) → j ≤ 6000 := by
      rintro T j rfl
      rcases pLk_some h with ⟨-, e⟩ | ⟨-, h⟩
      · cases e
      by_cases d4 : 40 ≤ dep
      · rw [if_pos d4] at h; cases h
      rw [if_neg d4] at h
      exact (ptm_R t n N 5 (dep + 1) [] (sgT k) (i + 1) _ (by decide) (by omega) ⟨fun c => absurd c (by decide), fun c => by omega, fun _ => ⟨fun q hq => absurd hq List.not_mem_nil, by show 9 ≤ k; omega, by show k ≤ 12; omega⟩⟩ h).2.1
    refine a_W.imp ?_ (fun q hq => fin _ res q hq hj6)
    refine w163_0 hB (by omega) _ s2 l2 ?_
    rw [d4, show (i : Int) + 1 = ((i + 1 : Nat) : Int) by omega]
    have hC3 : MC t n vs (i + 1) (i + 1) (zu s2 56 31 ((i + 1 : Nat) : Int)) l2 := hC2.now (i2 := i + 1) (by omega)
    have f3 : FP Q W wt bd s2 (zu s2 56 31 ((i + 1 : Nat) : Int)) l2 l2 := FP.z56 _ _ _ _ _ _ 31 _ (by decide)
    have S3 : MS Q W dep wt bd (zu s2 56 31 ((i + 1 : Nat) : Int)) := S2.z56 31 _ (by decide)
    generalize (zu s2 56 31 ((i + 1 : Nat) : Int)) = s3 at *
    refine a_W.imp (m_enter hB (by omega) hcap (i + 1) dep hdep S3.2.2.1 ⟨Or.inl hC3, hl1⟩) ?_
    rintro _ ⟨s4, s5, l4, rfl, f4, hh⟩
    have F4 : FP Q W wt bd s2 s4 l2 l4 := f3.tr ((FP.z56 Q W wt bd s3 l2 32 ((dep : Int) + 1) (by decide)).tr (f4.fp Q W wt bd) FPr) FPr
    have g4 : ∀ j, j ≠ 32 → j ∉ [5, 22, 23, 25, 26] → zz s4 56 j = zz s3 56 j := fun j h1 h2 => (f4.2.1 j h2).trans (zz_ne _ _ _ _ _ _ (fun q => h1 q.2))
    have e51 : zz s4 56 51 = (bd : Nat) := (g4 51 (by decide) (by decide)).trans S3.2.2.2.2
    have kr := inR_kM (a := (k : Int)) ⟨by omega, by omega⟩
    have badF : ∀ (f : Int) (j : Nat) (s6 : aZ), res = .inl (f, j) → FP Q W wt bd s2 s6 l2 l4 → zz s6 56 51 = (bd : Nat) → MF t n f (stT t n j) (nsT t n vs (j + 1)) s6 l4 → a_W (d - 1) 163 21 [.ref 56, iv (kM (k : Int)), iv (zz s6 56 51), iv 1, .retAddr 0, .retAddr 0] [] (mkH B s6 l4) (MTo t n vs Q W dep wt bd (K + 2 * c) res B s2 l2) := by
      rintro f j s6 rfl g6 e6 hF
      have p1 := hF.2.2.1
      have p2 := hF.2.1
      rw [e6]
      refine w163_21 hB (by omega) _ _ 1 _ s6 l4 ⟨by decide, fun c => absurd c (by decide), fun _ => ⟨fun _ => w163_64 hB (by omega) _ _ _ _ s6 l4 (a_W.imp (m_need_f hB (by omega) hF 6 (by decide)) ?_), fun c => absurd c (by omega)⟩⟩
      rintro _ rfl
      exact ⟨s6, l4, rfl, fun c => absurd c (by omega), fun _ => m_dropF hB (by omega) Q W dep wt bd (K + 2 * c) j _ _ _ _ f s2 l2 l4 ⟨by omega, by omega⟩ (inR_zz _ _ _) 0 (by decide) _ _ (Nat.le_refl _) (hF.kp (KpT.z56 _ _ _ (by decide))) (g6.tr (FP.z56 _ _ _ _ _ _ 32 _ (by decide)) FPr)⟩
    rcases hh with ⟨h1, hd1, e, hC4⟩ | ⟨h1, hd1, e, hF⟩ | ⟨h1, e, hF⟩
    · rcases pLk_some h with ⟨c, -⟩ | ⟨-, h⟩
      · exact absurd h1 c
      rw [if_neg (by omega)] at h
      have S4 : MS Q W (dep + 1) wt bd s4 := ⟨(g4 41 (by decide) (by decide)).trans S3.1, (g4 33 (by decide) (by decide)).trans S3.2.1, (f4.2.1 32 (by decide)).trans ((zz_same _ _ _ ⟨by omega, by omega⟩).trans (by omega)), (g4 48 (by decide) (by decide)).trans S3.2.2.2.1, e51⟩
      refine ⟨s5, l4, rfl, ?_⟩
      rw [e, e51]
      exact m_vars hB hcap dep wt bd Q W (K + 2 * c) k hd1 ⟨by omega, by omega⟩ s2 l2 N (fun M h => (hM M (by omega)).2) (d - 1) (i + 1) W [] _ s4 l4 res (by omega) h (by omega) (fun q hq => absurd hq List.not_mem_nil) ⟨Or.inr hC4, hl1⟩ S4 trivial (by show Q + 3 * 0 + (K + 2 * c) + 3 ≤ 3 * (i + 1); omega) (Nat.le_refl _) (by omega) (by omega) (by show bd + 0 ≤ i + 1; omega) F4 (LgJ.nil _ _ _)
    · rcases pLk_some h with ⟨c, -⟩ | ⟨-, h⟩
      · exact absurd h1 c
      rw [if_pos (by omega)] at h
      cases h
      have ff : FP Q W wt bd s4 s5 l4 l4 := by rw [e]; exact (FP.z56 _ _ _ _ _ _ 22 _ (by decide)).tr (FP.z56 _ _ _ _ _ _ 23 _ (by decide)) FPr
      refine ⟨s5, l4, rfl, badF 8 (i + 1) s5 rfl (F4.tr ff FPr) ?_ hF⟩
      rw [e, zz_ne _ _ _ _ _ _ (by omega), zz_ne _ _ _ _ _ _ (by omega)]
      exact e51
    · rcases pLk_some h with ⟨-, e2⟩ | ⟨c, -⟩
      · refine ⟨s5, l4, rfl, ?_⟩
        rw [e]
        exact badF _ (i + 1) s4 e2 F4 e51 hF
      · exact absurd c h1
theorem m_b2 (hB : a_Can B) (hcap : MCap t n vs) (N : Nat) (hM : ∀ M, M < N → MB4 B t n vs M ∧ MB0 B t n vs M) : MB2 B t n vs N := by
  intro d dep K i Q W wt bd s l res hd hdep h hi hA hS hQ hW hwt hbd
  refine w147_0 hB s l ?_
  have := m_oploop hB hcap dep wt bd Q W K hdep s l N hM d i 0 s l res hd h hi hA hS (by omega) hW hwt hbd (Nat.zero_le _) (FP.rf _ _ _ _ _ _)
  rw [show resM (ntN 0) res = res by cases res <;> rfl] at this
  exact this
/-- operands with operators between -/
theorem m_loop (hB : a_Can B) (hcap : MCap t n vs) (dep wt bd Q0 W0 K : Nat) (hdep : dep ≤ 40) (s0 : aZ) (l0 : aZL) : ∀ (N : Nat), (∀ M, M < N → MB2 B t n vs M) → ∀ (d j Q W p : Nat) (st : aSt) (x : aT) (u4 : Value) (s : aZ) (l : aZL) (res : (Int × Nat) ⊕ (aT × Nat)), 160 + 5 * (40 - dep) ≤ d → ptm t n N 1 dep st x j = some res → j ≤ 6000 → StD t n j dep st → tmD t n j dep x → MAt t n vs j s l → MS Q W dep (wt + st.length) bd s → SK s (vT t n vs) W Q st (wt + st.length) → PH s (vT t n vs) W Q x p → p < 30100 → Q + 3 * st.length + K + 1 ≤ 3 * j → W ≤ j → 2 * (wt + st.length) + 1 ≤ j → bd ≤ j → FP Q0 W0 wt bd s0 s l0 l → Q0 ≤ Q ∧ W0 ≤ W → LgJ W0 W s (lgS st ∨ lgA x) → a_W d 146 12 [.ref 56, iv (wt : Int), iv (p : Int), iv 1, u4] [] (mkH B s l) (MTo t n vs Q0 W0 dep wt bd K res B s0 l0) := by
  intro N
  induction N using Nat.strongRecOn with
  | _ N ih =>
  intro hM d j Q W p st x u4 s l res hd h hj hSt hx hA hS hSK hP hp hQ hW hwt hbd hf hq hL
  cases N with
  | zero => exact absurd (show (none : aPr) = some res from h) (by intro h; cases h)
  | succ N =>
  rw [ptm_1] at h
  have h22 := hA.z22
  have hko : ∀ q ∈ st, 14 ≤ q.1 ∧ q.1 ≤ 22 := fun q hq => (hSt q hq).1
  refine w146_12 hB (by omega) _ _ 1 u4 s l ⟨by decide, fun c => absurd c (by decide), fun _ => ⟨fun c => absurd h22 c, fun _ => a_W.imp (m_look0 hB (by omega) hcap j hA) ?_⟩⟩
  rintro _ ⟨s1, l1, f1, ⟨h0, rfl, hC⟩ | ⟨h0, rfl, hF⟩⟩
  rotate_left
  · rcases pLk_some h with ⟨-, rfl⟩ | ⟨c, -⟩
    · have p1 := hF.2.2.1
      have p2 := hF.2.1
      exact ⟨_, s1, l1, rfl, by decide, fun _ => w146_49 hB _ _ _ _ s1 l1 (w146_12 hB (by omega) _ _ 0 _ s1 l1 ⟨by decide, fun _ => w146_176 hB (by omega) _ _ _ _ s1 l1 ⟨fun c => absurd c (by omega), fun _ => MTo.f (p := 0) (hf.tr (f1.fp Q0 W0 wt bd) FPr) (by decide) hF⟩, fun c => absurd rfl c⟩), fun c => absurd rfl c⟩
    · exact absurd c h0
  rcases pLk_some h with ⟨c, -⟩ | ⟨-, h⟩
  · exact absurd h0 c
  have hk := kd_rng h0
  have S1 := hS.m f1
  have c2 := hC.2.1
  have c4 := hC.2.2.2.1
  have F1 := hf.tr (f1.fp Q0 W0 wt bd) FPr
  have F1b := f1.fp Q W (wt + st.length) bd
  have K1 := SK.keep F1b.2.1 F1b.2.2.1 (Nat.le_refl _) (Nat.le_refl _) st _ F1b.2.2.2.1 hSK
  have P1 := PH.keep F1b.2.1 F1b.2.2.1 (Nat.le_refl _) (Nat.le_refl _) _ _ hP
  have L1 := hL.keep F1b.2.2.1
  have ez : z180 (kM (kdT t n j)) = 0 ↔ z96 (kdT t n j) = 0 := by unfold z180 kM z96; omega
  refine ⟨_, s1, l1, rfl, inR_kM ⟨hk.1, hk.2.1⟩, fun c => ?_, fun c => ⟨fun c => absurd c2 c, fun _ => ?_⟩⟩
  · rw [if_pos (ez.mp c)] at h
    cases h
    refine w146_49 hB _ _ _ _ s1 l1 (w146_12 hB (by omega) _ _ 0 _ s1 l1 ⟨by decide, fun _ => w146_176 hB (by omega) _ _ _ _ s1 l1 ⟨fun _ => ?_, fun c => absurd c (by omega)⟩, fun c => absurd rfl c⟩)
    have ms := m_settled hB (v := vT t n vs) (d := d - 1) (by omega) l1 (p : Int) 0 (Or.inl rfl) (wt0 := wt) st x p Q (.retAddr 0) s1 hko S1 (by omega) (by omega) K1 P1
    rw [show kM 0 = 0 by decide, show z96 0 = 0 by decide] at ms
    refine w181_0 hB _ _ _ s1 l1 (a_W.imp ms ?_)
    rintro _ ⟨s2, p2, Q2, rfl, S2, -, P2, F2, K2, q2, r2⟩
    have he : (stl 0 st x).1 = [] := stl_0 st x (fun q hq => by have := hko q hq; unfold z96; omega)
    rw [he] at S2 r2
    have S2 : MS Q2 W dep wt bd s2 := S2
    have r2 : Q2 + 3 * 0 = Q + 3 * st.length := r2
    have P2t := P2.top.1
    refine ⟨_, s2, l1, rfl, s2, l1, p2, rfl, F1.tr (F2 W0 wt bd) ⟨hq.1, Nat.le_refl _, Nat.le_refl _, Nat.le_refl _⟩, by omega, Or.inl ⟨_, j, Q2, W, rfl, MAt.kp (⟨Or.inr hC, hA.2⟩ : MAt t n vs j s1 l1) K2, S2, ⟨by omega, hq.2, by omega, hW⟩, P2, fun i a b c' => ?_⟩⟩
    have := (lgS_stl 0 st x).mpr (L1.keep (F2 W wt bd).2.2.1 i a b c')
    rw [he] at this
    exact this.elim (fun ⟨q, hq, _⟩ => absurd hq List.not_mem_nil) id
  · have cz : ¬ z96 (kdT t n j) = 0 := fun e => c (ez.mpr e)
    rw [if_neg cz] at h
    have hz := z96_k cz
    obtain ⟨a1, a2⟩ := lt_nx h0 (by omega)
    have ms := m_settled hB (v := vT t n vs) (d := d - 1) (by omega) l1 (p : Int) (kdT t n j) (Or.inr hz) (wt0 := wt) st x p Q (.retAddr 0) s1 hko S1 (by omega) (by omega) K1 P1
    refine w181_0 hB _ _ _ s1 l1 (a_W.imp ms ?_)
    obtain ⟨D1, D2⟩ := tmD.stl (z96 (kdT t n j)) st x hSt hx
    have hw := stl_w (z96 (kdT t n j)) st x
    have hlg := lgS_stl (z96 (kdT t n j)) st x
    have h5 : z96 (kdT t n j) = 5 → (stl 5 st x) = stl (z96 (kdT t n j)) st x := fun e => by rw [e]
    rintro _ ⟨s2, p2, Q2, rfl, S2, K2, P2, F2, T2, q2, r2⟩
    generalize hst' : stl (z96 (kdT t n j)) st x = sx at *
    obtain ⟨st', x'⟩ := sx
    have r2 : Q2 + 3 * st'.length = Q + 3 * st.length := r2
    have hA2 : MAt t n vs j s2 l1 := MAt.kp (⟨Or.inr hC, hA.2⟩ : MAt t n vs j s1 l1) T2
    have hC2 := hC.kp T2
    have e2 := hC2.2.1
    have e4 := hC2.2.2.2.1
    have e48 : zz s2 56 48 = ((wt + st'.length : Nat) : Int) := S2.2.2.2.1
    have FF : FP Q0 W0 wt bd s0 s2 l0 l1 := F1.tr (F2 W0 wt bd) ⟨hq.1, Nat.le_refl _, Nat.le_refl _, Nat.le_refl _⟩
    have L2 : LgJ W0 W s2 (lgS st' ∨ lgA x') := fun i a b c' => hlg.mpr (L1.keep (F2 W wt bd).2.2.1 i a b c')
    have hlen : st'.length ≤ st.length := hw.2.2.2
    have z24 : z182 (kM (kdT t n j)) = 24 ↔ z96 (kdT t n j) = 5 := by rw [kM_op hz]; unfold z182 z96; omega
    have pt := P2.top.1
    -- the operator waits, the next operand
    have push : ¬ (z96 (kdT t n j) = 5 ∧ top5 st' = true) → a_W d 146 118 [.ref 56, iv (wt : Int), iv (p2 : Int), iv 1, iv (kM (kdT t n j))] [] (mkH B s2 l1) (MTo t n vs Q0 W0 dep wt bd K res B s0 l0) := by
      intro c5
      rw [if_neg (fun e => c5 ⟨e.1, by have := e.2; rw [h5 e.1] at this; exact this⟩)] at h
      cases N with
      | zero => exact absurd (show (none : aPr) = some res from h) (by intro h; cases h)
      | succ N =>
      refine w146_118 hB (by omega) _ _ _ _ s2 l1 ⟨fun _ => ⟨⟨by omega, by omega⟩, ?_⟩, fun c => absurd c (by omega)⟩
      rw [e48, natc, e4]
      have f3 : ∀ Q W, FP Q W (wt + st'.length) bd s2 (zu (zu (zu (zu s2 88 (wt + st'.length) (kM (kdT t n j))) 89 (wt + st'.length) (p2 : Int)) 56 48 (((wt + st'.length : Nat) : Int) + 1)) 56 31 ((j : Int) + 1)) l1 l1 := fun Q W => (FP.z88 _ _ _ _ _ _ 88 _ _ (Or.inl rfl) (Nat.le_refl _)).tr ((FP.z88 _ _ _ _ _ _ 89 _ _ (Or.inr rfl) (Nat.le_refl _)).tr ((FP.z56 _ _ _ _ _ _ 48 _ (by decide)).tr (FP.z56 _ _ _ _ _ _ 31 _ (by decide)) FPr) FPr) FPr
      have S3 : MS Q2 W dep (wt + st'.length + 1) bd (zu (zu (zu (zu s2 88 (wt + st'.length) (kM (kdT t n j))) 89 (wt + st'.length) (p2 : Int)) 56 48 (((wt + st'.length : Nat) : Int) + 1)) 56 31 ((j : Int) + 1)) := by
        have z : ∀ i, i ≠ 48 → i ≠ 31 → zz (zu (zu (zu (zu s2 88 (wt + st'.length) (kM (kdT t n j))) 89 (wt + st'.length) (p2 : Int)) 56 48 (((wt + st'.length : Nat) : Int) + 1)) 56 31 ((j : Int) + 1)) 56 i = zz s2 56 i := fun i h1 h2 => by rw [zz_ne _ _ _ _ _ _ (by omega), zz_ne _ _ _ _ _ _ (by omega), zz_ne _ _ _ _ _ _ (by omega), zz_ne _ _ _ _ _ _ (by omega)]
        refine ⟨(z 41 (by decide) (by decide)).trans S2.1, (z 33 (by decide) (by decide)).trans S2.2.1, (z 32 (by decide) (by decide)).trans S2.2.2.1, ?_, (z 51 (by decide) (by decide)).trans S2.2.2.2.2⟩
        rw [zz_ne _ _ _ _ _ _ (by omega), zz_same _ _ _ ⟨by omega, by omega⟩]
        omega
      have hC3 : MC t n vs (j + 1) (j + 1) (zu (zu (zu (zu s2 88 (wt + st'.length) (kM (kdT t n j))) 89 (wt + st'.length) (p2 : Int)) 56 48 (((wt + st'.length : Nat) : Int) + 1)) 56 31 ((j : Int) + 1)) l1 := by
        have := (((hC2.kp (KpT.zk s2 88 (wt + st'.length) (kM (kdT t n j)) (by decide))).kp (KpT.zk _ 89 (wt + st'.length) (p2 : Int) (by decide))).kp (KpT.z56 _ 48 (((wt + st'.length : Nat) : Int) + 1) (by decide))).now (i2 := j + 1) (by omega)
        rw [show ((j + 1 : Nat) : Int) = (j : Int) + 1 by omega] at this
        exact this
      have i88 : zz (zu (zu (zu (zu s2 88 (wt + st'.length) (kM (kdT t n j))) 89 (wt + st'.length) (p2 : Int)) 56 48 (((wt + st'.length : Nat) : Int) + 1)) 56 31 ((j : Int) + 1)) 88 (wt + st'.length) = kM (kdT t n j) := by rw [zz_ne _ _ _ _ _ _ (by omega), zz_ne _ _ _ _ _ _ (by omega), zz_ne _ _ _ _ _ _ (by omega), zz_same _ _ _ (inR_kM ⟨hk.1, hk.2.1⟩)]
      have i89 : zz (zu (zu (zu (zu s2 88 (wt + st'.length) (kM (kdT t n j))) 89 (wt + st'.length) (p2 : Int)) 56 48 (((wt + st'.length : Nat) : Int) + 1)) 56 31 ((j : Int) + 1)) 89 (wt + st'.length) = (p2 : Int) := by rw [zz_ne _ _ _ _ _ _ (by omega), zz_ne _ _ _ _ _ _ (by omega), zz_same _ _ _ ⟨by omega, by omega⟩]
      generalize (zu (zu (zu (zu s2 88 (wt + st'.length) (kM (kdT t n j))) 89 (wt + st'.length) (p2 : Int)) 56 48 (((wt + st'.length : Nat) : Int) + 1)) 56 31 ((j : Int) + 1)) = s3 at *
      have F3 : FP Q0 W0 wt bd s0 s3 l0 l1 := FF.tr (f3 Q0 W0) ⟨Nat.le_refl _, Nat.le_refl _, by omega, Nat.le_refl _⟩
      have K3 : SK s3 (vT t n vs) W Q2 (((kdT t n j).toNat, x') :: st') (wt + st'.length + 1) := ⟨by rw [i88]; show _ = kM (((kdT t n j).toNat : Nat) : Int); rw [show (((kdT t n j).toNat : Nat) : Int) = kdT t n j by omega], ⟨p2, i89, PH.keep (f3 Q2 W).2.1 (f3 Q2 W).2.2.1 (Nat.le_refl _) (Nat.le_refl _) _ _ P2⟩, SK.keep (f3 Q2 W).2.1 (f3 Q2 W).2.2.1 (Nat.le_refl _) (Nat.le_refl _) st' _ (f3 Q2 W).2.2.2.1 K2⟩
      have L3 := L2.keep (f3 Q2 W).2.2.1
      have hA3 : MAt t n vs (j + 1) s3 l1 := ⟨Or.inl hC3, lt_all hA.2 a1⟩
      rw [ptm_0] at h
      have Ro : Q2 + (3 * (st'.length + 1) + K) ≤ 3 * (j + 1) := by omega
      have operand := hM (N + 1) (by omega)
      have e12 : ∀ (f : Int) (jj : Nat) (q' : aR), MTo t n vs Q2 W dep (wt + st'.length + 1) bd (3 * (st'.length + 1) + K) (.inl (f, jj)) B s3 l1 q' → ∃ (v5 : Int) (s4 : aZ) (l4 : aZL), q' = (.inl (some (iv v5)), mkH B s4 l4) ∧ a_W d 146 12 [.ref 56, iv (wt : Int), iv v5, iv 1, iv (kM (kdT t n j))] [] (mkH B s4 l4) (MTo t n vs Q0 W0 dep wt bd K (.inl (f, jj)) B s0 l0) := by
        rintro f jj _ ⟨s4, l4, p4, rfl, f4, hp4, ⟨T, j3, Q3, W3, hh, -⟩ | ⟨f', j3, hh, hF⟩⟩
        · cases hh
        · cases hh
          have p1 := hF.2.2.1
          have p2 := hF.2.1
          exact ⟨_, s4, l4, rfl, w146_12 hB (by omega) _ _ 1 _ s4 l4 ⟨by decide, fun c => absurd c (by decide), fun _ => ⟨fun _ => w146_176 hB (by omega) _ _ _ _ s4 l4 ⟨fun c => absurd c (by omega), fun _ => MTo.f (p := 0) (F3.tr f4 ⟨by omega, by omega, by omega, Nat.le_refl _⟩) (by decide) hF⟩, fun c => absurd c (by omega)⟩⟩⟩
      -- the operand is read with fuel N
      have opN : ∀ r, ptm t n N 2 dep [] noT (j + 1) = some r → a_W (d - 1) 147 0 [.ref 56, .retAddr 0, .retAddr 0, .retAddr 0, .retAddr 0] [] (mkH B s3 l1) (MTo t n vs Q2 W dep (wt + st'.length + 1) bd (3 * (st'.length + 1) + K) r B s3 l1) := fun r hr => hM N (by omega) (d - 1) dep (3 * (st'.length + 1) + K) (j + 1) Q2 W (wt + st'.length + 1) bd s3 l1 r (by omega) hdep hr (by omega) hA3 S3 Ro (by omega) (by omega) (by omega)
      rcases pLk_some h with ⟨cf, rfl⟩ | ⟨g0, h⟩
      · -- a fault at the next token
        refine w147_0 hB s3 l1 (w147_2 hB (by omega) _ s3 l1 (a_W.imp (m_look0 hB (by omega) hcap (j + 1) hA3) ?_))
        rintro _ ⟨s4, l4, f4, ⟨c, -⟩ | ⟨-, rfl, hF⟩⟩
        · exact absurd c cf
        have p1 := hF.2.2.1
        have p2 := hF.2.1
        refine ⟨_, s4, l4, rfl, by decide, fun _ => w147_35 hB (by omega) _ s4 l4 (a_W.imp (m_look_f hB (by omega) hF 0 (by decide)) ?_), fun c => absurd c (by decide)⟩
        rintro _ rfl
        refine ⟨_, s4, l4, rfl, fun c => absurd c (by omega), fun _ => e12 _ _ _ (MTo.f (p := 0) (f4.fp _ _ _ _) (by decide) hF)⟩
      rcases pBd_some h with ⟨e, q1, rfl⟩ | ⟨a, k, q1, q2'⟩
      · exact a_W.imp (opN _ q1) (fun q' hq' => e12 e.1 e.2 q' hq')
      · obtain ⟨k1, k2, k3, -, k5, -, -⟩ := ptm_R t n N 2 dep [] noT (j + 1) _ (by decide) (by omega) (I0D _ _ _ _ _ (by omega)) q1
        have k3 : j + 1 < k := k3 (by decide) (by decide)
        have k2 : k ≤ 6000 := k2
        have k5 : tmD t n k dep a := k5
        refine a_W.imp (opN _ q1) ?_
        rintro _ ⟨s4, l4, p4, rfl, f4, hp4, ⟨T, j3, Q3, W3, hh, hA4, S4, b4, P4, L4⟩ | ⟨f', j3, hh, -⟩⟩
        rotate_left
        · cases hh
        cases hh
        refine ⟨_, s4, l4, rfl, ih N (by omega) (fun M h => hM M (by omega)) d k Q3 W3 p4 (((kdT t n j).toNat, x') :: st') a _ s4 l4 res hd q2' k2 ?_ k5 hA4 S4 (SK.keep f4.2.1 f4.2.2.1 b4.1 b4.2.1 _ _ f4.2.2.2.1 K3) P4 hp4 (by rw [List.length_cons]; omega) b4.2.2.2 (by rw [List.length_cons]; omega) (by omega) (F3.tr f4 ⟨by omega, by omega, by omega, Nat.le_refl _⟩) ⟨by omega, by omega⟩ ?_⟩
        · intro q hq
          rcases List.mem_cons.mp hq with rfl | hq
          · exact ⟨⟨by show 14 ≤ (kdT t n j).toNat; omega, by show (kdT t n j).toNat ≤ 22; omega⟩, D2.mono (by omega)⟩
          · exact ⟨(D1 q hq).1, (D1 q hq).2.mono (by omega)⟩
        · refine LgJ.cat (L3.keep f4.2.2.1) L4 (fun e => Or.inl ?_) Or.inr
          rcases e with ⟨q, h1, h2⟩ | e
          · exact ⟨q, List.mem_cons_of_mem _ h1, h2⟩
          · exact ⟨_, List.mem_cons_self, e⟩
    refine ⟨_, s2, l1, rfl, ⟨by omega, by omega⟩, fun ce => push (fun e => ?_), fun ce => ⟨fun cn => push (fun e => cn (z24.mpr e.1)), fun c24 => ⟨⟨by omega, by omega⟩, fun cn => push (fun e => ?_), fun ct => ⟨⟨by omega, by omega⟩, fun _ => ?_, fun c => absurd c (by omega)⟩⟩⟩⟩
    · cases st' with
      | nil => exact absurd e.2 (by decide)
      | cons q st' => rw [e48, List.length_cons] at ce; omega
    · cases st' with
      | nil => exact absurd e.2 (by decide)
      | cons q st' =>
        obtain ⟨k88, -⟩ := (show SK s2 (vT t n vs) W Q2 (q :: st') (wt + st'.length + 1) from K2)
        have ho := (D1 q List.mem_cons_self).1
        rw [show (zz s2 56 48 - 1).toNat = wt + st'.length by rw [e48, List.length_cons]; omega, k88, kM_op ⟨by omega, by omega⟩] at cn
        have e5 : z96 (q.1 : Int) = 5 := of_decide_eq_true e.2
        apply cn
        revert e5
        unfold z182 z96
        omega
    · have ht : top5 st' = true := by
        cases st' with
        | nil => rw [e48] at ce; exact absurd (show (wt : Int) < ((wt + 0 : Nat) : Int) from ce) (by omega)
        | cons q st' =>
          obtain ⟨k88, -⟩ := (show SK s2 (vT t n vs) W Q2 (q :: st') (wt + st'.length + 1) from K2)
          have ho := (D1 q List.mem_cons_self).1
          rw [show (zz s2 56 48 - 1).toNat = wt + st'.length by rw [e48, List.length_cons]; omega, k88, kM_op ⟨by omega, by omega⟩] at ct
          apply decide_eq_true
          revert ct
          unfold z182 z96
          omega
      have z5 := z24.mp c24
      rw [if_pos ⟨z5, by rw [h5 z5]; exact ht⟩] at h
      cases h
      have e31 : (zz s2 56 31).toNat = j := by omega
      have tk := hC2.2.2.2.2.2.2.2.1 j (Nat.lt_succ_self _)
      have c72 := tk.2.2.1
      have r72 := inR_zz s2 72 j
      rw [e31, c72]
      rw [c72] at r72
      have hF := hC2.die (by omega) 2 _ (by decide) r72
      have p1 := hF.2.2.1
      exact w146_118 hB (by omega) _ _ _ _ _ l1 ⟨fun c => absurd c (by omega), fun _ => MTo.f (p := 0) (FF.tr ((FP.z56 _ _ _ _ _ _ 22 _ (by decide)).tr (FP.z56 _ _ _ _ _ _ 23 _ (by decide)) FPr) FPr) (by decide) hF⟩
theorem m_b0 (hB : a_Can B) (hcap : MCap t n vs) (N : Nat) (hM : ∀ M, M ≤ N → MB2 B t n vs M) : MB0 B t n vs (N + 1) := by
  intro d dep K i Q W wt bd s l res hd hdep h hi hA hS hQ hW hwt hbd
  rw [ptm_0] at h
  refine w146_0 hB (by omega) s l ?_
  have e48 : zz s 56 48 = (wt : Nat) := hS.2.2.2.1
  rw [e48]
  have e12 : ∀ (f : Int) (jj : Nat) (q' : aR), MTo t n vs Q W dep wt bd K (.inl (f, jj)) B s l q' → ∃ (v5 : Int) (s4 : aZ) (l4 : aZL), q' = (.inl (some (iv v5)), mkH B s4 l4) ∧ a_W d 146 12 [.ref 56, iv (wt : Int), iv v5, iv 1, .retAddr 0] [] (mkH B s4 l4) (MTo t n vs Q W dep wt bd K (.inl (f, jj)) B s l) := by
    rintro f jj _ ⟨s4, l4, p4, rfl, f4, hp4, ⟨T, j3, Q3, W3, hh, -⟩ | ⟨f', j3, hh, hF⟩⟩
    · cases hh
    · cases hh
      have p1 := hF.2.2.1
      have p2 := hF.2.1
      exact ⟨_, s4, l4, rfl, w146_12 hB (by omega) _ _ 1 _ s4 l4 ⟨by decide, fun c => absurd c (by decide), fun _ => ⟨fun _ => w146_176 hB (by omega) _ _ _ _ s4 l4 ⟨fun c => absurd c (by omega), fun _ => MTo.f (p := 0) f4 (by decide) hF⟩, fun c => absurd c (by omega)⟩⟩⟩
  rcases pLk_some h with ⟨cf, rfl⟩ | ⟨g0, h⟩
  · refine w147_0 hB s l (w147_2 hB (by omega) _ s l (a_W.imp (m_look0 hB (by omega) hcap i hA) ?_))
    rintro _ ⟨s4, l4, f4, ⟨c, -⟩ | ⟨-, rfl, hF⟩⟩
    · exact absurd c cf
    have p1 := hF.2.2.1
    have p2 := hF.2.1
    refine ⟨_, s4, l4, rfl, by decide, fun _ => w147_35 hB (by omega) _ s4 l4 (a_W.imp (m_look_f hB (by omega) hF 0 (by decide)) ?_), fun c => absurd c (by decide)⟩
    rintro _ rfl
    exact ⟨_, s4, l4, rfl, fun c => absurd c (by omega), fun _ => e12 _ _ _ (MTo.f (p := 0) (f4.fp _ _ _ _) (by decide) hF)⟩
  rcases pBd_some h with ⟨e, q1, rfl⟩ | ⟨a, k, q1, q2⟩
  · exact a_W.imp (hM N (Nat.le_refl _) (d - 1) dep K i Q W wt bd s l _ (by omega) hdep q1 hi hA hS hQ hW hwt hbd) (fun q' hq' => e12 e.1 e.2 q' hq')
  · obtain ⟨k1, k2, k3, -, k5, -, -⟩ := ptm_R t n N 2 dep [] noT i _ (by decide) hi (I0D _ _ _ _ _ (by omega)) q1
    have k3 : i < k := k3 (by decide) (by decide)
    have k2 : k ≤ 6000 := k2
    refine a_W.imp (hM N (Nat.le_refl _) (d - 1) dep K i Q W wt bd s l _ (by omega) hdep q1 hi hA hS hQ hW hwt hbd) ?_
    rintro _ ⟨s4, l4, p4, rfl, f4, hp4, ⟨T, j3, Q3, W3, hh, hA4, S4, b4, P4, L4⟩ | ⟨f', j3, hh, -⟩⟩
    rotate_left
    · cases hh
    cases hh
    exact ⟨_, s4, l4, rfl, m_loop hB hcap dep wt bd Q W K hdep s l N (fun M h => hM M (by omega)) d k Q3 W3 p4 [] a _ s4 l4 res hd q2 k2 (fun q hq => absurd hq List.not_mem_nil) k5 hA4 S4 trivial P4 hp4 b4.2.2.1 b4.2.2.2 (by show 2 * (wt + 0) + 1 ≤ k; omega) (by omega) f4 ⟨b4.1, b4.2.1⟩ (fun j a b c => Or.inr (L4 j a b c))⟩
/-- THE REFERENCE READS TERMS AS THEY PARSE -/
theorem m_terms (hB : a_Can B) (hcap : MCap t n vs) : ∀ N, MB0 B t n vs N ∧ MB2 B t n vs N ∧ MB4 B t n vs N := by
  intro N
  induction N using Nat.strongRecOn with
  | _ N ih =>
  refine ⟨?_, m_b2 hB hcap N (fun M h => ⟨(ih M h).2.2, (ih M h).1⟩), ?_⟩
  · cases N with
    | zero => intro d dep K i Q W wt bd s l res _ _ h; exact absurd (show (none : aPr) = some res from h) (by intro h; cases h)
    | succ N => exact m_b0 hB hcap N (fun M h => (ih M (by omega)).2.1)
  · cases N with
    | zero => intro d dep K i Q W wt bd s l res _ _ h; exact absurd (show (none : aPr) = some res from h) (by intro h; cases h)
    | succ N => exact m_b4 hB hcap N (ih N (by omega)).1
end
