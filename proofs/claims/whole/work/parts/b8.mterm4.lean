/-! THE REFERENCE READS TERMS AS THEY PARSE -/
section
variable {B : aH} {t : Nat → Int} {n : Nat} {vs : List (List Int)}
/-- behind a fault the variables are dropped -/
theorem m_dropF (hB : a_Can B) {d : Nat} (hd : 1 ≤ d) (Q W dep wt bd K j : Nat) (x1 x2 x3 x4 : Int) (f : Int) (s0 : aZ) (l0 l : aZL) (h2 : inR x2) (h4 : inR x4) (p : Nat) (hp : p < 30100) : ∀ (k : Nat) (s : aZ), (zz s 56 51 - x2).toNat ≤ k → MF t n f (stT t n j) (nsT t n vs (j + 1)) s l → FP Q W wt bd s0 s l0 l → a_W d 163 103 [.ref 56, iv x1, iv x2, iv x3, iv x4, iv (p : Int)] [] (mkH B s l) (MTo t n vs Q W dep wt bd K (.inl (f, j)) B s0 l0) := by
  intro k
  induction k with
  | zero =>
    intro s hk hF hf
    exact w163_103 hB (by omega) x1 x2 x3 x4 _ s l ⟨h2, fun _ => ⟨h4, fun _ => MTo.f (p := 0) hf (by decide) hF, fun _ => MTo.f hf hp hF⟩, fun c => absurd c (by omega)⟩
  | succ k ih =>
    intro s hk hF hf
    have p1 := hF.2.2.1
    have p2 := hF.2.1
    refine w163_103 hB (by omega) x1 x2 x3 x4 _ s l ⟨h2, fun _ => ⟨h4, fun _ => MTo.f (p := 0) hf (by decide) hF, fun _ => MTo.f hf hp hF⟩, fun c => ⟨fun q => absurd q (by omega), fun _ => ?_⟩⟩
    have r := inR_zz s 56 51
    refine ih _ ?_ (hF.kp (KpT.z56 _ _ _ (by decide))) (hf.tr (FP.z56 _ _ _ _ _ _ 51 _ (by decide)) FPr)
    rw [zz_same _ _ _ ⟨by omega, by omega⟩]
    omega
/-- the variables are bound, the innermost first -/
theorem m_bind (hB : a_Can B) {v : Nat → Int} {d : Nat} (hd : 4 ≤ d) (k : Nat) (hk : 9 ≤ k ∧ k ≤ 12) (b0 : Nat) (x3 x4 : Int) (h4 : inR x4) (h4b : (b0 : Int) < x4) (l : aZL) {W dep wt : Nat} : ∀ (us : aSt) (x : aT) (Q p : Nat) (s : aZ), MS Q W dep wt (b0 + us.length) s → zz s 56 22 = 0 → Q + 3 * us.length ≤ 30000 → b0 + us.length ≤ 6001 → (∀ q ∈ us, q.1 ≤ 6001) → BK s v W us (b0 + us.length) → PH s v W Q x p → p < 30100 → a_W d 163 103 [.ref 56, iv (kM (k : Int)), iv (b0 : Int), iv x3, iv x4, iv (p : Int)] [] (mkH B s l) (fun q => ∃ (s2 : aZ) (p2 Q2 : Nat), q = (.inl (some (iv (p2 : Int))), mkH B s2 l) ∧ MS Q2 W dep wt b0 s2 ∧ PH s2 v W Q2 (bdT k us x) p2 ∧ p2 < 30100 ∧ Q ≤ Q2 ∧ Q2 ≤ Q + 3 * us.length ∧ (∀ W wt bd, FP Q W wt bd s s2 l l) ∧ KpT s s2) := by
  intro us
  induction us with
  | nil =>
    intro x Q p s hS h22 hQ hb hu hK hP hp
    have e51 : zz s 56 51 = (b0 : Nat) := hS.2.2.2.2
    have hb : b0 ≤ 6001 := hb
    refine w163_103 hB (by omega) _ _ _ _ _ s l ⟨⟨by omega, by omega⟩, fun _ => ⟨h4, fun c => absurd c (by omega), fun _ => ⟨s, p, Q, rfl, hS, hP, hp, Nat.le_refl _, Nat.le_refl _, fun W wt bd => FP.rf _ _ _ _ _ _, KpT.rf s⟩⟩, fun c => absurd c (by omega)⟩
  | cons q us ih =>
    intro x Q p s hS h22 hQ hb hu hK hP hp
    have e51 : zz s 56 51 = ((b0 + us.length + 1 : Nat) : Int) := hS.2.2.2.2
    obtain ⟨h90, h91, hK⟩ := (show BK s v W (q :: us) (b0 + us.length + 1) from hK)
    rw [List.length_cons] at hQ hb
    have hq6 := hu q List.mem_cons_self
    have e1 : (zz s 56 51 - 1).toNat = b0 + us.length := by omega
    obtain ⟨p1, p2, p3⟩ := hP.top
    rw [natc] at p2 p3
    refine w163_103 hB (by omega) _ _ _ _ _ s l ⟨⟨by omega, by omega⟩, fun c => absurd c (by omega), fun _ => ⟨fun _ => ⟨⟨by omega, by omega⟩, ⟨by omega, by omega⟩, ?_⟩, fun c => absurd c (by omega)⟩⟩
    rw [e1, h90, natc, p2, p3, show zz s 56 51 - 1 = ((b0 + us.length : Nat) : Int) by omega]
    have f1 : ∀ W wt bd, FP Q W wt bd s (zu s 56 51 ((b0 + us.length : Nat) : Int)) l l := fun W wt bd => FP.z56 _ _ _ _ _ _ 51 _ (by decide)
    have K1 : KpT s (zu s 56 51 ((b0 + us.length : Nat) : Int)) := KpT.z56 _ _ _ (by decide)
    have S1 : MS Q W dep wt (b0 + us.length) (zu s 56 51 ((b0 + us.length : Nat) : Int)) := ⟨(zz_ne _ _ _ _ _ _ (by omega)).trans hS.1, (zz_ne _ _ _ _ _ _ (by omega)).trans hS.2.1, (zz_ne _ _ _ _ _ _ (by omega)).trans hS.2.2.1, (zz_ne _ _ _ _ _ _ (by omega)).trans hS.2.2.2.1, zz_same _ _ _ ⟨by omega, by omega⟩⟩
    generalize (zu s 56 51 ((b0 + us.length : Nat) : Int)) = s1 at *
    refine a_W.imp (m_part hB s1 l Q (by omega) S1.1 _ _ _ _ _ _ ⟨by omega, by omega⟩ ⟨by omega, by omega⟩) ?_
    rintro _ rfl
    obtain ⟨a1, a2, a3, a4, a5, a6, a7⟩ := nwT_at s1 Q 4 (q.1 : Int) (p : Int) (zz s 91 (b0 + us.length)) (min (1 + min (tmW x : Int) 100000) 100000) (min (1 + min (tmH x : Int) 100000) 100000) (by omega) (by decide) ⟨by omega, by omega⟩ ⟨by omega, by omega⟩ (inR_zz _ _ _) ⟨by omega, by omega⟩ ⟨by omega, by omega⟩
    have f2 : ∀ W wt bd, FP Q W wt bd s1 (nwT s1 Q 4 (q.1 : Int) (p : Int) (zz s 91 (b0 + us.length)) (min (1 + min (tmW x : Int) 100000) 100000) (min (1 + min (tmH x : Int) 100000) 100000)) l l := fun W wt bd => FP.nw W wt bd s1 l Q _ _ _ _ _ _
    have S2 := S1.nw (by omega) 4 (q.1 : Int) (p : Int) (zz s 91 (b0 + us.length)) (min (1 + min (tmW x : Int) 100000) 100000) (min (1 + min (tmH x : Int) 100000) 100000)
    have K2 := KpT.nw s1 Q 4 (q.1 : Int) (p : Int) (zz s 91 (b0 + us.length)) (min (1 + min (tmW x : Int) 100000) 100000) (min (1 + min (tmH x : Int) 100000) 100000)
    generalize (nwT s1 Q 4 (q.1 : Int) (p : Int) (zz s 91 (b0 + us.length)) (min (1 + min (tmW x : Int) 100000) 100000) (min (1 + min (tmH x : Int) 100000) 100000)) = s2 at *
    have F2 : ∀ W wt bd, FP Q W wt bd s s2 l l := fun W wt bd => (f1 W wt bd).tr (f2 W wt bd) FPr
    have P2 : PH s2 v W (Q + 1) (abT q.1 q.2 x) Q := by
      refine ⟨⟨by omega, by omega⟩, ?_, ?_, Or.inr (Or.inl ⟨by omega, ?_, ?_, ?_, ?_⟩)⟩
      · rw [natc, a5, show tmW (.branch (4 * q.1 + 1) q.2 x) = 1 + tmW x from tmW_ab q.1 q.2 x]
        omega
      · rw [natc, a6, show tmH (.branch (4 * q.1 + 1) q.2 x) = 1 + tmH x from tmH_ab q.1 q.2 x]
        omega
      · rw [natc]; exact a1
      · rw [natc, a2]; omega
      · rw [natc, a3]
        exact PH.keep (F2 W 0 0).2.1 (F2 W 0 0).2.2.1 (by omega) (Nat.le_refl _) _ _ hP
      · rw [natc, a4]
        exact h91.keep (F2 W 0 0).2.2.1 (Nat.le_refl _)
    have hk8 : kM (k : Int) = 8 ↔ k = 9 := by unfold kM; omega
    have nxt : ∀ (s3 : aZ) (Q3 p3 : Nat) (y : aT), y = b1T k q.1 q.2 x → MS Q3 W dep wt (b0 + us.length) s3 → PH s3 v W Q3 y p3 → p3 < 30100 → Q ≤ Q3 → Q3 ≤ Q + 3 → (∀ W wt bd, FP Q W wt bd s s3 l l) → KpT s s3 → a_W d 163 103 [.ref 56, iv (kM (k : Int)), iv (b0 : Int), iv x3, iv x4, iv (p3 : Int)] [] (mkH B s3 l) (fun r => ∃ (s2 : aZ) (p2 Q2 : Nat), r = (.inl (some (iv (p2 : Int))), mkH B s2 l) ∧ MS Q2 W dep wt b0 s2 ∧ PH s2 v W Q2 (bdT k (q :: us) x) p2 ∧ p2 < 30100 ∧ Q ≤ Q2 ∧ Q2 ≤ Q + 3 * (q :: us).length ∧ (∀ W wt bd, FP Q W wt bd s s2 l l) ∧ KpT s s2) := by
      rintro s3 Q3 p3 y rfl S3 P3 hp3 hQ3 hQ4 F3 K3
      refine a_W.imp (ih _ Q3 p3 s3 S3 ((K3.2 22 (by decide)).trans h22) (by omega) (by omega) (fun r hr => hu r (List.mem_cons_of_mem _ hr)) (BK.keep (F3 W 0 0).2.2.1 (Nat.le_refl _) us _ (F3 W 0 (b0 + us.length)).2.2.2.2 hK) P3 hp3) ?_
      rintro _ ⟨s4, p4, Q4, rfl, S4, P4, q4, r4, t4, F4, K4⟩
      exact ⟨s4, p4, Q4, rfl, S4, P4, q4, by omega, by rw [List.length_cons]; omega, fun W wt bd => (F3 W wt bd).tr (F4 W wt bd) ⟨by omega, Nat.le_refl _, Nat.le_refl _, Nat.le_refl _⟩, K3.tr K4⟩
    have hkr := inR_kM (a := (k : Int)) ⟨by omega, by omega⟩
    have con : ∀ c : Int, k ≠ 9 → c = sgC k → a_W (d - 1) 173 0 [.ref 56, iv c, iv 0] [] (mkH B s2 l) (fun r => ∃ (v17 : Int) (s15 : Nat → Nat → Int32) (l16 : Nat → Nat → Int64), r = (.inl (some (iv v17)), mkH B s15 l16) ∧ a_W (d - 1) 174 0 [.ref 56, iv v17, iv (Q : Int)] [] (mkH B s15 l16) (fun r => ∃ (v20 : Int) (s18 : Nat → Nat → Int32) (l19 : Nat → Nat → Int64), r = (.inl (some (iv v20)), mkH B s18 l19) ∧ a_W d 163 103 [.ref 56, iv (kM (k : Int)), iv (b0 : Int), iv x3, iv x4, iv v20] [] (mkH B s18 l19) (fun r => ∃ (s2 : aZ) (p2 Q2 : Nat), r = (.inl (some (iv (p2 : Int))), mkH B s2 l) ∧ MS Q2 W dep wt b0 s2 ∧ PH s2 v W Q2 (bdT k (q :: us) x) p2 ∧ p2 < 30100 ∧ Q ≤ Q2 ∧ Q2 ≤ Q + 3 * (q :: us).length ∧ (∀ W wt bd, FP Q W wt bd s s2 l l) ∧ KpT s s2))) := by
      intro c hk9 hc
      refine a_W.imp (m_sign (v := v) hB (by omega) l S2 (by omega) k ⟨by omega, by omega⟩ c hc) ?_
      rintro _ ⟨s3, rfl, S3, F3, K3, P3⟩
      refine ⟨_, s3, l, rfl, a_W.imp (m_applied hB (by omega) l S3 (by omega) P3 (PH.keep (F3 W 0 0).2.1 (F3 W 0 0).2.2.1 (by omega) (Nat.le_refl _) _ _ P2)) ?_⟩
      rintro _ ⟨s4, rfl, S4, F4, K4, P4⟩
      refine ⟨_, s4, l, rfl, nxt s4 (Q + 1 + 1 + 1) (Q + 1 + 1) _ ?_ S4 P4 (by omega) (by omega) (by omega) (fun W wt bd => (F2 W wt bd).tr ((F3 W wt bd).tr (F4 W wt bd) ⟨by omega, Nat.le_refl _, Nat.le_refl _, Nat.le_refl _⟩) ⟨by omega, Nat.le_refl _, Nat.le_refl _, Nat.le_refl _⟩) ((K1.tr K2).tr (K3.tr K4))⟩
      unfold b1T
      rw [if_neg hk9]
    refine ⟨_, s2, l, rfl, hkr, fun c => ?_, fun c => ?_⟩
    · refine nxt s2 (Q + 1) Q _ ?_ S2 P2 (by omega) (by omega) (by omega) F2 (K1.tr K2)
      unfold b1T
      rw [if_pos (hk8.mp c)]
    · have hk9 : k ≠ 9 := fun e => c (hk8.mpr e)
      have hkk := sgC_v (k := k) ⟨by omega, by omega⟩ (v := kM (k : Int)) rfl
      refine ⟨fun c1 => ⟨fun c2 => con 9 hk9 ?_, fun c2 => con 8 hk9 (hkk.2.1 c2)⟩, fun c1 => con 7 hk9 (hkk.1 c1)⟩
      by_cases c3 : kM (k : Int) = 11
      · exact hkk.2.2.1 c3
      · exfalso
        revert c c1 c2 c3
        unfold kM
        omega
/-- the variables of a binder, its body -/
theorem m_vars (hB : a_Can B) (hcap : MCap t n vs) (dep wt b0 Q0 W0 K k : Nat) (hdep : dep < 40) (hk : 9 ≤ k ∧ k ≤ 12) (s0 : aZ) (l0 : aZL) : ∀ (N : Nat), (∀ M, M < N → MB0 B t n vs M) → ∀ (d i W : Nat) (us : aSt) (u4 : Value) (s : aZ) (l : aZL) (res : (Int × Nat) ⊕ (aT × Nat)), 158 + 5 * (40 - dep) ≤ d → ptm t n N 5 (dep + 1) us (sgT k) i = some res → i ≤ 6000 → VsD t n i us → MAt t n vs i s l → MS Q0 W (dep + 1) wt (b0 + us.length) s → BK s (vT t n vs) W us (b0 + us.length) → Q0 + 3 * us.length + K + 3 ≤ 3 * i → W0 ≤ W → W ≤ i → 2 * wt ≤ i → b0 + us.length ≤ i → FP Q0 W0 wt b0 s0 s l0 l → LgJ W0 W s (lgV us) → a_W d 163 21 [.ref 56, iv (kM (k : Int)), iv (b0 : Int), iv 1, u4, .retAddr 0] [] (mkH B s l) (MTo t n vs Q0 W0 dep wt b0 K res B s0 l0) := by
  intro N
  induction N using Nat.strongRecOn with
  | _ N ih =>
  intro hM d i W us u4 s l res hd h hi hV hA hS hBK hQ hW0 hW hwt hb hf hL
  cases N with
  | zero => exact absurd (show (none : aPr) = some res from h) (by intro h; cases h)
  | succ N =>
  rw [ptm_5v] at h
  have h22 := hA.z22
  have kr := inR_kM (a := (k : Int)) ⟨by omega, by omega⟩
  have badF : ∀ (f : Int) (j : Nat) (x3 : Int) (u : Value) (s6 : aZ) (l7 : aZL), res = .inl (f, j) → FP Q0 W0 wt b0 s0 s6 l0 l7 → MF t n f (stT t n j) (nsT t n vs (j + 1)) s6 l7 → a_W d 163 64 [.ref 56, iv (kM (k : Int)), iv (b0 : Int), iv x3, u, .retAddr 0] [] (mkH B s6 l7) (MTo t n vs Q0 W0 dep wt b0 K res B s0 l0) := by
    rintro f j x3 u s6 l7 rfl g6 hF
    refine w163_64 hB (by omega) _ _ _ _ s6 l7 (a_W.imp (m_need_f hB (by omega) hF 6 (by decide)) ?_)
    rintro _ rfl
    have p1 := hF.2.2.1
    have p2 := hF.2.1
    exact ⟨s6, l7, rfl, fun c => absurd c (by omega), fun _ => m_dropF hB (by omega) Q0 W0 dep wt b0 K j _ _ _ _ f s0 l0 l7 ⟨by omega, by omega⟩ (inR_zz _ _ _) 0 (by decide) _ _ (Nat.le_refl _) (hF.kp (KpT.z56 _ _ _ (by decide))) (g6.tr (FP.z56 _ _ _ _ _ _ 32 _ (by decide)) FPr)⟩
  refine w163_21 hB (by omega) _ _ 1 u4 s l ⟨by decide, fun c => absurd c (by decide), fun _ => ⟨fun c => absurd h22 c, fun _ => ?_⟩⟩
  rcases pBd_some h with ⟨e, q1, rfl⟩ | ⟨T, j, q1, q2⟩
  · refine a_W.imp (m_var hB hcap N (d - 1) (dep + 1) i Q0 W wt (b0 + us.length) s l _ (by omega) (by omega) q1 hi hA hS hW hb) ?_
    rintro _ ⟨s1, l1, rfl, f1, ⟨T, j, W2, hh, -⟩ | ⟨f, j, hh, hF⟩⟩
    · cases hh
    · cases hh
      have F1 := hf.tr f1 ⟨Nat.le_refl _, hW0, Nat.le_refl _, by omega⟩
      refine ⟨s1, l1, rfl, a_W.imp (m_look_f hB (by omega) hF 0 (by decide)) ?_⟩
      rintro _ rfl
      have p1 := hF.2.2.1
      have p2 := hF.2.1
      exact ⟨_, s1, l1, rfl, by decide, fun c => absurd c (by decide), fun _ => ⟨fun _ => w163_21 hB (by omega) _ _ 0 _ s1 l1 ⟨by decide, fun _ => badF f j _ _ s1 l1 rfl F1 hF, fun c => absurd rfl c⟩, fun c => absurd c (by decide)⟩⟩
  have hR := pvr_R hi q1
  refine a_W.imp (m_var hB hcap N (d - 1) (dep + 1) i Q0 W wt (b0 + us.length) s l _ (by omega) (by omega) q1 hi hA hS hW hb) ?_
  rintro _ ⟨s1, l1, rfl, f1, ⟨T', j', W2, hh, hA1, S1, b1, e90, e91, L1⟩ | ⟨f, j, hh, -⟩⟩
  rotate_left
  · cases hh
  cases hh
  have F1 := hf.tr f1 ⟨Nat.le_refl _, hW0, Nat.le_refl _, by omega⟩
  have hL1 : LgJ W0 W2 s1 (lgV ((vtk t n i, T) :: us)) := LgJ.cat (hL.keep f1.2.2.1) L1 (fun ⟨q, h1, h2⟩ => ⟨q, List.mem_cons_of_mem _ h1, h2⟩) (fun e => ⟨_, List.mem_cons_self, e⟩)
  have hBK1 : BK s1 (vT t n vs) W2 ((vtk t n i, T) :: us) (b0 + ((vtk t n i, T) :: us).length) := show BK s1 (vT t n vs) W2 ((vtk t n i, T) :: us) (b0 + us.length + 1) from ⟨e90, e91, BK.keep f1.2.2.1 b1.1 us _ f1.2.2.2.2 hBK⟩
  have S1' : MS Q0 W2 (dep + 1) wt (b0 + ((vtk t n i, T) :: us).length) s1 := S1
  have hV1 : VsD t n j ((vtk t n i, T) :: us) := by
    intro q hq
    rcases List.mem_cons.mp hq with rfl | hq
    · exact ⟨hR.2.2.2.2.1, hR.2.2.2.2.2⟩
    · exact ⟨(hV q hq).1.mono (by omega), nmOk.imp (fun i r => r.mono (by omega)) _ (hV q hq).2⟩
  generalize hus : ((vtk t n i, T) :: us) = us1 at *
  have hlen : us1.length = us.length + 1 := by rw [← hus]; rfl
  cases N with
  | zero => exact absurd (show (none : aPr) = some res from q2) (by intro h; cases h)
  | succ N =>
  rw [ptm_6] at q2
  refine ⟨s1, l1, rfl, a_W.imp (m_look0 hB (by omega) hcap j hA1) ?_⟩
  rintro _ ⟨s2, l2, f2, ⟨h0, rfl, hC⟩ | ⟨h0, rfl, hF⟩⟩
  rotate_left
  · rcases pLk_some q2 with ⟨-, e⟩ | ⟨c, -⟩
    · exact ⟨_, s2, l2, rfl, by decide, fun c => absurd c (by decide), fun _ => ⟨fun _ => w163_21 hB (by omega) _ _ 0 _ s2 l2 ⟨by decide, fun _ => badF _ j _ _ s2 l2 e (F1.tr (f2.fp Q0 W0 wt b0) FPr) hF, fun c => absurd rfl c⟩, fun c => absurd c (by decide)⟩⟩
    · exact absurd c h0
  rcases pLk_some q2 with ⟨c, -⟩ | ⟨-, q2⟩
  · exact absurd h0 c
  have hkj := kd_rng h0
  have k1 : kM (kdT t n j) = 1 ↔ kdT t n j = 1 := kM_inj (b := 1) ⟨hkj.1, hkj.2.1⟩ (by decide)
  have k4 : kM (kdT t n j) = 4 ↔ kdT t n j = 4 := kM_inj (b := 4) ⟨hkj.1, hkj.2.1⟩ (by decide)
  have F2 := F1.tr (f2.fp Q0 W0 wt b0) FPr
  have S2 := S1'.m f2
  have B2 := BK.keep (f2.wf W2) (Nat.le_refl _) us1 _ (f2.fp Q0 W2 wt (b0 + us1.length)).2.2.2.2 hBK1
  have L2 := hL1.keep (f2.wf W2)
  have hA2 : MAt t n vs j s2 l2 := ⟨Or.inr hC, hA1.2⟩
  have more : (kdT t n j = 1 ∨ kdT t n j = 4) → ∀ u : Value, a_W d 163 55 [.ref 56, iv (kM (k : Int)), iv (b0 : Int), iv 1, iv (kM (kdT t n j)), .retAddr 0] [] (mkH B s2 l2) (MTo t n vs Q0 W0 dep wt b0 K res B s0 l0) := by
    intro c u
    rw [if_pos c] at q2
    refine w163_55 hB _ _ _ _ s2 l2 ?_
    exact ih N (by omega) (fun M hM' => hM M (by omega)) d j W2 us1 _ s2 l2 res hd q2 hR.2.1 hV1 hA2 S2 B2 (by omega) (by omega) (by omega) (by omega) (by omega) F2 L2
  refine ⟨_, s2, l2, rfl, inR_kM ⟨hkj.1, hkj.2.1⟩, fun c => more (Or.inl (k1.mp c)) (.retAddr 0), fun n1 => ⟨fun n4 => ?_, fun c => more (Or.inr (k4.mp c)) (.retAddr 0)⟩⟩
  rw [if_neg (fun c => c.elim (fun e => n1 (k1.mpr e)) (fun e => n4 (k4.mpr e)))] at q2
  refine w163_21 hB (by omega) _ _ 0 _ s2 l2 ⟨by decide, fun _ => ?_, fun c => absurd rfl c⟩
  have hn := m_need hB (d := d - 1) (by omega) hcap j 7 (by decide) hA2
  rw [show kM 7 = 6 by decide] at hn
  refine w163_64 hB (by omega) _ _ _ _ s2 l2 (a_W.imp hn ?_)
  rintro _ ⟨s5, l5, rfl, ⟨m1, m2, m3, s6, m4, m5⟩ | ⟨m1, m2, m3, m4⟩ | ⟨m1, m3, m4⟩⟩
  rotate_left
  · rw [if_neg m2] at q2
    cases q2
    have p1 := m3.2.2.1
    exact ⟨s5, l5, rfl, fun c => absurd c (by omega), fun _ => m_dropF hB (by omega) Q0 W0 dep wt b0 K j _ _ _ _ 2 s0 l0 l5 ⟨by omega, by omega⟩ (inR_zz _ _ _) 0 (by decide) _ _ (Nat.le_refl _) (m3.kp (KpT.z56 _ _ _ (by decide))) ((F2.tr (m4.fp Q0 W0 wt b0) FPr).tr (FP.z56 _ _ _ _ _ _ 32 _ (by decide)) FPr)⟩
  · exact absurd h0 m1
  rw [if_pos m2] at q2
  obtain ⟨a1, a2⟩ := lt_nx h0 (by omega)
  have f5 : ∀ Q W wt bd, FP Q W wt bd s2 s5 l2 l5 := fun Q W wt bd => by rw [m5]; exact (m4.fp Q W wt bd).tr (FP.z56 _ _ _ _ _ _ 31 _ (by decide)) FPr
  have S5 : MS Q0 W2 (dep + 1) wt (b0 + us1.length) s5 := by rw [m5]; exact (S2.m m4).z56 31 _ (by decide)
  have e51 : zz s5 56 51 = ((b0 + us1.length : Nat) : Int) := S5.2.2.2.2
  have z5 := m3.2.1
  have F5 := F2.tr (f5 Q0 W0 wt b0) FPr
  have B5 := BK.keep (f5 Q0 W2 wt 0).2.2.1 (Nat.le_refl _) us1 _ (f5 Q0 W2 wt (b0 + us1.length)).2.2.2.2 B2
  have L5 := L2.keep (f5 Q0 W2 wt 0).2.2.1
  have hA5 : MAt t n vs (j + 1) s5 l5 := ⟨Or.inl m3, lt_all hA1.2 a1⟩
  refine ⟨s5, l5, rfl, fun _ => ?_, fun c => absurd c (by omega)⟩
  rcases pBd_some q2 with ⟨e, r1, rfl⟩ | ⟨b, kx, r1, r2⟩
  · refine a_W.imp (hM N (by omega) (d - 1) (dep + 1) (K + 3 * us1.length) (j + 1) Q0 W2 wt (b0 + us1.length) s5 l5 _ (by omega) (by omega) r1 (by omega) hA5 S5 (by omega) (by omega) (by omega) (by omega)) ?_
    rintro _ ⟨s7, l7, p, rfl, f7, p7, ⟨T2, j3, Q3, W3, hh, -⟩ | ⟨f, j3, hh, hF⟩⟩
    · cases hh
    · cases hh
      exact ⟨_, s7, l7, rfl, m_dropF hB (by omega) Q0 W0 dep wt b0 K j3 _ _ _ _ f s0 l0 l7 ⟨by omega, by omega⟩ (inR_zz _ _ _) p p7 _ _ (Nat.le_refl _) (hF.kp (KpT.z56 _ _ _ (by decide))) ((F5.tr f7 ⟨Nat.le_refl _, by omega, Nat.le_refl _, by omega⟩).tr (FP.z56 _ _ _ _ _ _ 32 _ (by decide)) FPr)⟩
  · cases r2
    refine a_W.imp (hM N (by omega) (d - 1) (dep + 1) (K + 3 * us1.length) (j + 1) Q0 W2 wt (b0 + us1.length) s5 l5 _ (by omega) (by omega) r1 (by omega) hA5 S5 (by omega) (by omega) (by omega) (by omega)) ?_
    rintro _ ⟨s7, l7, p, rfl, f7, p7, ⟨T2, j3, Q3, W3, hh, hA7, S7, b7, P7, L7⟩ | ⟨f, j3, hh, -⟩⟩
    rotate_left
    · cases hh
    cases hh
    have j6 := hA7.le
    have f8 : ∀ Q W wt bd, FP Q W wt bd s7 (zu s7 56 32 (zz s7 56 32 - 1)) l7 l7 := fun Q W wt bd => FP.z56 _ _ _ _ _ _ 32 _ (by decide)
    have e32 : zz s7 56 32 = ((dep + 1 : Nat) : Int) := S7.2.2.1
    have S8 : MS Q3 W3 dep wt (b0 + us1.length) (zu s7 56 32 (zz s7 56 32 - 1)) := ⟨(zz_ne _ _ _ _ _ _ (by omega)).trans S7.1, (zz_ne _ _ _ _ _ _ (by omega)).trans S7.2.1, by rw [zz_same _ _ _ ⟨by omega, by omega⟩]; omega, (zz_ne _ _ _ _ _ _ (by omega)).trans S7.2.2.2.1, (zz_ne _ _ _ _ _ _ (by omega)).trans S7.2.2.2.2⟩
    have K8 : KpT s7 (zu s7 56 32 (zz s7 56 32 - 1)) := KpT.z56 _ _ _ (by decide)
    refine ⟨_, s7, l7, rfl, ?_⟩
    rw [e51]
    generalize (zu s7 56 32 (zz s7 56 32 - 1)) = s8 at *
    have B8 := BK.keep (f8 Q3 W3 wt 0).2.2.1 (Nat.le_refl _) us1 _ (f8 Q3 W3 wt (b0 + us1.length)).2.2.2.2 (BK.keep f7.2.2.1 b7.2.1 us1 _ f7.2.2.2.2 B5)
    have P8 := PH.keep (f8 Q3 W3 0 0).2.1 (f8 Q3 W3 0 0).2.2.1 (Nat.le_refl _) (Nat.le_refl _) _ _ P7
    have hA8 := hA7.kp K8
    have F8 := (F5.tr f7 ⟨Nat.le_refl _, by omega, Nat.le_refl _, by omega⟩).tr (f8 Q0 W0 wt b0) FPr
    have L8 : LgJ W0 W3 s8 (lgV us1 ∨ lgA b) := LgJ.cat ((L5.keep f7.2.2.1).keep (f8 0 W2 0 0).2.2.1) (L7.keep (f8 0 W3 0 0).2.2.1) Or.inl Or.inr
    refine a_W.imp (m_bind hB (v := vT t n vs) (d := d) (by omega) k hk b0 _ ((b0 + us1.length : Nat) : Int) ⟨by omega, by omega⟩ (by omega) l7 us1 b Q3 p s8 S8 hA8.z22 (by omega) (by omega) (fun q hq => ?_) B8 P8 p7) ?_
    · have := (hV1 q hq).1.1
      omega
    rintro _ ⟨s9, p9, Q9, rfl, S9, P9, q9, t9, r9, F9, K9⟩
    exact ⟨s9, l7, p9, rfl, F8.tr (F9 W0 wt b0) ⟨b7.1, Nat.le_refl _, Nat.le_refl _, Nat.le_refl _⟩, q9, Or.inl ⟨_, kx, Q9, W3, rfl, hA8.kp K9, S9, ⟨by omega, by omega, by omega, by omega⟩, P9, fun j c1 c2 c3 => (lgA_bd k us1 b).mpr (L8.keep (F9 W3 wt b0).2.2.1 j c1 c2 c3)⟩⟩
end
