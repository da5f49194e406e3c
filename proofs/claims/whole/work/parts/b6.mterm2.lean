/-! THE REFERENCE READS ATOMS AND THEIR ROWS -/
section
variable {B : aH} {t : Nat → Int} {n : Nat} {vs : List (List Int)}
theorem sgC_v {v : Int} {k : Nat} (hk : 10 ≤ k ∧ k ≤ 13) (e : v = kM (k : Int)) : (v = 9 → (7 : Int) = sgC k) ∧ (v = 10 → (8 : Int) = sgC k) ∧ (v = 11 → (9 : Int) = sgC k) ∧ (v ≠ 9 → v ≠ 10 → v ≠ 11 → (3 : Int) = sgC k) := by
  rcases (show k = 10 ∨ k = 11 ∨ k = 12 ∨ k = 13 by omega) with rfl | rfl | rfl | rfl <;> subst e <;> decide
/-- a sign in ( ) : behind the ) its part is made -/
theorem m_lone (hB : a_Can B) (hcap : MCap t n vs) {d : Nat} (hd : 6 ≤ d) (dep K i Q W wt bd k : Nat) (s : aZ) (l : aZL) (res : (Int × Nat) ⊕ (aT × Nat)) (h2 : ftT t n (i + 2) = 0 → (if kdT t n (i + 2) = 5 then some (.inr (sgT k, i + 3)) else some (.inl (2, i + 2)) : aPr) = some res) (h3 : ftT t n (i + 2) ≠ 0 → res = .inl (ftT t n (i + 2), i + 2)) (hi6 : i + 2 ≤ 6000) (hC : MC t n vs (i + 2) i s l) (hl : ∀ j, j < i + 2 → stT t n j < n) (hS : MS Q W dep wt bd s) (hQ : Q + K ≤ 3 * i) (hW : W ≤ i) (Z : aR → Prop) (hZ : ∀ (s2 : aZ) (l2 : aZL), MS Q W dep wt bd s2 → (∀ (s3 : aZ) (q : aR), q = (.inl (some (iv (Q : Int))), mkH B s3 l2) → MS (Q + 1) W dep wt bd s3 → (∀ W wt bd, FP Q W wt bd s2 s3 l2 l2) → KpT s2 s3 → PH s3 (vT t n vs) W (Q + 1) (sgT k) Q → MTo t n vs Q W dep wt bd K res B s l q) → Z (.inl none, mkH B s2 l2)) : a_W d 166 0 [.ref 56, iv 5] [] (mkH B (zu s 56 31 (zz s 56 31 + 2)) l) Z := by
  have c4 := hC.2.2.2.1
  rw [c4, show (i : Int) + 2 = ((i + 2 : Nat) : Int) by omega]
  have hC1 : MC t n vs (i + 2) (i + 2) (zu s 56 31 ((i + 2 : Nat) : Int)) l := hC.now (i2 := i + 2) (by omega)
  have f0 : FP Q W wt bd s (zu s 56 31 ((i + 2 : Nat) : Int)) l l := FP.z56 _ _ _ _ _ _ 31 _ (by decide)
  have S0 : MS Q W dep wt bd (zu s 56 31 ((i + 2 : Nat) : Int)) := hS.z56 31 _ (by decide)
  generalize (zu s 56 31 ((i + 2 : Nat) : Int)) = s1 at *
  have hn := m_need hB (d := d) (by omega) hcap (i + 2) 5 (by decide) ⟨Or.inl hC1, hl⟩
  rw [show kM 5 = 5 by decide] at hn
  refine a_W.imp hn ?_
  rintro _ ⟨s5, l5, rfl, ⟨m1, m2, m3, s6, m4, m5⟩ | ⟨m1, m2, m3, m4⟩ | ⟨m1, m3, m4⟩⟩
  · have h := h2 m1
    rw [if_pos m2] at h
    cases h
    obtain ⟨a1, a2⟩ := lt_nx m1 (by omega)
    have f5 : FP Q W wt bd s1 s5 l l5 := by rw [m5]; exact (m4.fp Q W wt bd).tr (FP.z56 _ _ _ _ _ _ 31 _ (by decide)) FPr
    have S5 : MS Q W dep wt bd s5 := by rw [m5]; exact (S0.m m4).z56 31 _ (by decide)
    refine hZ s5 l5 S5 ?_
    rintro s3 _ rfl g1 g2 g3 g4
    exact ⟨s3, l5, Q, rfl, f0.tr (f5.tr (g2 W wt bd) FPr) FPr, by omega, Or.inl ⟨sgT k, i + 3, Q + 1, W, rfl, ⟨Or.inl (m3.kp g3), lt_all hl a1⟩, g1, ⟨by omega, by omega, by omega, by omega⟩, g4, LgJ.nil _ _ _⟩⟩
  · have h := h2 m1
    rw [if_neg m2] at h
    cases h
    refine hZ s5 l5 (S0.m m4) ?_
    rintro s3 _ rfl g1 g2 g3 g4
    exact MTo.f (f0.tr ((m4.fp Q W wt bd).tr (g2 W wt bd) FPr) FPr) (by omega) (m3.kp g3)
  · have h := h3 m1
    subst h
    refine hZ s5 l5 (S0.m m4) ?_
    rintro s3 _ rfl g1 g2 g3 g4
    exact MTo.f (f0.tr ((m4.fp Q W wt bd).tr (g2 W wt bd) FPr) FPr) (by omega) (m3.kp g3)
/-- what begins with ( -/
theorem m_open (hB : a_Can B) (hcap : MCap t n vs) (N : Nat) (hM : MB0 B t n vs N) (d dep K i Q W wt bd : Nat) (s : aZ) (l : aZL) (res : (Int × Nat) ⊕ (aT × Nat)) (hd : 156 + 5 * (40 - dep) ≤ d) (hdep : dep ≤ 40) (h : pLk t n (i + 1) (if z96 (kdT t n (i + 1)) ≠ 0 ∨ (10 ≤ kdT t n (i + 1) ∧ kdT t n (i + 1) ≤ 13 ∧ stT t n (i + 2) < n ∧ t (stT t n (i + 2)) = 41) then pLk t n (i + 2) (if kdT t n (i + 2) = 5 then some (.inr (sgT (kdT t n (i + 1)).toNat, i + 3)) else some (.inl (2, i + 2)))
        else if 40 ≤ dep then some (.inl (8, i + 1)) else pBd (ptm t n N 0 (dep + 1) [] noT (i + 1)) (pIn t n N dep)) = some res) (hi6 : i + 1 ≤ 6000) (h0 : stT t n i < n) (hC : MC t n vs (i + 1) i s l) (hl : ∀ j, j < i → stT t n j < n) (hS : MS Q W dep wt bd s) (hQ : Q + K ≤ 3 * i) (hW : W ≤ i) (hwt : 2 * wt ≤ i) (hbd : bd ≤ i) : a_W d 179 0 [.ref 56, .retAddr 0, .retAddr 0, .retAddr 0, .retAddr 0] [] (mkH B s l) (MTo t n vs Q W dep wt bd K res B s l) := by
  have hl1 := lt_all hl h0
  refine w179_0 hB (by omega) s l (a_W.imp (m_look hB (by omega) hcap (i + 1) i 1 hC (Or.inl rfl) hl1) ?_)
  rintro _ ⟨s1, l1, f1, ⟨h1, rfl, hC1⟩ | ⟨h1, rfl, hF⟩⟩
  rotate_left
  · rcases pLk_some h with ⟨-, rfl⟩ | ⟨c, -⟩
    · have p := hF.2.2.1
      have p2 := hF.2.1
      exact ⟨_, s1, l1, rfl, fun c => absurd c (by omega), fun _ => MTo.f (f1.fp Q W wt bd) (by decide) hF⟩
    · exact absurd c h1
  rcases pLk_some h with ⟨c, -⟩ | ⟨-, h⟩
  · exact absurd h1 c
  have hk := kd_rng h1
  have S1 := hS.m f1
  have c1 := hC1.2.1
  have F1 := f1.fp Q W wt bd
  have pre : ∀ q, MTo t n vs Q W dep wt bd K res B s1 l1 q → MTo t n vs Q W dep wt bd K res B s l q := fun q hq => MTo.pre F1 hq
  have ins : ∀ x2 : Int, ¬ (z96 (kdT t n (i + 1)) ≠ 0 ∨ (10 ≤ kdT t n (i + 1) ∧ kdT t n (i + 1) ≤ 13 ∧ stT t n (i + 2) < n ∧ t (stT t n (i + 2)) = 41)) → a_W d 179 142 [.ref 56, iv (kM (kdT t n (i + 1))), iv x2, .retAddr 0, .retAddr 0] [] (mkH B s1 l1) (MTo t n vs Q W dep wt bd K res B s l) := by
    intro x2 cn
    rw [if_neg cn] at h
    exact a_W.imp (m_inside hB hcap N hM d dep K i Q W wt bd _ x2 s1 l1 res hd hdep h hi6 h1 hC1 hl1 S1 hQ hW hwt hbd) pre
  have lone : ∀ (k : Nat) (Z : aR → Prop), kdT t n (i + 1) = k → 10 ≤ k → (z96 (kdT t n (i + 1)) ≠ 0 ∨ (10 ≤ kdT t n (i + 1) ∧ kdT t n (i + 1) ≤ 13 ∧ stT t n (i + 2) < n ∧ t (stT t n (i + 2)) = 41)) → (∀ (s2 : aZ) (l2 : aZL), MS Q W dep wt bd s2 → (∀ (s3 : aZ) (q : aR), q = (.inl (some (iv (Q : Int))), mkH B s3 l2) → MS (Q + 1) W dep wt bd s3 → (∀ W wt bd, FP Q W wt bd s2 s3 l2 l2) → KpT s2 s3 → PH s3 (vT t n vs) W (Q + 1) (sgT k) Q → MTo t n vs Q W dep wt bd K res B s l q) → Z (.inl none, mkH B s2 l2)) → a_W (d - 1) 166 0 [.ref 56, iv 5] [] (mkH B (zu s1 56 31 (zz s1 56 31 + 2)) l1) Z := by
    intro k Z ek hk10 cl hZ
    rw [if_pos cl, ek] at h
    rw [natc] at h
    obtain ⟨a1, a2⟩ := lt_nx h1 (by omega)
    refine m_lone hB hcap (by omega) dep K i Q W wt bd k s1 l1 res (fun h2 => ?_) (fun h2 => ?_) (by omega) hC1 (lt_all hl1 a1) S1 hQ hW Z (fun s2 l2 m2 hh => hZ s2 l2 m2 (fun s3 q e1 e2 e3 e4 e5 => pre q (hh s3 q e1 e2 e3 e4 e5)))
    · rcases pLk_some h with ⟨c, -⟩ | ⟨-, h⟩
      · exact absurd h2 c
      · exact h
    · rcases pLk_some h with ⟨-, e⟩ | ⟨c, -⟩
      · exact e
      · exact absurd c h2
  have hn0 : 0 ≤ kdT t n (i + 1) := hk.1
  obtain ⟨k, ek⟩ : ∃ k : Nat, kdT t n (i + 1) = k := ⟨(kdT t n (i + 1)).toNat, by omega⟩
  have z80 : z180 (kM (kdT t n (i + 1))) = 0 ↔ z96 (kdT t n (i + 1)) = 0 := by unfold z180 kM z96; omega
  have kq : (9 ≤ kM (kdT t n (i + 1)) ∧ kM (kdT t n (i + 1)) ≤ 12) ↔ (10 ≤ kdT t n (i + 1) ∧ kdT t n (i + 1) ≤ 13) := by unfold kM; omega
  have opn : z96 (kdT t n (i + 1)) ≠ 0 → a_W (d - 1) 166 0 [.ref 56, iv 5] [] (mkH B (zu s1 56 31 (zz s1 56 31 + 2)) l1) (fun r => ∃ (s3 : Nat → Nat → Int32) (l4 : Nat → Nat → Int64), r = (.inl none, mkH B s3 l4) ∧ a_W (d - 1) 172 0 [.ref 56, iv 1, iv (-1), iv (kM (kdT t n (i + 1))), iv (-1), iv 1, iv 1] [] (mkH B s3 l4) (fun r => ∃ (v7 : Int) (s5 : Nat → Nat → Int32) (l6 : Nat → Nat → Int64), r = (.inl (some (iv v7)), mkH B s5 l6) ∧ MTo t n vs Q W dep wt bd K res B s l (.inl (some (iv v7)), (mkH B s5 l6)))) := by
    intro cz
    have hz := z96_k cz
    refine lone k _ ek (by omega) (Or.inl cz) (fun s2 l2 m2 hh => ⟨s2, l2, rfl, ?_⟩)
    rw [ek]
    refine a_W.imp (m_leafP (v := vT t n vs) hB l2 m2 (by omega) (1, k) 1 (-1) (kM (k : Int)) (by decide) ⟨by rw [kM_op ⟨by omega, by omega⟩]; omega, by rw [kM_op ⟨by omega, by omega⟩]; omega⟩ (fun c => absurd (show (1 : Nat) = 2 from c) (by decide)) (Or.inr (Or.inl ⟨rfl, rfl, Or.inr ⟨by omega, rfl, rfl⟩⟩))) ?_
    rintro _ ⟨s3, rfl, g1, g2, g3, g4⟩
    exact ⟨_, s3, l2, rfl, hh s3 _ rfl g1 g2 g3 g4⟩
  have p31 : ¬ (10 ≤ kdT t n (i + 1) ∧ kdT t n (i + 1) ≤ 13) → a_W d 179 31 [.ref 56, iv (kM (kdT t n (i + 1))), .retAddr 0, .retAddr 0, .retAddr 0] [] (mkH B s1 l1) (MTo t n vs Q W dep wt bd K res B s l) := fun nq =>
    w179_31 hB (by omega) _ s1 l1 ⟨inR_kM ⟨hk.1, hk.2.1⟩, fun c => ins 0 (fun q => q.elim (fun q => q (z80.mp c)) (fun q => nq ⟨q.1, q.2.1⟩)), fun c => opn (fun e => c (z80.mpr e))⟩
  refine ⟨_, s1, l1, rfl, fun _ => ⟨inR_kM ⟨hk.1, hk.2.1⟩, fun c => p31 (fun q => absurd (kq.mpr q) (by omega)), fun c9 => ⟨fun c => p31 (fun q => absurd (kq.mpr q) (by omega)), fun c12 => ?_⟩⟩, fun c => absurd c (by omega)⟩
  have q13 := kq.mp ⟨c9, c12⟩
  have n96 : z96 (kdT t n (i + 1)) = 0 := by unfold z96; omega
  refine ⟨fun _ => ?_, fun c => absurd (z80.mpr n96) c⟩
  obtain ⟨a1, a2⟩ := lt_nx h1 (by omega)
  have e25 : zz s1 56 25 = (tkE t n (stT t n (i + 1)) : Nat) := by
    have := hC1.2.2.2.2.2.1
    rw [this, atT_s, if_pos a1]
  have hE := tkE_le a1 (ft0 h1 a1).2
  rw [e25]
  refine a_W.imp (m_blanks hB (by omega) l1 hC1.1 _ hE.2) ?_
  rintro _ rfl
  have est : (nb t (n - tkE t n (stT t n (i + 1))) (tkE t n (stT t n (i + 1))) false : Nat) = stT t n (i + 2) := rfl
  rw [est]
  have s8 := stT_le t n (i + 2) (fun j hj => ⟨lt_all hl1 a1 j hj, ?_⟩)
  rotate_left
  · exact (hC1.2.2.2.2.2.2.2.1 j hj).1
  have h24 : zz s1 56 24 = (n : Nat) := hC1.1.1
  have n8 : n ≤ 8000 := hC1.1.2.1
  have hmb : mby s1 ((stT t n (i + 2) : Nat) : Int) = 41 ↔ (stT t n (i + 2) < n ∧ t (stT t n (i + 2)) = 41) := by
    unfold mby
    rw [h24]
    by_cases c : stT t n (i + 2) < n
    · rw [if_pos (by omega), natc, (hC1.1.2.2 _ c).1]
      exact ⟨fun e => ⟨c, e⟩, fun e => e.2⟩
    · rw [if_neg (by omega)]
      exact ⟨fun e => absurd e (by decide), fun e => absurd e.1 c⟩
  refine ⟨_, s1, l1, rfl, ⟨by omega, by omega⟩, by omega, by omega, fun c => ins 1 (fun q => q.elim (fun q => q n96) (fun q => c (hmb.mpr q.2.2))), fun c => ?_⟩
  have hkk := sgC_v (k := k) ⟨by omega, by omega⟩ (v := kM (kdT t n (i + 1))) (by rw [ek])
  refine lone k _ ek (by omega) (Or.inr ⟨q13.1, q13.2, hmb.mp c⟩) (fun s2 l2 m2 hh => ⟨s2, l2, rfl, ?_⟩)
  have go : ∀ cc : Int, cc = sgC k → a_W (d - 1) 173 0 [.ref 56, iv cc, iv 0] [] (mkH B s2 l2) (fun r => ∃ (v23 : Int) (s21 : Nat → Nat → Int32) (l22 : Nat → Nat → Int64), r = (.inl (some (iv v23)), mkH B s21 l22) ∧ MTo t n vs Q W dep wt bd K res B s l (.inl (some (iv v23)), (mkH B s21 l22))) := by
    intro cc hcc
    refine a_W.imp (m_sign (v := vT t n vs) hB (by omega) l2 m2 (by omega) k ⟨by omega, by omega⟩ cc hcc) ?_
    rintro _ ⟨s3, rfl, g1, g2, g3, g4⟩
    exact ⟨_, s3, l2, rfl, hh s3 _ rfl g1 g2 g3 g4⟩
  exact ⟨fun c1 => ⟨fun c2 => ⟨fun c3 => go 3 (hkk.2.2.2 c1 c2 c3), fun c3 => go 9 (hkk.2.2.1 c3)⟩, fun c2 => go 8 (hkk.2.1 c2)⟩, fun c1 => go 7 (hkk.1 c1)⟩
theorem m_b4 (hB : a_Can B) (hcap : MCap t n vs) (N : Nat) (hM : MB0 B t n vs N) : MB4 B t n vs (N + 1) := by
  intro d dep K i Q W wt bd s l res hd hdep h hi6 hA hS hQ hW hwt hbd
  rw [ptm_4] at h
  refine w177_0 hB (by omega) s l (a_W.imp (m_look0 hB (by omega) hcap i hA) ?_)
  rintro _ ⟨s1, l1, f1, ⟨h0, rfl, hC⟩ | ⟨h0, rfl, hF⟩⟩
  rotate_left
  · rcases pLk_some h with ⟨-, rfl⟩ | ⟨c, -⟩
    · have p := hF.2.2.1
      have p2 := hF.2.1
      exact ⟨_, s1, l1, rfl, fun _ => w177_34 hB (by omega) _ s1 l1 ⟨fun c => absurd c (by omega), fun _ => MTo.f (f1.fp Q W wt bd) (by decide) hF⟩, fun c => absurd c (by omega)⟩
    · exact absurd c h0
  rcases pLk_some h with ⟨c, -⟩ | ⟨-, h⟩
  · exact absurd h0 c
  have hk := kd_rng h0
  have S1 := hS.m f1
  have c2 := hC.2.1
  have c4 := hC.2.2.2.1
  have F1 := f1.fp Q W wt bd
  have tk := hC.2.2.2.2.2.2.2.1 i (Nat.lt_succ_self _)
  have pre : ∀ q, MTo t n vs Q W dep wt bd K res B s1 l1 q → MTo t n vs Q W dep wt bd K res B s l q := fun q hq => MTo.pre F1 hq
  have k1 : kM (kdT t n i) = 1 ↔ kdT t n i = 1 := kM_inj (b := 1) ⟨hk.1, hk.2.1⟩ (by decide)
  have k3 : kM (kdT t n i) = 3 ↔ kdT t n i = 3 := kM_inj (b := 3) ⟨hk.1, hk.2.1⟩ (by decide)
  have k4 : kM (kdT t n i) = 4 ↔ kdT t n i = 4 := kM_inj (b := 4) ⟨hk.1, hk.2.1⟩ (by decide)
  refine ⟨_, s1, l1, rfl, fun c => absurd c2 c, fun _ => ⟨inR_kM ⟨hk.1, hk.2.1⟩, fun c => ?_, fun c => ?_⟩⟩
  · refine w177_34 hB (by omega) _ s1 l1 ⟨fun _ => ⟨inR_kM ⟨hk.1, hk.2.1⟩, fun n4 => ?_, fun e4 => ?_⟩, fun c => absurd c (by omega)⟩
    · have n4' : ¬ kdT t n i = 4 := fun e => n4 (k4.mpr e)
      rw [if_neg n4'] at h
      have hk0 : kdT t n i ≠ 0 := by
        intro e
        rw [e] at c
        exact c (by decide)
      obtain ⟨a1, a2⟩ := lt_nx h0 hk0
      have eN : (zz s1 56 31 + 1 - 1).toNat = i := by omega
      have hC2 : MC t n vs (i + 1) (i + 1) (zu s1 56 31 ((i + 1 : Nat) : Int)) l1 := hC.now (i2 := i + 1) (by omega)
      have f2 : FP Q W wt bd s1 (zu s1 56 31 ((i + 1 : Nat) : Int)) l1 l1 := FP.z56 _ _ _ _ _ _ 31 _ (by decide)
      have S2 : MS Q W dep wt bd (zu s1 56 31 ((i + 1 : Nat) : Int)) := S1.z56 31 _ (by decide)
      refine ⟨fun n1 => ⟨⟨by omega, by omega⟩, ?_⟩, fun e1 => ?_⟩
      · have n1' : ¬ kdT t n i = 1 := fun e => n1 (k1.mpr e)
        have e3 : kdT t n i = 3 := by
          apply k3.mp
          unfold z178 at c
          omega
        rw [if_pos e3] at h
        cases h
        have hv := dgV_49 h0 e3
        have e73 := tk.2.2.2.1 e3
        rw [eN, e73, c4, show (i : Int) + 1 = ((i + 1 : Nat) : Int) by omega]
        generalize (zu s1 56 31 ((i + 1 : Nat) : Int)) = s2 at *
        generalize hg : dgV t (n - stT t n i) (stT t n i) 0 = g at *
        obtain ⟨m, rfl⟩ : ∃ m : Nat, g = m := ⟨g.toNat, by omega⟩
        rw [natc]
        have el := m_leafP (v := vT t n vs) hB (d := d - 1) l1 S2 (by omega) (2, m) 2 (m : Int) (-1) ⟨by omega, by omega⟩ (by decide) (fun _ => by show m ≤ 49; omega) (Or.inr (Or.inr ⟨rfl, rfl, rfl⟩))
        rw [show (tmW (.leaf (2, m)) : Int) = 2 * (m : Int) + 1 by show ((2 * m + 1 : Nat) : Int) = _; omega, show (tmH (.leaf (2, m)) : Int) = (m : Int) + 1 by show ((m + 1 : Nat) : Int) = _; omega] at el
        refine a_W.imp el ?_
        rintro _ ⟨s3, rfl, g1, g2, g3, g4⟩
        exact ⟨_, s3, l1, rfl, s3, l1, Q, rfl, F1.tr (f2.tr (g2 W wt bd) FPr) FPr, by omega, Or.inl ⟨_, i + 1, Q + 1, W, rfl, ⟨Or.inl (hC2.kp g3), lt_all hA.2 a1⟩, g1, ⟨by omega, by omega, by omega, by omega⟩, g4, LgJ.nil _ _ _⟩⟩
      · have e1' := k1.mp e1
        rw [if_neg (by omega), if_pos e1'] at h
        cases h
        rw [c4, show (i : Int) + 1 = ((i + 1 : Nat) : Int) by omega, show ((i + 1 : Nat) : Int) - 1 = (i : Int) by omega]
        generalize (zu s1 56 31 ((i + 1 : Nat) : Int)) = s2 at *
        refine a_W.imp (m_leafP (v := vT t n vs) hB (d := d - 1) l1 S2 (by omega) (0, i) 0 (i : Int) (-1) ⟨by omega, by omega⟩ (by decide) (fun c => absurd (show (0 : Nat) = 2 from c) (by decide)) (Or.inl ⟨rfl, rfl, rfl⟩)) ?_
        rintro _ ⟨s3, rfl, g1, g2, g3, g4⟩
        exact ⟨_, s3, l1, rfl, s3, l1, Q, rfl, F1.tr (f2.tr (g2 W wt bd) FPr) FPr, by omega, Or.inl ⟨_, i + 1, Q + 1, W, rfl, ⟨Or.inl (hC2.kp g3), lt_all hA.2 a1⟩, g1, ⟨by omega, by omega, by omega, by omega⟩, g4, LgJ.nil _ _ _⟩⟩
    · have e4' := k4.mp e4
      rw [if_pos e4'] at h
      obtain ⟨a1, a2⟩ := lt_nx h0 (by omega)
      refine a_W.imp (m_open hB hcap N hM (d - 1) dep K i Q W wt bd s1 l1 res (by omega) hdep h (by omega) a1 hC hA.2 S1 hQ hW hwt hbd) ?_
      intro q hq
      obtain ⟨s3, l3, p, rfl, hh⟩ := pre q hq
      exact ⟨_, s3, l3, rfl, s3, l3, p, rfl, hh⟩
  · have n134 : ¬ kdT t n i = 4 ∧ ¬ kdT t n i = 3 ∧ ¬ kdT t n i = 1 := by
      refine ⟨fun e => ?_, fun e => ?_, fun e => ?_⟩ <;> rw [e] at c <;> exact absurd c (by decide)
    rw [if_neg n134.1, if_neg n134.2.1, if_neg n134.2.2] at h
    cases h
    have e31 : (zz s1 56 31).toNat = i := by omega
    have c72 := tk.2.2.1
    have r72 := inR_zz s1 72 i
    refine ⟨⟨by omega, by omega⟩, ?_⟩
    rw [e31, c72]
    rw [c72] at r72
    have hF := hC.die (by omega) 2 _ (by decide) r72
    have p := hF.2.2.1
    exact w177_34 hB (by omega) _ _ l1 ⟨fun c => absurd c (by omega), fun _ => MTo.f (F1.tr ((FP.z56 _ _ _ _ _ _ 22 _ (by decide)).tr (FP.z56 _ _ _ _ _ _ 23 _ (by decide)) FPr) FPr) (by decide) hF⟩
/-- atoms, each applied to the next -/
theorem m_aloop (hB : a_Can B) (hcap : MCap t n vs) (dep wt bd Q0 W0 K : Nat) (hdep : dep ≤ 40) (s0 : aZ) (l0 : aZL) : ∀ (N : Nat), (∀ M, M < N → MB4 B t n vs M) → ∀ (d j Q W p : Nat) (x : aT) (u2 : Value) (s : aZ) (l : aZL) (res : (Int × Nat) ⊕ (aT × Nat)), 158 + 5 * (40 - dep) ≤ d → ptm t n N 3 dep [] x j = some res → j ≤ 6000 → MAt t n vs j s l → MS Q W dep wt bd s → PH s (vT t n vs) W Q x p → p < 30100 → Q + K + 1 ≤ 3 * j → W ≤ j → 2 * wt ≤ j → bd ≤ j → FP Q0 W0 wt bd s0 s l0 l → Q0 ≤ Q ∧ W0 ≤ W → LgJ W0 W s (lgA x) → a_W d 176 5 [.ref 56, iv (p : Int), u2] [] (mkH B s l) (MTo t n vs Q0 W0 dep wt bd K res B s0 l0) := by
  intro N
  induction N with
  | zero => intro _ d j Q W p x u2 s l res _ h; exact absurd (show (none : aPr) = some res from h) (by intro h; cases h)
  | succ N ih =>
    intro hM d j Q W p x u2 s l res hd h hj hA hS hP hp hQ hW hwt hbd hf hq hL
    have ih := ih (fun M h => hM M (by omega))
    rw [ptm_3] at h
    refine w176_5 hB (by omega) _ u2 s l (a_W.imp (m_look0 hB (by omega) hcap j hA) ?_)
    rintro _ ⟨s1, l1, f1, ⟨h0, rfl, hC⟩ | ⟨h0, rfl, hF⟩⟩
    rotate_left
    · rcases pLk_some h with ⟨-, rfl⟩ | ⟨c, -⟩
      · exact ⟨_, s1, l1, rfl, by decide, fun _ => w176_49 hB _ _ s1 l1 (MTo.f (hf.tr (f1.fp Q W wt bd) ⟨hq.1, hq.2, Nat.le_refl _, Nat.le_refl _⟩) hp hF), fun c => absurd rfl c⟩
      · exact absurd c h0
    rcases pLk_some h with ⟨c, -⟩ | ⟨-, h⟩
    · exact absurd h0 c
    have hk := kd_rng h0
    have S1 := hS.m f1
    have c2 := hC.2.1
    have F1 := f1.fp Q W wt bd
    have P1 := PH.keep F1.2.1 F1.2.2.1 (Nat.le_refl _) (Nat.le_refl _) _ _ hP
    have L1 := hL.keep F1.2.2.1
    have hf1 := hf.tr F1 ⟨hq.1, hq.2, Nat.le_refl _, Nat.le_refl _⟩
    have ez : z178 (kM (kdT t n j)) = 0 ↔ z102 (kdT t n j) = 0 := by unfold z178 kM z102; omega
    refine ⟨_, s1, l1, rfl, inR_kM ⟨hk.1, hk.2.1⟩, fun c => ?_, fun c => ⟨fun c3 => absurd c2 c3, fun _ => ?_⟩⟩
    · have := ez.mp c
      rw [if_neg (fun e => e this)] at h
      cases h
      exact w176_49 hB _ _ s1 l1 ⟨s1, l1, p, rfl, hf1, hp, Or.inl ⟨x, j, Q, W, rfl, ⟨Or.inr hC, hA.2⟩, S1, ⟨hq.1, hq.2, hQ, hW⟩, P1, L1⟩⟩
    · rw [if_pos (fun e => c (ez.mpr e))] at h
      rcases pBd_some h with ⟨e, q1, rfl⟩ | ⟨a, k, q1, q2⟩
      · refine a_W.imp (hM N (by omega) (d - 1) dep K j Q W wt bd s1 l1 _ (by omega) hdep q1 hj ⟨Or.inr hC, hA.2⟩ S1 (by omega) hW hwt hbd) ?_
        rintro _ ⟨s2, l2, y, rfl, f2, y2, ⟨T, j3, Q3, W3, hh, -⟩ | ⟨f, j3, hh, hF⟩⟩
        · cases hh
        · cases hh
          have pp := hF.2.2.1
          have pp2 := hF.2.1
          refine ⟨_, s2, l2, rfl, fun c => absurd c (by omega), fun _ => w176_5 hB (by omega) 0 _ s2 l2 (a_W.imp (m_look_f hB (by omega) hF 0 (by decide)) ?_)⟩
          rintro _ rfl
          exact ⟨_, s2, l2, rfl, by decide, fun _ => w176_49 hB _ _ s2 l2 (MTo.f (p := 0) (hf1.tr f2 ⟨hq.1, hq.2, Nat.le_refl _, Nat.le_refl _⟩) (by decide) hF), fun c => absurd rfl c⟩
      · obtain ⟨k1, k2, k3, -, k5, -, -⟩ := ptm_R t n N 4 dep [] noT j _ (by decide) hj (I0D _ _ _ _ _ (by omega)) q1
        have k3 : j < k := k3 (by decide) (by decide)
        have k2 : k ≤ 6000 := k2
        refine a_W.imp (hM N (by omega) (d - 1) dep (K + 1) j Q W wt bd s1 l1 _ (by omega) hdep q1 hj ⟨Or.inr hC, hA.2⟩ S1 (by omega) hW hwt hbd) ?_
        rintro _ ⟨s2, l2, y, rfl, f2, y2, ⟨T, j3, Q3, W3, hh, hA2, S2, b2, P2, L2⟩ | ⟨f, j3, hh, -⟩⟩
        rotate_left
        · cases hh
        cases hh
        have c22 := hA2.z22
        have Px : PH s2 (vT t n vs) W3 Q3 x p := PH.keep f2.2.1 f2.2.2.1 b2.1 b2.2.1 _ _ P1
        refine ⟨_, s2, l2, rfl, fun _ => a_W.imp (m_applied hB (by omega) l2 S2 (by omega) Px P2) ?_, fun c => absurd c (by omega)⟩
        rintro _ ⟨s3, rfl, S3, F3, K3, P3⟩
        refine ⟨_, s3, l2, rfl, ih d k (Q3 + 1) W3 Q3 (apT x a) _ s3 l2 res hd q2 k2 (hA2.kp K3) S3 P3 (by omega) (by omega) (by omega) (by omega) (by omega) (hf1.tr (f2.tr (F3 W wt bd) ⟨b2.1, Nat.le_refl _, Nat.le_refl _, Nat.le_refl _⟩) ⟨hq.1, hq.2, Nat.le_refl _, Nat.le_refl _⟩) ⟨by omega, by omega⟩ ?_⟩
        exact LgJ.cat ((L1.keep f2.2.2.1).keep (F3 W wt bd).2.2.1) (L2.keep (F3 W3 wt bd).2.2.1) (fun e => (lgA_ap _ _).mpr (Or.inl e)) (fun e => (lgA_ap _ _).mpr (Or.inr e))
end
