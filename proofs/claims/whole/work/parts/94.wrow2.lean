/-! THE REFERENCE READS A ROW: THE LOOP -/
section
variable {B : aH} {t : Nat → Int} {n : Nat} {vs : List (List Int)}
theorem resM_f {f g : aT → aT} {r r2 : (Int × Nat) ⊕ (aT × Nat)} (h : r = resM g r2) (e : ∀ R, f (g R) = f (g R)) : resM f r = resM (fun R => f (g R)) r2 := by
  subst h
  cases r2 <;> rfl
theorem pBd_resM {r : aPr} {g : aT → aT} {q : (Int × Nat) ⊕ (aT × Nat)} (h : pBd r (fun R j => some (.inr (g R, j))) = some q) : ∃ q2, r = some q2 ∧ q = resM g q2 := by
  rcases pBd_some h with ⟨e, h1, rfl⟩ | ⟨a, j, h1, h2⟩
  · exact ⟨_, h1, rfl⟩
  · cases h2
    exact ⟨_, h1, rfl⟩
/-- what stands of a name whose row is being read: its place W, W2 written, the row ts from r -/
def MRw (t : Nat → Int) (n : Nat) (vs : List (List Int)) (W W2 i0 dep : Nat) (ts : List aT) (r : Int) (s : aZ) : Prop := (W < W2 ∧ W2 = W + 1 + lsW ts) ∧ RC s (vT t n vs) ts (W + 1) W2 r ∧ zz s 75 W = 1 ∧ zz s 76 W = i0 ∧ zz s 77 W = -1 ∧ zz s 79 W = 0 ∧ zz s 80 W = 1 ∧ zz s 81 W = 1 ∧ zz s 56 33 = (W2 : Nat) ∧ zz s 56 32 = dep
theorem MRw.m {W W2 i0 dep : Nat} {ts : List aT} {r : Int} {s s2 : aZ} {l l2 : aZL} (h : MRw t n vs W W2 i0 dep ts r s) (f : FrM s s2 l l2) : MRw t n vs W W2 i0 dep ts r s2 := by
  obtain ⟨a1, a2, a3, a4, a5, a6, a7, a8, a9, a10⟩ := h
  have z : ∀ k, 75 ≤ k → ∀ j, zz s2 k j = zz s k j := fun k h j => zz_of (f.1 k (by omega) (by omega) (by omega) (by omega)) j
  exact ⟨a1, f.rc a2, (z 75 (by decide) W).trans a3, (z 76 (by decide) W).trans a4, (z 77 (by decide) W).trans a5, (z 79 (by decide) W).trans a6, (z 80 (by decide) W).trans a7, (z 81 (by decide) W).trans a8, (f.2.1 33 (by decide)).trans a9, (f.2.1 32 (by decide)).trans a10⟩
/-- one more in the row -/
theorem MRw.push {W W2 W3 i0 dep x : Nat} {ts : List aT} {T : aT} {r : Int} {s s1 s2 : aZ} (h : MRw t n vs W W2 i0 dep ts r s) (hT : WI s1 (vT t n vs) T false W2 W3 x) (hWT : W3 = W2 + tyW T) (g : WFr W2 s s1) (h33 : zz s1 56 33 = (W3 : Nat)) (h32 : zz s1 56 32 = dep) (e : ∀ k j, 75 ≤ k → k ≤ 81 → (k ≠ 78 ∨ j ≠ x) → zz s2 k j = zz s1 k j) (e2 : zz s2 78 x = r) (e3 : zz s2 56 33 = zz s1 56 33) (e4 : zz s2 56 32 = zz s1 56 32) : MRw t n vs W W3 i0 dep (T :: ts) x s2 := by
  obtain ⟨a1, a2, a3, a4, a5, a6, a7, a8, a9, a10⟩ := h
  have hx := hT.rng
  have z : ∀ k, 75 ≤ k → k ≤ 81 → k ≠ 78 → zz s2 k W = zz s k W := fun k h1 h2 h3 => (e k W h1 h2 (Or.inl h3)).trans (g k h1 h2 W a1.1)
  exact ⟨⟨by omega, by show W3 = W + 1 + (tyW T + lsW ts); omega⟩, RC.push (RC.keep ts _ _ _ a2 (fun k j h1 h2 _ h4 => g k h1 h2 j h4)) (by omega) hT (fun k j h1 h2 _ _ h5 => e k j h1 h2 h5) e2, (z 75 (by decide) (by decide) (by decide)).trans a3, (z 76 (by decide) (by decide) (by decide)).trans a4, (z 77 (by decide) (by decide) (by decide)).trans a5, (z 79 (by decide) (by decide) (by decide)).trans a6, (z 80 (by decide) (by decide) (by decide)).trans a7, (z 81 (by decide) (by decide) (by decide)).trans a8, e3.trans h33, e4.trans h32⟩
/-- a lone written type with what follows it -/
theorem wr7_new (s : aZ) (W : Nat) (hW : W < 12100) (k o x : Int) (hk : inR k) (ho : inR o) : ∀ s1, s1 = zu (zu (wr7 s W k o) 56 33 ((W : Int) + 1)) 56 31 x → (zz s1 75 W = k ∧ zz s1 76 W = o ∧ zz s1 77 W = -1 ∧ zz s1 79 W = 0 ∧ zz s1 80 W = 1 ∧ zz s1 81 W = 1) ∧ WFr W s s1 ∧ zz s1 56 33 = ((W + 1 : Nat) : Int) ∧ zz s1 56 32 = zz s 56 32 := by
  rintro s1 rfl
  obtain ⟨a1, a2, a3, a4, a5, a6, a7⟩ := wr7_at s W k o hk ho
  have z : ∀ c j, c ≠ 56 → zz (zu (zu (wr7 s W k o) 56 33 ((W : Int) + 1)) 56 31 x) c j = zz (wr7 s W k o) c j := fun c j h => by rw [zz_ne _ _ _ _ _ _ (by omega), zz_ne _ _ _ _ _ _ (by omega)]
  refine ⟨⟨(z 75 W (by decide)).trans a1, (z 76 W (by decide)).trans a2, (z 77 W (by decide)).trans a3, (z 79 W (by decide)).trans a5, (z 80 W (by decide)).trans a6, (z 81 W (by decide)).trans a7⟩, fun c h1 h2 j hj => (z c j (by omega)).trans (wr7_ne s W k o c j (by omega)), ?_, ?_⟩
  · rw [zz_ne _ _ _ _ _ _ (by omega), zz_same _ _ _ ⟨by omega, by omega⟩]; rfl
  · rw [zz_ne _ _ _ _ _ _ (by omega), zz_ne _ _ _ _ _ _ (by omega), wr7_ne _ _ _ _ _ _ (by omega)]
/-- the frames of a lone written type -/
theorem wr7_fr (s : aZ) (l : aZL) (W : Nat) (k o x : Int) : FrW s (zu (zu (wr7 s W k o) 56 33 ((W : Int) + 1)) 56 31 x) l l := ((wr7_r s W k o).w l).tr (FrW.now _ l x)
theorem wi_word {s : aZ} {v : Nat → Int} (W j : Nat) (h : zz s 75 W = 1 ∧ zz s 76 W = (j : Int) ∧ zz s 77 W = -1 ∧ zz s 79 W = 0 ∧ zz s 80 W = 1 ∧ zz s 81 W = 1) : WI s v (.branch (4 * j + 1) (.leaf (1, 0)) (.leaf (1, 0))) false W (W + 1) W := by
  obtain ⟨a1, a2, a3, a4, a5, a6⟩ := h
  refine ⟨⟨by omega, by omega⟩, ?_, ?_, Or.inr ⟨by omega, rfl, ?_, ?_, ?_, rfl, ?_⟩⟩
  · rw [natc, a5, tyW_b, if_neg (by omega)]; rfl
  · rw [natc, a6, tyH_b, if_neg (by omega)]; rfl
  · rw [natc]; exact a1
  · rw [natc, a2]; omega
  · rw [natc]; exact a4
  · rw [natc]; exact a3
theorem wi_var {s : aZ} {v : Nat → Int} (W j : Nat) (h : zz s 75 W = 0 ∧ zz s 76 W = v j ∧ zz s 77 W = -1 ∧ zz s 79 W = 0 ∧ zz s 80 W = 1 ∧ zz s 81 W = 1) : WI s v (.leaf (0, j)) false W (W + 1) W := by
  obtain ⟨a1, a2, a3, a4, a5, a6⟩ := h
  refine ⟨⟨by omega, by omega⟩, rfl, ?_, ?_, ?_, ?_, ?_, ?_⟩ <;> rw [natc] <;> assumption
theorem m_row (hB : a_Can B) (hcap : MCap t n vs) (W i0 dep K : Nat) (hdep : dep ≤ 40) : ∀ (N : Nat), (∀ M, M < N → MA2 B t n vs M) → ∀ (d j W2 : Nat) (ts : List aT) (r x1 : Int) (u5 u6 : Value) (s0 s : aZ) (l0 l : aZL) (res : (Int × Nat) ⊕ (aT × Nat)), 19 + 3 * (40 - dep) ≤ d → pty t n N 3 dep j = some res → MAt t n vs j s l → MRw t n vs W W2 i0 dep ts r s → W2 + K ≤ j → FrW s0 s l0 l → WFr W s0 s → a_W d 168 103 [.ref 56, iv x1, iv (W : Int), iv r, iv 1, u5, u6] [] (mkH B s l) (MPo t n vs W dep K (resM (fun R => .branch (4 * i0 + 1) (accF ts R) (.leaf (1, 0))) res) B s0 l0) := by
  intro N
  induction N with
  | zero => intro _ d j W2 ts r x1 u5 u6 s0 s l0 l res hd h; exact absurd h (by intro h; cases h)
  | succ N ih =>
    intro hA2 d j W2 ts r x1 u5 u6 s0 s l0 l res hd h hA hM hW2 hf hg
    have ih := ih (fun M hM => hA2 M (by omega))
    have j6 := hA.le
    rw [pty_3] at h
    have h22 : zz s 56 22 = 0 := by rcases hA.1 with c | c <;> exact c.2.1
    -- the end of the row
    have fin : ∀ (v6 : Int) (s2 : aZ) (l2 : aZL) (res : (Int × Nat) ⊕ (aT × Nat)), FrM s s2 l l2 → ((res = .inr (.leaf (1, 0), j) ∧ MAt t n vs j s2 l2) ∨ (∃ f j, res = .inl (f, j) ∧ MF t n f (stT t n j) (nsT t n vs (j + 1)) s2 l2)) → a_W d 168 151 [.ref 56, iv x1, iv (W : Int), iv r, iv 1, iv v6, u6] [] (mkH B s2 l2) (MPo t n vs W dep K (resM (fun R => .branch (4 * i0 + 1) (accF ts R) (.leaf (1, 0))) res) B s0 l0) := by
      intro v6 s2 l2 res f2 hr
      obtain ⟨a1, a2, a3, a4, a5, a6, a7, a8, a9, a10⟩ := hM.m f2
      refine w168_151 hB x1 _ r 1 v6 u6 s2 l2 (w168_103 hB (by omega) x1 _ r 0 _ u6 s2 l2 ⟨by decide, fun _ => ?_, fun h => absurd rfl h⟩)
      refine m_rowEnd hB (by omega) W W2 dep K i0 j ts r x1 0 _ u6 a1 hW2 j6 (hf.tr f2.w) (hg.tr (f2.wf W) (Nat.le_refl _)) a2 a3 a4 a5 a6 a7 a8 a9 res ?_
      rcases hr with ⟨e, hA⟩ | hF
      · exact Or.inl ⟨e, hA, a10⟩
      · exact Or.inr hF
    refine w168_103 hB (by omega) x1 _ r 1 u5 u6 s l ⟨by decide, fun h => absurd h (by decide), fun _ => ⟨fun h => absurd h22 h, fun _ => a_W.imp (m_look0 hB (by omega) hcap j hA) ?_⟩⟩
    rintro _ ⟨s2, l2, f2, ⟨h0, rfl, hC⟩ | ⟨h0, rfl, hF⟩⟩
    · have hk := kd_rng h0
      have hM2 := hM.m f2
      have hf2 := hf.tr f2.w
      have hg2 := hg.tr (f2.wf W) (Nat.le_refl _)
      rcases pLk_some h with ⟨c, -⟩ | ⟨-, h⟩
      · exact absurd h0 c
      have k1 : kM (kdT t n j) = 1 ↔ kdT t n j = 1 := kM_inj (b := 1) ⟨hk.1, hk.2.1⟩ (by decide)
      have k2 : kM (kdT t n j) = 2 ↔ kdT t n j = 2 := kM_inj (b := 2) ⟨hk.1, hk.2.1⟩ (by decide)
      have k4 : kM (kdT t n j) = 4 ↔ kdT t n j = 4 := kM_inj (b := 4) ⟨hk.1, hk.2.1⟩ (by decide)
      have c2 := hC.2.1
      have c4 := hC.2.2.2.1
      have e31 : (zz s2 56 31).toNat = j := by omega
      have hlt : kdT t n j ≠ 0 → ∀ q, q < j + 1 → stT t n q < n := fun hk0 q hq => by
        by_cases e : q = j
        · subst e; omega
        · exact hA.2 q (by omega)
      obtain ⟨b1, b2, b3, b4, b5, b6, b7, b8, b9, b10⟩ := hM2
      have eW : (zz s2 56 33).toNat = W2 := by omega
      have tk := hC.2.2.2.2.2.2.2.1 j (Nat.lt_succ_self _)
      have rr : inR r := by have := b2.r; exact ⟨by omega, by omega⟩
      -- a lone name or variable
      have lone : ∀ (k o : Int) (T : aT) (q : (Int × Nat) ⊕ (aT × Nat)), inR k → inR o → kdT t n j ≠ 0 → tyW T = 1 → (∀ s1 : aZ, (zz s1 75 W2 = k ∧ zz s1 76 W2 = o ∧ zz s1 77 W2 = -1 ∧ zz s1 79 W2 = 0 ∧ zz s1 80 W2 = 1 ∧ zz s1 81 W2 = 1) → WI s1 (vT t n vs) T false W2 (W2 + 1) W2) → pty t n N 3 dep (j + 1) = some q → a_W d 168 103 [.ref 56, iv x1, iv (W : Int), iv (W2 : Int), iv 1, iv (kM (kdT t n j)), iv (W2 : Int)] [] (mkH B (zu (zu (zu (wr7 s2 W2 k o) 56 33 ((W2 : Int) + 1)) 56 31 ((j : Int) + 1)) 78 W2 r) l2) (MPo t n vs W dep K (resM (fun R => .branch (4 * i0 + 1) (accF (T :: ts) R) (.leaf (1, 0))) q) B s0 l0) := by
        intro k o T q hk ho hk0 hT1 hT hq
        obtain ⟨p1, p2, p3, p4⟩ := wr7_new s2 W2 (by omega) k o ((j : Int) + 1) hk ho _ rfl
        have fw := wr7_fr s2 l2 W2 k o ((j : Int) + 1)
        have hC2 : MC t n vs (j + 1) (j + 1) (zu (zu (wr7 s2 W2 k o) 56 33 ((W2 : Int) + 1)) 56 31 ((j + 1 : Nat) : Int)) l2 := (hC.rw (wr7_r s2 W2 k o)).now (i2 := j + 1) (by omega)
        rw [show ((j + 1 : Nat) : Int) = (j : Int) + 1 by omega] at hC2
        have hTT := hT _ p1
        generalize (zu (zu (wr7 s2 W2 k o) 56 33 ((W2 : Int) + 1)) 56 31 ((j : Int) + 1)) = s3 at *
        have fn := FrR.next s3 W2 r
        refine ih d (j + 1) (W2 + 1) (T :: ts) _ x1 _ _ s0 (zu s3 78 W2 r) l0 l2 q hd hq ⟨Or.inl (hC2.rw fn), hlt hk0⟩ (MRw.push (x := W2) ⟨b1, b2, b3, b4, b5, b6, b7, b8, b9, b10⟩ hTT (by omega) p2 p3 (p4.trans b10) (fun k j h1 h2 h3 => zz_ne _ _ _ _ _ _ (by omega)) (zz_same _ _ _ rr) (zz_ne _ _ _ _ _ _ (by omega)) (zz_ne _ _ _ _ _ _ (by omega))) (by omega) (hf2.tr (fw.tr (fn.w l2))) (hg2.tr (fun k h1 h2 q hq => (zz_ne _ _ _ _ _ _ (by omega)).trans (p2 k h1 h2 q (by omega))) (Nat.le_refl _))
      refine ⟨_, s2, l2, rfl, inR_kM ⟨hk.1, hk.2.1⟩, fun g1 => ?_, fun g1 => ⟨fun g2 => ?_, fun g2 => ⟨fun g4 => ?_, fun g4 => ?_⟩⟩⟩
      · -- a name
        have hk1 := k1.mp g1
        rw [if_pos hk1] at h
        obtain ⟨q, hq, rfl⟩ := pBd_resM h
        rw [resM_f (f := fun R => .branch (4 * i0 + 1) (accF ts R) (.leaf (1, 0))) rfl (fun _ => rfl)]
        refine w168_140 hB (by omega) x1 _ r 1 _ u6 s2 l2 ⟨fun c => absurd c2 c, fun _ => ⟨inR_kM ⟨hk.1, hk.2.1⟩, fun _ => ⟨fun c => absurd g1 c, fun _ => ⟨⟨by omega, by omega⟩, ⟨by omega, by omega⟩, ?_⟩⟩, fun c => absurd (k4.mp c) (by omega)⟩⟩
        rw [eW, b9, show (W2 : Int) + 1 - 1 = (W2 : Int) by omega, natc, c4]
        exact lone 1 (j : Int) (.branch (4 * j + 1) (.leaf (1, 0)) (.leaf (1, 0))) q (by decide) ⟨by omega, by omega⟩ (by omega) (by rw [tyW_b, if_neg (by omega)]; rfl) (fun s1 h1 => wi_word W2 j h1) hq
      · -- a variable
        have hk2 := k2.mp g2
        rw [if_neg (by omega), if_pos hk2] at h
        obtain ⟨q, hq, rfl⟩ := pBd_resM h
        rw [resM_f (f := fun R => .branch (4 * i0 + 1) (accF ts R) (.leaf (1, 0))) rfl (fun _ => rfl)]
        refine w168_140 hB (by omega) x1 _ r 1 _ u6 s2 l2 ⟨fun c => absurd c2 c, fun _ => ⟨inR_kM ⟨hk.1, hk.2.1⟩, fun _ => ⟨fun _ => ⟨⟨by omega, by omega⟩, ⟨by omega, by omega⟩, ⟨by omega, by omega⟩, ?_⟩, fun c => absurd c g1⟩, fun c => absurd (k4.mp c) (by omega)⟩⟩
        rw [eW, b9, show (W2 : Int) + 1 - 1 = (W2 : Int) by omega, natc, c4, natc]
        exact lone 0 (zz s2 73 j) (.leaf (0, j)) q (by decide) (inR_zz _ _ _) (by omega) rfl (fun s1 h1 => wi_var W2 j ⟨h1.1, h1.2.1.trans (tk.2.2.2.2.1 hk2), h1.2.2⟩) hq
      · -- neither
        have n1 : ¬ kdT t n j = 1 := fun c => g1 (k1.mpr c)
        have n2 : ¬ kdT t n j = 2 := fun c => g2 (k2.mpr c)
        have n4 : ¬ kdT t n j = 4 := fun c => g4 (k4.mpr c)
        rw [if_neg n1, if_neg n2, if_neg n4] at h
        cases h
        exact fin _ s2 l2 _ f2 (Or.inl ⟨rfl, Or.inr hC, hA.2⟩)
      · -- parentheses
        have hk4 := k4.mp g4
        rw [if_neg (by omega), if_neg (by omega), if_pos hk4] at h
        refine w168_140 hB (by omega) x1 _ r 1 _ u6 s2 l2 ⟨fun c => absurd c2 c, fun _ => ⟨inR_kM ⟨hk.1, hk.2.1⟩, fun c => absurd g4 c, fun _ => ?_⟩⟩
        rcases pBd_some h with ⟨e, h1, rfl⟩ | ⟨a, j2, h1, h2⟩
        · refine a_W.imp (hA2 N (by omega) (d - 1) dep K j W2 s2 l2 _ (by omega) hdep h1 h0 hk4 hC hA.2 b10 b9 hW2) ?_
          rintro _ ⟨s3, l3, w, rfl, f3, g3, w3, ⟨T, j3, W3, hh, -⟩ | ⟨f, j3, hh, hF⟩⟩
          · cases hh
          · cases hh
            have hF' := hF
            obtain ⟨f1, f2, f3', f4, f5, f6, f7⟩ := hF
            refine ⟨_, s3, l3, rfl, fun c => absurd c (by omega), fun _ => ?_⟩
            have fw := FrW.now s3 l3 (zz s3 56 31 + 0)
            have f1' : MF t n f (stT t n j3) (nsT t n vs (j3 + 1)) (zu s3 56 31 (zz s3 56 31 + 0)) l3 := by
              have f : ∀ j, j ≠ 31 → zz (zu s3 56 31 (zz s3 56 31 + 0)) 56 j = zz s3 56 j := fun j hj => zz_ne _ _ _ _ _ _ (fun q => hj q.2)
              have g : ∀ j, zz (zu s3 56 31 (zz s3 56 31 + 0)) 57 j = zz s3 57 j := fun j => zz_ne _ _ _ _ _ _ (by omega)
              refine ⟨⟨(f 24 (by decide)).trans f1.1, f1.2.1, fun j hj => ⟨(g j).trans (f1.2.2 j hj).1, (f1.2.2 j hj).2⟩⟩, f2, (f 22 (by decide)).trans f3', (f 23 (by decide)).trans f4, ?_, ?_, f7.fr (f 5 (by decide)) rfl⟩
              · rw [zz_same _ _ _ ⟨by omega, by omega⟩]; omega
              · rw [zz_same _ _ _ ⟨by omega, by omega⟩]; omega
            exact ⟨_, l3, 0, rfl, hf2.tr (f3.tr fw), hg2.tr (fun k h1 h2 q hq => (zz_ne _ _ _ _ _ _ (by omega)).trans (g3 k h1 h2 q (by omega))) (Nat.le_refl _), by decide, Or.inr ⟨f, j3, rfl, f1'⟩⟩
        · refine a_W.imp (hA2 N (by omega) (d - 1) dep K j W2 s2 l2 _ (by omega) hdep h1 h0 hk4 hC hA.2 b10 b9 hW2) ?_
          rintro _ ⟨s3, l3, w, rfl, f3, g3, w3, ⟨T, j3, W3, hh, hA3, q32, q33, q34, hT⟩ | ⟨f, j3, hh, -⟩⟩
          · cases hh
            have j3' := hA3.le
            have p22 : zz s3 56 22 = 0 := by rcases hA3.1 with c | c <;> exact c.2.1
            have p31 : zz s3 56 31 = (j2 : Int) := by rcases hA3.1 with c | c <;> exact c.2.2.2.1
            refine ⟨_, s3, l3, rfl, fun _ => ⟨⟨by omega, by omega⟩, ?_⟩, fun c => absurd c (by omega)⟩
            obtain ⟨q, hq, rfl⟩ := pBd_resM h2
            rw [resM_f (f := fun R => .branch (4 * i0 + 1) (accF ts R) (.leaf (1, 0))) rfl (fun _ => rfl)]
            rw [natc, show zz s3 56 31 + 0 = ((j2 : Nat) : Int) by omega]
            have hA4 : MAt t n vs j2 (zu s3 56 31 ((j2 : Nat) : Int)) l3 := ⟨hA3.1.elim (fun c => Or.inl (c.now (by omega))) (fun c => Or.inr (c.now (by omega))), hA3.2⟩
            have fw := FrW.now s3 l3 ((j2 : Nat) : Int)
            have hT4 : WI (zu s3 56 31 ((j2 : Nat) : Int)) (vT t n vs) a false W2 W3 w := (WI.keep a).1 _ _ _ hT (fun k q h1 h2 _ _ _ => zz_ne _ _ _ _ _ _ (by omega))
            have g4' : WFr W2 s2 (zu s3 56 31 ((j2 : Nat) : Int)) := fun k h1 h2 q hq => (zz_ne _ _ _ _ _ _ (by omega)).trans (g3 k h1 h2 q hq)
            have q32' : zz (zu s3 56 31 ((j2 : Nat) : Int)) 56 32 = dep := (zz_ne _ _ _ _ _ _ (by omega)).trans q32
            have q33' : zz (zu s3 56 31 ((j2 : Nat) : Int)) 56 33 = (W3 : Nat) := (zz_ne _ _ _ _ _ _ (by omega)).trans q33
            generalize (zu s3 56 31 ((j2 : Nat) : Int)) = s4 at *
            have fn := FrR.next s4 w r
            exact ih d j2 W3 (a :: ts) _ x1 _ _ s0 (zu s4 78 w r) l0 l3 q hd hq (hA4.rw fn) (MRw.push (x := w) ⟨b1, b2, b3, b4, b5, b6, b7, b8, b9, b10⟩ hT4 q34.2 g4' q33' q32' (fun k j h1 h2 h3 => zz_ne _ _ _ _ _ _ (by omega)) (zz_same _ _ _ rr) (zz_ne _ _ _ _ _ _ (by omega)) (zz_ne _ _ _ _ _ _ (by omega))) q34.1 (hf2.tr (f3.tr (fw.tr (fn.w l3)))) (hg2.tr (fun k h1 h2 q hq => (zz_ne _ _ _ _ _ _ (by have := hT.rng; omega)).trans (g4' k h1 h2 q (by omega))) (Nat.le_refl _))
          · cases hh
    · rcases pLk_some h with ⟨-, rfl⟩ | ⟨c, -⟩
      · exact ⟨_, s2, l2, rfl, by decide, fun c => absurd c (by decide), fun _ => ⟨fun c => absurd c (by decide), fun _ => ⟨fun _ => fin _ s2 l2 _ f2 (Or.inr ⟨_, _, rfl, hF⟩), fun c => absurd c (by decide)⟩⟩⟩
      · exact absurd c h0
end
