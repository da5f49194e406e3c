/-! THE READER DECLARES A CONSTANT -/
/-- what declaring a constant may touch of the reader -/
def FrC (s s2 : aZ) : Prop := (∀ k, k ≠ 1 → k ≠ 3 → k ≠ 4 → k ≠ 5 → k ≠ 6 → k ≠ 7 → (k < 17 ∨ 33 < k) → k ≠ 36 → k ≠ 37 → s2 k = s k) ∧ ∀ j, j ∉ [4, 6, 7, 8, 9, 10, 11] → zz s2 1 j = zz s 1 j
theorem FrC.tr {s1 s2 s3 : aZ} (a : FrC s1 s2) (b : FrC s2 s3) : FrC s1 s3 := ⟨fun k h1 h2 h3 h4 h5 h6 h7 h8 h9 => (b.1 k h1 h2 h3 h4 h5 h6 h7 h8 h9).trans (a.1 k h1 h2 h3 h4 h5 h6 h7 h8 h9), fun j h => (b.2 j h).trans (a.2 j h)⟩
theorem FrY.c {s s2 : aZ} (h : FrY s s2) : FrC s s2 := ⟨fun k h1 h2 h3 h4 h5 h6 h7 h8 h9 => h.1 k h1 h2 h3 h4 h5 h6 (by omega) h8 h9, h.2.1⟩
theorem FrC.z36 (s : aZ) (j : Nat) (x : Int) : FrC s (zu s 36 j x) := ⟨fun k _ _ _ _ _ _ _ g _ => zu_ne _ _ _ _ _ g, fun j _ => zz_ne _ _ _ _ _ _ (by omega)⟩
/-- the reader's table of constants -/
def XCo (cn : List (List Int)) (ct : List aT) (s : aZ) : Prop := NT 26 28 29 30 27 2688 112 cn s ∧ ct.length = cn.length ∧ tot cn + 24 * (112 - cn.length) ≤ 2688 ∧ ∀ c, c < cn.length → 0 < (pre (ct.getD c cNo)).length ∧ (pre (ct.getD c cNo)).length ≤ 40 ∧ zz s 33 c = ((40 * c + (pre (ct.getD c cNo)).length : Nat) : Int) ∧ ∀ j, j < (pre (ct.getD c cNo)).length → zz s 32 (40 * c + j) = (pre (ct.getD c cNo)).getD j 0
theorem XCo.fr {cn : List (List Int)} {ct : List aT} {s s2 : aZ} (h : XCo cn ct s) (f : ∀ k, 26 ≤ k → k ≤ 33 → s2 k = s k) : XCo cn ct s2 := by
  obtain ⟨h1, h2, h3, h4⟩ := h
  refine ⟨h1.fr (zz_of (f 26 (by decide) (by decide)) 4) (f 28 (by decide) (by decide)) (f 29 (by decide) (by decide)) (f 30 (by decide) (by decide)) (f 27 (by decide) (by decide)), h2, h3, fun c hc => ?_⟩
  obtain ⟨a1, a2, a3, a4⟩ := h4 c hc
  exact ⟨a1, a2, (zz_of (f 33 (by decide) (by decide)) c).trans a3, fun j hj => (zz_of (f 32 (by decide) (by decide)) _).trans (a4 j hj)⟩
section
variable {B : aH} {t : Nat → Int} {n : Nat} {ns tn : List (List Int)} {ta : List Int}
theorem x_writtenF (hB : a_Can B) {d : Nat} (hd : 9 ≤ d) (l : aZL) (x1 : Int) {P : Nat} (hP : P ≤ 17000) {s : aZ} (hS : PS P s) {f : Int} {j : Nat} (hF : XFt t n ns f j s) : a_W d 65 0 [.ref 36, iv x1, .retAddr 0, .retAddr 0, .retAddr 0] [] (mkH B s l) (fun q => ∃ (s2 : aZ) (v : Int), q = (.inl (some (iv 0)), mkH B (zu s2 36 5 v) l) ∧ Hv P s s2) := by
  refine a_W.imp (x_readF hB (by omega) l x1 hP hS hF) ?_
  rintro _ ⟨s2, v, rfl, hv, -⟩
  exact ⟨s2, v, rfl, hv⟩
/-- what declaring a constant comes to -/
def CoX (t : Nat → Int) (n : Nat) (ns tn : List (List Int)) (ta : List Int) (cn : List (List Int)) (ct : List aT) (B : aH) (s : aZ) (l : aZL) (q : aR) : Prop := ∃ s2, FrC s s2 ∧ NT 3 5 6 7 4 10240 3000 (nsT t n ns (coN t n)) s2 ∧ ((∃ f j, coR t n tn ta cn = .inl (f, j) ∧ q = (.inl (some (iv (-1))), mkH B s2 l) ∧ zz s2 1 10 = f ∧ zz s2 1 11 = stT t n j ∧ XCo cn ct s2) ∨ (∃ T, coR t n tn ta cn = .inr T ∧ q = (.inl (some (iv (cn.length : Int))), mkH B s2 l) ∧ zz s2 1 10 = 0 ∧ zz s2 1 11 = -1 ∧ XCo (cn ++ [nmW t n (stT t n 0)]) (ct ++ [cdT t n ns tn T]) s2 ∧ wfC tn.length ta (cdT t n ns tn T)))
theorem x_declConst (hB : a_Can B) {d : Nat} (hd : 240 ≤ d) (hcap : XCap t n ns) (hta : ∀ i, ta.getD i 0 ≤ 2) (h2 : 2 < tn.length) (h2a : ta.getD 2 0 = 2) {s : aZ} (l : aZL) (hA : XAt t n ns 0 s) (h5 : zz s 1 5 = stT t n 0) (hT : XTy tn ta s) (cn : List (List Int)) (ct : List aT) (hCo : XCo cn ct s) (hS : PS 1 s) (h4 : zz s 36 4 = 0) (h55 : zz s 36 5 = 0) (h6 : zz s 36 6 = 0) (h11 : zz s 17 11 = 0) : a_W d 121 0 [.ref 0, .retAddr 0, .retAddr 0, .retAddr 0] [] (mkH B s l) (CoX t n ns tn ta cn ct B s l) := by
  have e26 : ∀ {s1 s2 : aZ}, FrX s1 s2 → ∀ k, 26 ≤ k → k ≤ 33 → s2 k = s1 k := fun f k h1 _ => f.hi k (by omega)
  -- a fault is there
  have bad95 : ∀ (s3 : aZ) (f : Int) (j : Nat) (x1 x2 x3 : Int), XFt t n ns f j s3 → FrC s s3 → (∀ k, 26 ≤ k → k ≤ 33 → s3 k = s k) → coP t n = some (.inl (f, j)) → a_W d 121 95 [.ref 0, iv x1, iv x2, iv x3] [] (mkH B s3 l) (CoX t n ns tn ta cn ct B s l) := by
    intro s3 f j x1 x2 x3 hF hf he hP
    refine w121_95 hB (by omega) x1 x2 x3 s3 l ⟨fun _ => ⟨s3, hf, ?_, Or.inl ⟨f, j, ?_, rfl, hF.2.2.1, hF.2.2.2.1, hCo.fr he⟩⟩, fun g => absurd (hF.2.2.1.symm.trans g) hF.2.1⟩
    · unfold coN
      rw [hP]
      exact hF.2.2.2.2.2
    · unfold coR
      rw [hP]
  have bad64 : ∀ (s1 : aZ) (f : Int) (j : Nat) (x1 x2 : Int) (R1 R2 : aZ → aZL → Int → Prop), XFt t n ns f j s1 → FrX s s1 → coP t n = some (.inl (f, j)) → a_W (d - 1) 65 0 [.ref 36, iv 0, .retAddr 0, .retAddr 0, .retAddr 0] [] (mkH B s1 l) (fun r => ∃ (v5 : Int) (s3 : Nat → Nat → Int32) (l4 : Nat → Nat → Int64), r = (.inl (some (iv v5)), mkH B s3 l4) ∧ (((zz s3 1 6) = 0 → (((zz s3 1 10) ≠ 0 → a_W d 121 95 [.ref 0, iv x1, iv x2, iv v5] [] (mkH B s3 l4) (CoX t n ns tn ta cn ct B s l)) ∧ ((zz s3 1 10) = 0 → R1 s3 l4 v5))) ∧ ((zz s3 1 6) ≠ 0 → R2 s3 l4 v5))) := by
    intro s1 f j x1 x2 R1 R2 hF hf hP
    refine a_W.imp (x_writtenF hB (by omega) l 0 (by decide) (hf.ps hS) hF) ?_
    rintro _ ⟨s2, v, rfl, hv⟩
    have hk : ∀ k, k ≠ 21 → k ≠ 36 → zu s2 36 5 v k = s1 k := fun k g1 g2 => (zu_ne _ _ _ _ _ g2).trans (hv.k k g1)
    have hF2 : XFt t n ns f j (zu s2 36 5 v) := hF.keep (fun k g => hk k (by omega) (by omega))
    refine ⟨_, _, l, rfl, fun _ => ⟨fun _ => bad95 _ f j x1 x2 0 hF2 (hf.y.c.tr (hv.y.c.tr (FrC.z36 _ _ _))) (fun k g1 g2 => (hk k (by omega) (by omega)).trans (hf.hi k (by omega))) hP, fun g => absurd (hF2.2.2.1.symm.trans g) hF2.2.1⟩, fun g => absurd hF2.k0 g⟩
  have bad47 : ∀ (s1 : aZ) (f : Int) (j : Nat) (x1 x2 : Int), XFt t n ns f j s1 → FrX s s1 → coP t n = some (.inl (f, j)) → a_W d 121 47 [.ref 0, iv x1, iv x2, .retAddr 0] [] (mkH B s1 l) (CoX t n ns tn ta cn ct B s l) := by
    intro s1 f j x1 x2 hF hf hP
    refine w121_47 hB (by omega) x1 x2 s1 l (a_W.imp (x_expect_f hB (by omega) l 6 (by decide) hF) ?_)
    rintro _ rfl
    exact ⟨s1, l, rfl, bad64 s1 f j x1 x2 _ _ hF hf hP⟩
  by_cases h0 : ftT t n 0 = 0
  rotate_left
  · have hF := hA.f h0
    have hP : coP t n = some (.inl (ftT t n 0, 0)) := if_pos h0
    refine w121_0 hB (by omega) s l ⟨fun _ => ⟨fun _ => bad47 s _ 0 _ _ hF (FrX.rf s) hP, fun g => absurd (hF.2.2.1.symm.trans g) hF.2.1⟩, fun g => absurd ?_ g⟩
    rw [hF.k0]
    decide
  have hC := hA.1 h0
  have k6 : zz s 1 6 = kdT t n 0 := hC.2.2.2.2.1
  have hk := kd_rng h0
  have eP : coP t n = if z122 (kdT t n 0) ≠ 0 then pLk t n 1 (if kdT t n 1 = 6 then pBd (pty t n 30000 0 0 2) (fun T j => if kdT t n j = 0 then some (.inr (T, j)) else some (.inl (2, j))) else some (.inl (2, 1))) else some (.inl (2, 0)) := if_neg (fun q => q h0)
  by_cases hz : z122 (kdT t n 0) = 0
  · obtain ⟨k1, k2⟩ := hC.die 2 (by decide) (by decide)
    refine w121_0 hB (by omega) s l ⟨fun _ => ⟨fun g => absurd hC.2.1 g, fun _ => bad47 _ 2 0 _ _ k1 k2 ?_⟩, fun g => absurd ?_ g⟩
    · rw [eP, if_neg (fun q => q hz)]
    · rw [k6]; exact hz
  rw [if_pos hz] at eP
  have hkk : kdT t n 0 = 1 ∨ (10 ≤ kdT t n 0 ∧ kdT t n 0 ≤ 22) := by
    unfold z122 at hz
    omega
  have hs : stT t n 0 < n := by omega
  obtain ⟨i6, hF0⟩ := ft0 h0 hs
  have ekd : kdT t n 0 = tkK t n (stT t n 0) := by unfold kdT; rw [if_pos hs]
  rw [ekd] at hkk
  obtain ⟨v1, v2, v3, v4, v5⟩ := co_nm hC.1 hs hF0 hkk
  have x7 : zz s 1 7 = (stT t n 0 : Nat) := hC.2.2.2.1
  have x8 : zz s 1 8 = (tkE t n (stT t n 0) : Nat) := (hC.2.2.2.2.2.1 hs).1
  have n8 := hC.1.2.1
  refine w121_0 hB (by omega) s l ⟨fun g => absurd (by rw [k6] at g; exact g) hz, fun _ => a_W.imp (x_advance hB (by omega) hcap l 0 h0 hs hC) ?_⟩
  rintro _ ⟨s1, rfl, hA1, f1, -⟩
  refine ⟨s1, l, rfl, ?_⟩
  rw [x7, x8]
  refine w121_47 hB (by omega) _ _ s1 l (a_W.imp (x_expect hB (by omega) hcap l 1 6 (by decide) hA1) ?_)
  rintro _ ⟨s2, rfl, f2, hc⟩
  refine ⟨s2, l, rfl, ?_⟩
  have f12 := f1.tr f2
  rcases hc with ⟨c1, c2, c3, hA2⟩ | ⟨c1, c2, c3⟩ | ⟨c1, c2⟩
  rotate_left
  · refine bad64 s2 2 1 _ _ _ _ c3 f12 ?_
    rw [eP]
    unfold pLk
    rw [if_neg (fun q => q c1), if_neg c2]
  · refine bad64 s2 _ 1 _ _ _ _ c2 f12 ?_
    rw [eP]
    unfold pLk
    rw [if_pos c1]
  have eP2 : coP t n = pBd (pty t n 30000 0 0 2) (fun T j => if kdT t n j = 0 then some (.inr (T, j)) else some (.inl (2, j))) := by
    rw [eP]
    unfold pLk
    rw [if_neg (fun q => q c1), if_pos c2]
  obtain ⟨res, hres⟩ := pty_fuel t n 30000 0 0 2 (by decide) (fun c => absurd c (by decide)) (by decide) (by decide)
  have z36 : ∀ q, zz s2 36 q = zz s 36 q := fun q => zz_of (f12.hi 36 (by decide)) q
  refine a_W.imp (x_written hB hcap hta h2a True 30000 (d - 1) 0 0 2 1 0 s2 l res (by omega) (by decide) hres (by decide) hA2 (f12.y.ty hT) (f12.ps hS) ((z36 4).trans h4) (by decide) (by decide) (fun _ => by decide) (fun _ => (zz_of (f12.hi 17 (by decide)) 11).trans h11)) ?_
  rintro _ ⟨s3, w, P2, v, rfl, a2, a3, a9, a4, a5, a6, a7, hv01, a8⟩
  have hk3 : ∀ k, k ≠ 36 → zu s3 36 5 v k = s3 k := fun k g => zu_ne _ _ _ _ _ g
  have fC : FrC s (zu s3 36 5 v) := f12.y.c.tr (a2.c.tr (FrC.z36 _ _ _))
  have fE : ∀ k, 26 ≤ k → k ≤ 33 → zu s3 36 5 v k = s k := fun k g1 g2 => (hk3 k (by omega)).trans ((a2.1 k (by omega) (by omega) (by omega) (by omega) (by omega) (by omega) (by omega) (by omega) (by omega)).trans (f12.hi k (by omega)))
  rcases a8 with ⟨T, j, b1, hA3, bG⟩ | ⟨f, j, b1, hF3⟩
  rotate_left
  · subst b1
    have hF4 : XFt t n ns f j (zu s3 36 5 v) := hF3.keep (fun k g => hk3 k (by omega))
    refine ⟨_, _, l, rfl, fun _ => ⟨fun _ => bad95 _ f j _ _ _ hF4 fC fE ?_, fun g => absurd (hF4.2.2.1.symm.trans g) hF4.2.1⟩, fun g => absurd hF4.k0 g⟩
    rw [eP2, hres]
    rfl
  subst b1
  obtain ⟨g0, g1, g2, g3, g4, g5, g6⟩ := bG trivial
  have hj0 := pty0_ft t n 30000 0 2 T j hres
  have hA4 : XAt t n ns j (zu s3 36 5 v) := hA3.keep (fun k g => hk3 k (by omega))
  have hC4 := hA4.1 hj0
  have hA5 : zz (zu s3 36 5 v) 1 5 = stT t n 0 := (fC.2 5 (by decide)).trans h5
  have eP3 : coP t n = if kdT t n j = 0 then some (.inr (T, j)) else some (.inl (2, j)) := by rw [eP2, hres]; rfl
  have kj : zz (zu s3 36 5 v) 1 6 = kdT t n j := hC4.2.2.2.2.1
  have x10 := hC4.2.1
  have w5 : zz (zu s3 36 5 v) 36 5 = v := zz_same _ _ _ (by rcases hv01 with e | e <;> rw [e] <;> decide)
  have w6 : zz (zu s3 36 5 v) 36 6 = bF (tyBad t n tn ta T) 0 := by
    rw [zz_ne _ _ _ _ _ _ (by omega), g4, z36 6, h6]
  have hS4 : PS P2 (zu s3 36 5 v) := a5.z (zz_ne _ _ _ _ _ _ (by omega)) (fun k _ _ j => zz_ne _ _ _ _ _ _ (by omega))
  have hPI4 : PI t n ns tn ta (zu s3 36 5 v) 1 P2 T false w 0 := PI.keep (fun k j q1 q2 _ _ => zz_ne _ _ _ _ _ _ (by omega)) (Nat.le_refl _) (Nat.le_refl _) _ _ _ _ g3
  have hlg : v = 1 ↔ LgT T := by
    rw [g5]
    refine ⟨fun q => q.elim (fun c => absurd ((z36 5).trans h55) c) id, Or.inr⟩
  clear bG g3 g2 g4 g5 a5 hF0 hA3
  generalize zu s3 36 5 v = s4 at *
  refine ⟨_, s4, l, rfl, fun gk => ⟨fun c => absurd x10 c, fun _ => ?_⟩, fun gk => ⟨fun c => absurd x10 c, fun _ => ?_⟩⟩
  rotate_left
  · obtain ⟨k1, k2⟩ := hC4.die 2 (by decide) (by decide)
    refine bad95 _ 2 j _ _ _ k1 (fC.tr k2.y.c) (fun k q1 q2 => (k2.hi k (by omega)).trans (fE k q1 q2)) ?_
    rw [eP3, if_neg (by rw [kj] at gk; exact gk)]
  rw [kj] at gk
  rw [if_pos gk] at eP3
  have hCo4 := hCo.fr fE
  have hT4 : XT t n s4 := hC4.1
  have v1' : Sg (zz s4 2) (stT t n 0) (nmW t n (stT t n 0)) := (co_nm hT4 hs ((ft0 h0 hs).2) hkk).1
  have hns4 : NT 3 5 6 7 4 10240 3000 (nsT t n ns (coN t n)) s4 := by
    unfold coN
    rw [eP3]
    exact hC4.2.2.2.2.2.2.2.1
  have cl := hCo4.1.2.2.2.1
  have cc : zz s4 26 4 = cn.length := hCo4.1.1.1
  have eR : coR t n tn ta cn = if 0 ≤ fd cn (nmW t n (stT t n 0)) cn.length then .inl (4, 0) else if 112 ≤ cn.length ∨ 40 < tyW T ∨ 12 < tyH T then .inl (8, 0) else if tyBad t n tn ta T = true then .inl (3, 0) else .inr T := by
    unfold coR
    rw [eP3]
  have fr := fd_rng cn (nmW t n (stT t n 0))
  refine w123_0 hB (by omega) _ _ s4 l (a_W.imp (x_find26 hB (by omega) s4 l cn hCo4.1 (stT t n 0) (tkE t n (stT t n 0)) (nmW t n (stT t n 0)) v2 (by omega) v1') ?_)
  rintro _ rfl
  -- a fault of the whole
  have whole : ∀ f : Int, f ≠ 0 → inR f → coR t n tn ta cn = .inl (f, 0) → ∃ (v10 : Int) (s8 : Nat → Nat → Int32) (l9 : Nat → Nat → Int64), ((.inl (some (iv f)), mkH B s4 l) : aR) = (.inl (some (iv v10)), mkH B s8 l9) ∧ a_W (d - 1) 113 0 [.ref 1, iv v10] [] (mkH B s8 l9) (fun r => ∃ (s11 : Nat → Nat → Int32) (l12 : Nat → Nat → Int64), r = (.inl none, mkH B s11 l12) ∧ a_W d 121 95 [.ref 0, iv (stT t n 0 : Nat), iv (tkE t n (stT t n 0) : Nat), iv (w : Int)] [] (mkH B s11 l12) (CoX t n ns tn ta cn ct B s l)) := by
    intro f hf0 hfi hR
    refine ⟨_, s4, l, rfl, w113_0 hB (by omega) f s4 l ⟨hfi, fun q => absurd q hf0, fun _ => ⟨fun q => absurd x10 q, fun _ => ?_⟩⟩⟩
    have fr1 : Fr1 [6, 10, 11] s4 (zu (zu (zu s4 1 10 f) 1 11 (zz s4 1 5)) 1 6 0) := fl_fr (Fr1.rf _ s4) _ _ (by decide) (by decide) (by decide)
    obtain ⟨m1, m2, m3⟩ := fl_bad s4 f (zz s4 1 5) hfi (inR_zz _ _ _)
    refine ⟨_, l, rfl, w121_95 hB (by omega) _ _ _ _ l ⟨fun _ => ?_, fun g => absurd (m2.symm.trans g) hf0⟩⟩
    exact ⟨_, fC.tr (FrX.of1 fr1 (by decide)).y.c, NT3.fr1 hns4 fr1, Or.inl ⟨f, 0, hR, rfl, m2, m3.trans hA5, hCo4.fr (fun k q1 q2 => fr1.1 k (by omega))⟩⟩
  refine ⟨_, s4, l, rfl, ⟨by omega, by omega⟩, fun gneg => ⟨fun gfull => whole 8 (by decide) (by decide) ?_, fun glt => ⟨fun g5 => ⟨fun g6 => ?_, fun g6 => whole 3 (by decide) (by decide) ?_⟩, fun g5 => whole 8 (by decide) (by decide) ?_⟩⟩, fun gpos => whole 4 (by decide) (by decide) ?_⟩
  · rw [eR, if_neg (by omega), if_pos (Or.inl (by omega))]
  · -- it is declared
    have hnl : ¬ LgT T := fun c => by have := hlg.mpr c; omega
    have hnb : tyBad t n tn ta T = false := by
      cases e : tyBad t n tn ta T with
      | false => rfl
      | true =>
        rw [w6, e] at g6
        exact absurd g6 (by decide)
    have hR : coR t n tn ta cn = .inr T := by
      rw [eR, if_neg (by omega), if_neg (fun q => q.elim (fun c => by omega) (fun c => hnl c)), if_neg (by rw [hnb]; decide)]
    have hW40 : tyW T ≤ 40 := Nat.le_of_not_lt (fun c => hnl (Or.inl c))
    obtain ⟨y1, y2, y3⟩ := (cd_all hcap h2 h2a T false w 0 hPI4 hnb).1 rfl
    have yN := (PI.code hcap T false w 0 hPI4 hnb).1 rfl
    have yR := (PI.root T false w 0 hPI4 hnb).1 rfl
    have n5 := hPI4.node.2.2.2.2
    refine ⟨_, s4, l, rfl, w113_0 hB (by omega) 0 s4 l ⟨by decide, fun _ => ⟨s4, l, rfl, ?_⟩, fun q => absurd rfl q⟩⟩
    refine w121_95 hB (by omega) _ _ _ s4 l ⟨fun q => absurd x10 q, fun _ => ?_⟩
    have htot := NTs.tot hCo4.1.1
    have h4' := hCo4.2.2.1
    have hvl := v4.1
    refine w124_0 hB (by omega) _ _ _ s4 l (a_W.imp (x_add26 hB (by omega) s4 l cn hCo4.1 (stT t n 0) (tkE t n (stT t n 0)) (nmW t n (stT t n 0)) v2 (by omega) v1' (fun c hc => by have := v4.2 c hc; omega) (by omega) (by rw [htot]; omega)) ?_)
    rintro _ ⟨s6, rfl, k1, k2, k3⟩
    refine ⟨_, s6, l, rfl, ⟨by omega, by omega⟩, fun q => absurd q (by omega), fun _ => ?_⟩
    rw [show (cn.length : Int) * 40 = ((40 * cn.length : Nat) : Int) by omega]
    have kp : ∀ k j, 18 ≤ k → k ≤ 23 → 1 ≤ j → j < P2 → zz s6 k j = zz s4 k j := fun k j q1 q2 _ _ => zz_of (k3 k (by omega) (by omega) (by omega) (by omega) (by omega)) j
    have yN6 : NI 18 19 20 s6 1 P2 (cdT t n ns tn T) w := NI.keep (fun k j q q1 q2 => kp k j (by omega) (by omega) q1 q2) (Nat.le_refl _) (Nat.le_refl _) _ _ yN
    have yR6 : NR s6 (cdT t n ns tn T) w := NR.keep kp _ _ yN yR
    refine a_W.imp (x_write hB (by omega) l P2 1 P2 a9 (Nat.le_refl _) (cdT t n ns tn T) w (40 * cn.length) s6 (by omega) (fun j hj => by rw [zz_of (k3 21 (by decide) (by decide) (by decide) (by decide) (by decide))]; exact hS4.2.2.1 j hj) yN6 yR6 (wfC.code _ y1) (by omega) (by omega)) ?_
    rintro _ ⟨s7, rfl, q1, q2, q3⟩
    refine ⟨_, s7, l, rfl, ⟨by omega, by omega⟩, ?_⟩
    rw [natc]
    have fk : ∀ k, k ≠ 24 → (k < 26 ∨ 33 < k) → zu s7 33 cn.length ((40 * cn.length + (pre (cdT t n ns tn T)).length : Nat) : Int) k = s4 k := fun k r1 r2 => by rw [zu_ne _ _ _ _ _ (by omega), q1 k r1 (by omega), k3 k (by omega) (by omega) (by omega) (by omega) (by omega)]
    refine ⟨_, _, l, rfl, ?_⟩
    refine ⟨_, fC.tr ⟨fun k _ _ _ _ _ _ r7 _ _ => fk k (by omega) (by omega), fun j _ => zz_of (fk 1 (by decide) (by decide)) j⟩, hns4.fr (zz_of (fk 3 (by decide) (by decide)) 4) (fk 5 (by decide) (by decide)) (fk 6 (by decide) (by decide)) (fk 7 (by decide) (by decide)) (fk 4 (by decide) (by decide)), Or.inr ⟨T, hR, rfl, (zz_of (fk 1 (by decide) (by decide)) 10).trans x10, (zz_of (fk 1 (by decide) (by decide)) 11).trans hC4.2.2.1, ⟨?_, ?_, ?_, ?_⟩, y1⟩⟩
    · have fk2 : ∀ k, k = 26 ∨ k = 27 ∨ k = 28 ∨ k = 29 ∨ k = 30 → zu s7 33 cn.length ((40 * cn.length + (pre (cdT t n ns tn T)).length : Nat) : Int) k = s6 k := fun k r => by rw [zu_ne _ _ _ _ _ (by omega), q1 k (by omega) (by omega)]
      exact k1.fr (zz_of (fk2 26 (by omega)) 4) (fk2 28 (by omega)) (fk2 29 (by omega)) (fk2 30 (by omega)) (fk2 27 (by omega))
    · rw [List.length_append, List.length_append, hCo4.2.1]
      rfl
    · rw [tot_app, List.length_append]
      simp
      omega
    · intro c hc
      rw [List.length_append] at hc
      have hc' : c < cn.length + 1 := hc
      by_cases e : c < cn.length
      · obtain ⟨o1, o2, o3, o4⟩ := hCo4.2.2.2 c e
        have eg : (ct ++ [cdT t n ns tn T]).getD c cNo = ct.getD c cNo := getD_app _ _ _ _ (by rw [hCo4.2.1]; exact e)
        rw [eg]
        refine ⟨o1, o2, ?_, fun j hj => ?_⟩
        · rw [zz_ne _ _ _ _ _ _ (by omega), zz_of (q1 33 (by decide) (by decide)), zz_of (k3 33 (by decide) (by decide) (by decide) (by decide) (by decide))]
          exact o3
        · rw [zz_ne _ _ _ _ _ _ (by omega), q3 _ (Or.inl (by omega)), zz_of (k3 32 (by decide) (by decide) (by decide) (by decide) (by decide))]
          exact o4 j hj
      · have ec : c = ct.length := by have := hCo4.2.1; omega
        have eg : (ct ++ [cdT t n ns tn T]).getD c cNo = cdT t n ns tn T := by rw [ec]; exact getD_last _ _ _
        have ecn : c = cn.length := by omega
        rw [eg, ecn]
        refine ⟨by omega, by omega, zz_same _ _ _ ⟨by omega, by omega⟩, fun j hj => ?_⟩
        rw [zz_ne _ _ _ _ _ _ (by omega)]
        exact q2 j hj
  · rw [eR, if_neg (by omega), if_neg (fun q => q.elim (fun c => by omega) (fun c => by have := hlg.mpr c; omega)), if_pos ?_]
    cases e : tyBad t n tn ta T with
    | true => rfl
    | false =>
      rw [w6, e] at g6
      exact absurd rfl g6
  · have hl8 : 112 ≤ cn.length ∨ 40 < tyW T ∨ 12 < tyH T := Or.inr (hlg.mp (by rcases hv01 with e | e <;> omega))
    rw [eR, if_neg (by omega), if_pos hl8]
  · rw [eR, if_pos gpos]
end
