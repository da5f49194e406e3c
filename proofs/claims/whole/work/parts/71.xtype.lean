/-! THE READER DECLARES A TYPE -/
theorem z43_1 (c d e : Int) : z43 c d e ≠ 1 := by unfold z43; omega
theorem z44_1 (c d : Int) : z44 c d ≠ 1 := by unfold z44; omega
theorem z45_1 (c : Int) : z45 c ≠ 1 := by unfold z45; omega
theorem tkK1 {t : Nat → Int} {n p : Nat} (h : tkK t n p = 1) : z31 (t p) ≠ 0 := by
  apply Decidable.byContradiction
  intro hz
  unfold tkK at h
  rw [if_neg hz] at h
  split at h
  · exact absurd h (by decide)
  · split at h
    · exact absurd h (by decide)
    · split at h
      · exact z43_1 _ _ _ h
      · split at h
        · exact z44_1 _ _ h
        · exact z45_1 _ h
/-- the name that a word token is -/
def nmW (t : Nat → Int) (n p : Nat) : List Int := seg t p (tkE t n p - p)
theorem nmW_ok {t : Nat → Int} {n p : Nat} (hp : p < n) (hF : tkF t n p = 0) (hz : z31 (t p) ≠ 0) : VN (nmW t n p) ∧ p + (nmW t n p).length = tkE t n p ∧ (∀ j, j < (nmW t n p).length → 39 ≤ t (p + j) ∧ t (p + j) ≤ 122) ∧ 0 < (nmW t n p).length := by
  have hE := tkE_le hp hF
  have eE : tkE t n p = wd t (n - p) p := by unfold tkE; rw [if_pos hz]
  have hl : (nmW t n p).length = tkE t n p - p := seg_len _ _ _
  have hch : ∀ j, j < (nmW t n p).length → 39 ≤ t (p + j) ∧ t (p + j) ≤ 122 := fun j hj => wd_chars t (n - p) p (p + j) (by omega) (by omega)
  refine ⟨⟨?_, ?_⟩, by omega, hch, by omega⟩
  · unfold tkF at hF
    rw [if_pos hz] at hF
    split at hF
    · exact absurd hF (by decide)
    · omega
  · intro c hc
    obtain ⟨j, hj, e⟩ := seg_mem hc
    have := hch j (by omega)
    omega
theorem nmW_sg {t : Nat → Int} {n p : Nat} {s : aZ} (hT : XT t n s) (hp : p < n) (hF : tkF t n p = 0) (hz : z31 (t p) ≠ 0) : Sg (zz s 2) p (nmW t n p) := by
  obtain ⟨h1, h2, h3, h4⟩ := nmW_ok hp hF hz
  have hE := tkE_le hp hF
  intro j hj
  have hj2 : j < tkE t n p - p := by omega
  have hch := h3 j hj
  unfold nmW
  rw [seg_get _ _ _ _ hj2, (hT.2.2 (p + j) (by omega)).1]
  unfold sb
  rw [if_pos (by omega)]
/-- the table of types: names, and how many each takes -/
def XTy (tn : List (List Int)) (ta : List Int) (s : aZ) : Prop := NT 10 12 13 14 11 816 34 tn s ∧ ta.length = tn.length ∧ (∀ i, i < tn.length → zz s 16 i = ta.getD i 0) ∧ tot tn + 24 * (34 - tn.length) ≤ 816
theorem XTy.fr {tn : List (List Int)} {ta : List Int} {s s2 : aZ} (h : XTy tn ta s) (f : ∀ k, 10 ≤ k → k ≤ 16 → s2 k = s k) : XTy tn ta s2 := ⟨h.1.fr (zz_of (f 10 (by decide) (by decide)) 4) (f 12 (by decide) (by decide)) (f 13 (by decide) (by decide)) (f 14 (by decide) (by decide)) (f 11 (by decide) (by decide)), h.2.1, fun i hi => (zz_of (f 16 (by decide) (by decide)) i).trans (h.2.2.1 i hi), h.2.2.2⟩
theorem FrX.hi {s s2 : aZ} (h : FrX s s2) : ∀ k, 10 ≤ k → s2 k = s k := fun k hk => h.1 k (by omega) (by omega) (by omega) (by omega) (by omega) (by omega)
/-- what a declared type comes to: a fault (its kind, its token), or the number of types taken -/
def tyR (t : Nat → Int) (n : Nat) (tn : List (List Int)) : (Int × Nat) ⊕ Nat := match tyP t n with
  | .inl q => .inl q
  | .inr j => if 0 ≤ fd tn (nmW t n (stT t n 0)) tn.length then .inl (4, 0) else if 34 ≤ tn.length then .inl (8, 0) else .inr (j - 1)
/-- how many tokens are read: for the table of type variables -/
def tyN (t : Nat → Int) (n : Nat) : Nat := match tyP t n with
  | .inl q => q.2 + 1
  | .inr j => j + 1
theorem tyL_pos (t : Nat → Int) (n : Nat) : ∀ r i j, tyL t n r i = .inr j → i ≤ j ∧ j ≤ i + r := by
  intro r
  induction r with
  | zero =>
    intro i j h
    unfold tyL at h
    repeat' (split at h)
    all_goals first | (cases h; done) | (cases h; omega)
  | succ r ih =>
    intro i j h
    have h2 : (if ftT t n i ≠ 0 then .inl (ftT t n i, i) else if kdT t n i = 2 then tyL t n r (i + 1) else if kdT t n i ≠ 0 then .inl (2, i) else .inr i) = Sum.inr j := h
    split at h2
    · cases h2
    · split at h2
      · have := ih (i + 1) j h2
        omega
      · split at h2
        · cases h2
        · cases h2
          omega
theorem x_declareType {d : Nat} {B : aH} (hB : a_Can B) (hd : 8 ≤ d) {t : Nat → Int} {n : Nat} {ns : List (List Int)} (hcap : XCap t n ns) {s : aZ} (l : aZL) (hA : XAt t n ns 0 s) (h5 : zz s 1 5 = stT t n 0) (tn : List (List Int)) (ta : List Int) (hT : XTy tn ta s) : a_W d 127 0 [.ref 0, .retAddr 0, .retAddr 0, .retAddr 0] [] (mkH B s l) (fun q => ∃ s2, (∀ k, 17 ≤ k → s2 k = s k) ∧ s2 2 = s 2 ∧ zz s2 1 2 = zz s 1 2 ∧ NT 3 5 6 7 4 10240 3000 (nsT t n ns (tyN t n)) s2 ∧ ((∃ f j, tyR t n tn = .inl (f, j) ∧ q = (.inl (some (iv (-1))), mkH B s2 l) ∧ zz s2 1 10 = f ∧ zz s2 1 11 = stT t n j ∧ XTy tn ta s2) ∨ (∃ c, tyR t n tn = .inr c ∧ q = (.inl (some (iv (tn.length : Int))), mkH B s2 l) ∧ zz s2 1 10 = 0 ∧ zz s2 1 11 = -1 ∧ XTy (tn ++ [nmW t n (stT t n 0)]) (ta ++ [(c : Int)]) s2))) := by
  have bad : ∀ (s2 : aZ) (f : Int) (j : Nat) (x1 x2 x3 : Int), XFt t n ns f j s2 → FrX s s2 → tyP t n = .inl (f, j) → a_W d 127 85 [.ref 0, iv x1, iv x2, iv x3] [] (mkH B s2 l) (fun q => ∃ s2, (∀ k, 17 ≤ k → s2 k = s k) ∧ s2 2 = s 2 ∧ zz s2 1 2 = zz s 1 2 ∧ NT 3 5 6 7 4 10240 3000 (nsT t n ns (tyN t n)) s2 ∧ ((∃ f j, tyR t n tn = .inl (f, j) ∧ q = (.inl (some (iv (-1))), mkH B s2 l) ∧ zz s2 1 10 = f ∧ zz s2 1 11 = stT t n j ∧ XTy tn ta s2) ∨ (∃ c, tyR t n tn = .inr c ∧ q = (.inl (some (iv (tn.length : Int))), mkH B s2 l) ∧ zz s2 1 10 = 0 ∧ zz s2 1 11 = -1 ∧ XTy (tn ++ [nmW t n (stT t n 0)]) (ta ++ [(c : Int)]) s2))) := by
    intro s2 f j x1 x2 x3 hF hf hP
    refine w127_85 hB (by omega) x1 x2 x3 s2 l ⟨fun _ => ?_, fun g => absurd (hF.2.2.1.symm.trans g) hF.2.1⟩
    refine ⟨s2, fun k hk => hf.hi k (by omega), hf.1 2 (by decide) (by decide) (by decide) (by decide) (by decide) (by decide), hf.2 2 (by decide), ?_, Or.inl ⟨f, j, ?_, rfl, hF.2.2.1, hF.2.2.2.1, hT.fr (fun k h1 _ => hf.hi k h1)⟩⟩
    · unfold tyN
      rw [hP]
      exact hF.2.2.2.2.2
    · unfold tyR
      rw [hP]
  have ok2 : ∀ (p e : Nat) (s1 : aZ), zz s 1 7 = p → zz s 1 8 = e → ftT t n 0 = 0 → kdT t n 0 = 1 → XAt t n ns 1 s1 → FrX s s1 → a_W d 127 26 [.ref 0, iv (p : Int), iv (e : Int), iv (((1 : Nat) : Int) - 1)] [] (mkH B s1 l) (fun q => ∃ s2, (∀ k, 17 ≤ k → s2 k = s k) ∧ s2 2 = s 2 ∧ zz s2 1 2 = zz s 1 2 ∧ NT 3 5 6 7 4 10240 3000 (nsT t n ns (tyN t n)) s2 ∧ ((∃ f j, tyR t n tn = .inl (f, j) ∧ q = (.inl (some (iv (-1))), mkH B s2 l) ∧ zz s2 1 10 = f ∧ zz s2 1 11 = stT t n j ∧ XTy tn ta s2) ∨ (∃ c, tyR t n tn = .inr c ∧ q = (.inl (some (iv (tn.length : Int))), mkH B s2 l) ∧ zz s2 1 10 = 0 ∧ zz s2 1 11 = -1 ∧ XTy (tn ++ [nmW t n (stT t n 0)]) (ta ++ [(c : Int)]) s2))) := by
    intro p e s1 h7 h8 h0 hk1 hA1 hf1
    have hPe : tyP t n = tyL t n 2 1 := by unfold tyP; rw [if_neg (fun q => q h0), if_neg (fun q => q hk1)]
    have hC0 := hA.1 h0
    have hs0 : stT t n 0 < n := by
      have := kd_rng h0
      omega
    have hF0 := (ft0 h0 hs0).2
    have hk0 : tkK t n (stT t n 0) = 1 := by unfold kdT at hk1; rw [if_pos hs0] at hk1; exact hk1
    have hz := tkK1 hk0
    have ep : p = stT t n 0 := by have := hC0.2.2.2.1; omega
    have ee : e = tkE t n (stT t n 0) := by have := (hC0.2.2.2.2.2.1 hs0).1; omega
    subst ep
    subst ee
    obtain ⟨v1, v2, v3, v4⟩ := nmW_ok hs0 hF0 hz
    have hE := tkE_le hs0 hF0
    refine x_tyloop hB (by omega) hcap l _ _ _ s ?_ (fun s2 f j x3 gF gf ge => bad s2 f j _ _ x3 gF gf (hPe.trans ge)) 2 1 s1 rfl (Nat.le_refl _) hA1 hf1 rfl
    intro j s3 hf3 hj hC3
    have hPj : tyP t n = .inr j := hPe.trans hj
    have hn8 := hC3.1.2.1
    have hTy3 : XTy tn ta s3 := hT.fr (fun k h1 _ => hf3.hi k h1)
    have hns : NT 3 5 6 7 4 10240 3000 (nsT t n ns (tyN t n)) s3 := by
      unfold tyN
      rw [hPj]
      exact hC3.2.2.2.2.2.2.2.1
    have hx5 : zz s3 1 5 = stT t n 0 := (hf3.2 5 (by decide)).trans h5
    have hlen := hTy3.1.2.2.2.1
    have hcnt := hTy3.1.1.1
    refine w128_0 hB (by omega) _ _ s3 l (a_W.imp (x_find10 hB (by omega) s3 l tn hTy3.1 (stT t n 0) (tkE t n (stT t n 0)) (nmW t n (stT t n 0)) v2 (by omega) (nmW_sg hC3.1 hs0 hF0 hz)) ?_)
    rintro _ rfl
    have hfr : inR (fd tn (nmW t n (stT t n 0)) tn.length) := by
      rcases fd_cases tn (nmW t n (stT t n 0)) tn.length with ⟨h, -⟩ | ⟨i, hi, h, -⟩
      · rw [h]; decide
      · rw [h]; exact ⟨by omega, by omega⟩
    have whole : ∀ f : Int, f ≠ 0 → inR f → tyR t n tn = .inl (f, 0) → a_W (d - 1) 113 0 [.ref 1, iv f] [] (mkH B s3 l) (fun r => ∃ (s6 : Nat → Nat → Int32) (l7 : Nat → Nat → Int64), r = (.inl none, mkH B s6 l7) ∧ a_W d 127 85 [.ref 0, iv (stT t n 0 : Nat), iv (tkE t n (stT t n 0) : Nat), iv ((j : Int) - 1)] [] (mkH B s6 l7) (fun q => ∃ s2, (∀ k, 17 ≤ k → s2 k = s k) ∧ s2 2 = s 2 ∧ zz s2 1 2 = zz s 1 2 ∧ NT 3 5 6 7 4 10240 3000 (nsT t n ns (tyN t n)) s2 ∧ ((∃ f j, tyR t n tn = .inl (f, j) ∧ q = (.inl (some (iv (-1))), mkH B s2 l) ∧ zz s2 1 10 = f ∧ zz s2 1 11 = stT t n j ∧ XTy tn ta s2) ∨ (∃ c, tyR t n tn = .inr c ∧ q = (.inl (some (iv (tn.length : Int))), mkH B s2 l) ∧ zz s2 1 10 = 0 ∧ zz s2 1 11 = -1 ∧ XTy (tn ++ [nmW t n (stT t n 0)]) (ta ++ [(c : Int)]) s2)))) := by
      intro f hf0 hfi hR
      refine w113_0 hB (by omega) f s3 l ⟨hfi, fun q => absurd q hf0, fun _ => ⟨fun q => absurd hC3.2.1 q, fun _ => ?_⟩⟩
      have f1 : Fr1 [6, 10, 11] s3 (zu (zu (zu s3 1 10 f) 1 11 (zz s3 1 5)) 1 6 0) := fl_fr (Fr1.rf _ s3) _ _ (by decide) (by decide) (by decide)
      obtain ⟨m1, m2, m3⟩ := fl_bad s3 f (zz s3 1 5) hfi (inR_zz _ _ _)
      refine ⟨_, l, rfl, w127_85 hB (by omega) _ _ _ _ l ⟨fun _ => ?_, fun g => absurd (m2.symm.trans g) hf0⟩⟩
      refine ⟨_, fun k hk => (f1.1 k (by omega)).trans (hf3.hi k (by omega)), (f1.1 2 (by decide)).trans (hf3.1 2 (by decide) (by decide) (by decide) (by decide) (by decide) (by decide)), (f1.2 2 (by decide)).trans (hf3.2 2 (by decide)), NT3.fr1 hns f1, Or.inl ⟨f, 0, hR, rfl, m2, m3.trans hx5, hTy3.fr (fun k h1 _ => f1.1 k (by omega))⟩⟩
    refine ⟨_, s3, l, rfl, hfr, fun hneg => ⟨fun hlt => ⟨_, s3, l, rfl, ?_⟩, fun hge => ⟨_, s3, l, rfl, whole 8 (by decide) (by decide) ?_⟩⟩, fun hpos => ⟨_, s3, l, rfl, whole 4 (by decide) (by decide) ?_⟩⟩
    · have hR : tyR t n tn = .inr (j - 1) := by
        unfold tyR
        rw [hPj]
        show (if _ then _ else _) = _
        rw [if_neg (by omega), if_neg (by omega)]
      have hjp := tyL_pos t n 2 1 j hj
      refine w113_0 hB (by omega) 0 s3 l ⟨by decide, fun _ => ⟨s3, l, rfl, ?_⟩, fun q => absurd rfl q⟩
      refine w127_85 hB (by omega) _ _ _ s3 l ⟨fun q => absurd hC3.2.1 q, fun _ => ?_⟩
      have htot := NTs.tot hTy3.1.1
      have h4 := hTy3.2.2.2
      have hvl := v1.1
      refine w129_0 hB (by omega) _ _ _ s3 l (a_W.imp (x_add10 hB (by omega) s3 l tn hTy3.1 (stT t n 0) (tkE t n (stT t n 0)) (nmW t n (stT t n 0)) v2 (by omega) (nmW_sg hC3.1 hs0 hF0 hz) (fun c hc => by have := v1.2 c hc; omega) (by omega) (by rw [htot]; omega)) ?_)
      rintro _ ⟨s4, rfl, k1, k2, k3⟩
      refine ⟨_, s4, l, rfl, ⟨by omega, by omega⟩, fun q => absurd q (by omega), fun _ => ⟨⟨by omega, by omega⟩, ?_⟩⟩
      rw [natc]
      have g4 : ∀ k, k ≠ 10 → k ≠ 11 → k ≠ 12 → k ≠ 13 → k ≠ 14 → k ≠ 16 → zu s4 16 tn.length ((j : Int) - 1) k = s3 k := fun k q1 q2 q3 q4 q5 q6 => by rw [zu_ne _ _ _ _ _ q6, k3 k q1 q3 q4 q5 q2]
      have f4 : Fr1 [] s3 (zu s4 16 tn.length ((j : Int) - 1)) → True := fun _ => trivial
      refine ⟨_, l, rfl, ?_⟩
      have hcount : zz (zu s4 16 tn.length ((j : Int) - 1)) 10 4 = (tn.length : Int) + 1 := by
        rw [zz_ne _ _ _ _ _ _ (by omega), k1.1.1, List.length_append]
        simp
      refine ⟨_, fun k hk => (g4 k (by omega) (by omega) (by omega) (by omega) (by omega) (by omega)).trans (hf3.hi k (by omega)), (g4 2 (by decide) (by decide) (by decide) (by decide) (by decide) (by decide)).trans (hf3.1 2 (by decide) (by decide) (by decide) (by decide) (by decide) (by decide)), ?_, ?_, Or.inr ⟨j - 1, hR, ?_, ?_, ?_, ?_, ?_, ?_, ?_⟩⟩
      · exact (zz_of (g4 1 (by decide) (by decide) (by decide) (by decide) (by decide) (by decide)) 2).trans (hf3.2 2 (by decide))
      · exact hns.fr (zz_of (g4 3 (by decide) (by decide) (by decide) (by decide) (by decide) (by decide)) 4) (g4 5 (by decide) (by decide) (by decide) (by decide) (by decide) (by decide)) (g4 6 (by decide) (by decide) (by decide) (by decide) (by decide) (by decide)) (g4 7 (by decide) (by decide) (by decide) (by decide) (by decide) (by decide)) (g4 4 (by decide) (by decide) (by decide) (by decide) (by decide) (by decide))
      · rw [hcount, show (tn.length : Int) + 1 - 1 = tn.length by omega]
      · exact (zz_of (g4 1 (by decide) (by decide) (by decide) (by decide) (by decide) (by decide)) 10).trans hC3.2.1
      · exact (zz_of (g4 1 (by decide) (by decide) (by decide) (by decide) (by decide) (by decide)) 11).trans hC3.2.2.1
      · exact k1.fr (zz_ne _ _ _ _ _ _ (by omega)) (zu_ne _ _ _ _ _ (by decide)) (zu_ne _ _ _ _ _ (by decide)) (zu_ne _ _ _ _ _ (by decide)) (zu_ne _ _ _ _ _ (by decide))
      · rw [List.length_append, List.length_append, hTy3.2.1]
        rfl
      · intro i hi
        by_cases hin : i < tn.length
        · rw [zz_ne _ _ _ _ _ _ (by omega), zz_of (k3 16 (by decide) (by decide) (by decide) (by decide) (by decide)), getD_app _ _ _ _ (by rw [hTy3.2.1]; exact hin)]
          exact hTy3.2.2.1 i hin
        · have hil : i = ta.length := by
            rw [List.length_append] at hi
            simp at hi
            have := hTy3.2.1
            omega
          have htl := hTy3.2.1
          rw [hil, getD_last, htl, zz_same _ _ _ ⟨by omega, by omega⟩]
          omega
      · rw [tot_app, List.length_append]
        simp
        omega
    · unfold tyR
      rw [hPj]
      show (if _ then _ else _) = _
      rw [if_neg (by omega), if_pos (by omega)]
    · unfold tyR
      rw [hPj]
      show (if _ then _ else _) = _
      rw [if_pos hpos]
  refine w127_0 hB (by omega) s l ?_
  refine a_W.imp (x_expect hB (by omega) hcap l 0 1 (by decide) hA) ?_
  rintro _ ⟨s1, rfl, hf1, ⟨h0, hk, hs, hA1⟩ | ⟨h0, hk, hF⟩ | ⟨h0, hF⟩⟩
  · refine ⟨s1, l, rfl, ?_⟩
    have hC0 := hA.1 h0
    have e7 := hC0.2.2.2.1
    have e8 := (hC0.2.2.2.2.2.1 hs).1
    rw [e7, e8]
    exact ok2 (stT t n 0) (tkE t n (stT t n 0)) s1 e7 e8 h0 hk hA1 hf1
  · refine ⟨s1, l, rfl, ?_⟩
    have hP : tyP t n = .inl (2, 0) := by unfold tyP; rw [if_neg (fun q => q h0), if_pos hk]
    have f2 := hF.2.1
    have f3 := hF.2.2.1
    have f5 := hF.2.2.2.2.1
    refine w127_26 hB (by omega) _ _ 0 s1 l ⟨by decide, fun h => absurd h (by decide), fun _ => ⟨fun _ => ?_, fun g => absurd (f5.symm.trans g) (by decide)⟩⟩
    exact w127_55 hB (by omega) _ _ 0 s1 l ⟨fun _ => ⟨fun _ => bad s1 2 0 _ _ _ hF hf1 hP, fun g => absurd (f3.symm.trans g) f2⟩, fun g => absurd f5 g⟩
  · refine ⟨s1, l, rfl, ?_⟩
    have hP : tyP t n = .inl (ftT t n 0, 0) := by unfold tyP; rw [if_pos h0]
    have f2 := hF.2.1
    have f3 := hF.2.2.1
    have f5 := hF.2.2.2.2.1
    refine w127_26 hB (by omega) _ _ 0 s1 l ⟨by decide, fun h => absurd h (by decide), fun _ => ⟨fun _ => ?_, fun g => absurd (f5.symm.trans g) (by decide)⟩⟩
    exact w127_55 hB (by omega) _ _ 0 s1 l ⟨fun _ => ⟨fun _ => bad s1 _ 0 _ _ _ hF hf1 hP, fun g => absurd (f3.symm.trans g) f2⟩, fun g => absurd f5 g⟩
