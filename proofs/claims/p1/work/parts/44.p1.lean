/-! ONE CALL ON NEW OBJECTS -/
def a_ckc (h : aH) : Bool := h.1 == 106 && h.2.1.1 == 106 && decide (h.2.1.2 ≤ 1300001) && (List.range 106).all (fun k => h.2.2.1 k == aKd k) && aRfE.all (fun q => h.2.2.2.2.2 q.1 q.2.1 == some q.2.2)
noncomputable def a_ckop (y m : Nat) (xl ml : List Value) (h2 : aH) : Bool := match a_runF 20000 800 y 0 xl [] (a_mk 1004 1 h2) with
  | some (.inl (some (.int k)), h3) => k == 0 && a_ckc h3 && (match a_runF 20000 800 m 0 ml [] h3 with
    | some (.inl (some (.int b)), h4) => a_ckc h4 && h4.2.2.2.1 56 0 == 0 && h4.2.2.2.2.1 105 0 == b.toInt64
    | _ => false)
  | _ => false
set_option maxRecDepth 100000 in
theorem a_ck_T : a_chk (a_ckop 20 143 [.ref 0, .int 0, .ref 105, .retAddr 0] [.ref 56, .int 0, .retAddr 0, .retAddr 0]) = true := by decide +kernel
set_option maxRecDepth 100000 in
theorem a_ck_C : a_chk (a_ckop 119 202 [.ref 0, .int 0, .ref 105, .retAddr 0] [.ref 56, .int 0, .retAddr 0, .retAddr 0, .retAddr 0, .retAddr 0]) = true := by decide +kernel
set_option maxRecDepth 100000 in
theorem a_ck_Y : a_chk (a_ckop 125 203 [.ref 0, .int 0, .ref 105, .retAddr 0] [.ref 56, .int 0, .retAddr 0]) = true := by decide +kernel
theorem ckc_BI {L : Nat} {xs : Nat → Int32} {h : aH} (hc : a_ckc h = true) : a_BI L 1 xs (a_ov L xs h) (a_ov L xs h).2.2.2.1 := by
  unfold a_ckc at hc
  simp only [Bool.and_eq_true, beq_iff_eq, decide_eq_true_eq, List.all_eq_true, List.mem_range] at hc
  obtain ⟨⟨⟨⟨c1, c2⟩, c3⟩, c4⟩, c5⟩ := hc
  refine ⟨⟨?_, ?_, ?_⟩, ?_, ?_, ?_⟩
  · show 106 ≤ h.1
    omega
  · intro k hk6
    rw [ov_k (by unfold aSc; omega)]
    exact c4 k hk6
  · intro k j v hr
    exact c5 _ (aRf_E hr)
  · exact ov_ks _
  · exact ov_is _
  · refine ⟨?_, ?_, ?_⟩
    · show h.1 ≤ _
      omega
    · show h.2.1.1 ≤ _
      omega
    · show h.2.1.2 ≤ _
      omega
def p_Inv (h0 : aH) (i : Nat) (B : aH) (s : aZ) (l : aZL) : Prop := i = 0 → mkH B s l = h0
theorem jop0 {y m d L : Nat} {xs : Nat → Int32} {xl ml : List Value} {h2 g0 : aH} {B : aH} {s : aZ} {l : aZL} (hd : 800 ≤ d) (hck : a_ckop y m xl ml h2 = true) (hl : h2.1 + 1 < aSc) (h0 : ((a_mk 1004 1 h2).2.2.1 aSc).1 = 0) (hs : mkH B s l = a_ov L xs (a_mk 1004 1 h2)) : a_J d L 0 xs (p_Inv g0) y m xl ml B s l := by
  unfold a_ckop at hck
  rw [a_runF_eq] at hck
  split at hck
  · rename_i k h3 e3
    simp only [Bool.and_eq_true, beq_iff_eq] at hck
    obtain ⟨⟨k0, c3⟩, hck⟩ := hck
    subst k0
    have g3 := a_ge_run _ _ _ _ _ _ _ _ e3 hl
    split at hck
    · rename_i b h4 e4
      simp only [Bool.and_eq_true, beq_iff_eq] at hck
      obtain ⟨⟨c4, c5⟩, c6⟩ := hck
      unfold a_J
      rw [hs]
      refine w_ov e3 hd hl h0 ⟨0, a_ov L xs h3, (a_ov L xs h3).2.2.2.1, (a_ov L xs h3).2.2.2.2.1, rfl, ckc_BI c3, ⟨by decide, by decide⟩, ?_⟩
      show a_W d m 0 ml [] (a_ov L xs h3) _
      refine w_ov e4 hd g3.2.1 ((congrArg Prod.fst g3.2.2.2.2.1).trans h0) ⟨b.toInt, a_ov L xs h4, (a_ov L xs h4).2.2.2.1, (a_ov L xs h4).2.2.2.2.1, ?_, ckc_BI c4, ?_, fun _ => ?_, fun h => absurd h (by decide)⟩
      · rw [← iv_i]
      · unfold zz
        rw [ov_i (by decide), c5]
        rfl
      · rw [Int32.ofInt_toInt]
        exact c6
    · cases hck
  · cases hck
theorem p1_pure : a_Pure := by
  intro L xs hL
  obtain ⟨h1, h2, e1, e3, e2, hc, hi⟩ := a_init
  have h5 : h2.1 = 105 := by
    have := hc
    unfold a_ick0 at this
    simp only [Bool.and_eq_true, beq_iff_eq] at this
    exact this.1.1.1.1.1
  have g1 := a_ge_run _ _ _ _ _ _ _ _ e1 (by decide)
  have g2 : a_ge (a_mk 11 71 h1) h2 := a_ge_run _ _ _ _ _ _ _ _ e2 (by show h1.1 + 1 < aSc; rw [e3]; decide)
  have z1 : (h1.2.2.1 aSc).1 = 0 := by rw [g1.2.2.2.2.1]; rfl
  have z2 : ((a_mk 11 71 h1).2.2.1 aSc).1 = 0 := by
    show (a_kup h1.2.2.1 h1.1 (11, 71) aSc).1 = 0
    unfold a_kup
    rw [e3, if_neg (by decide)]
    exact z1
  have z3 : ((a_mk 1004 1 h2).2.2.1 aSc).1 = 0 := by
    show (a_kup h2.2.2.1 h2.1 (1004, 1) aSc).1 = 0
    unfold a_kup
    rw [h5, if_neg (by decide), g2.2.2.2.2.1]
    exact z2
  have hl : h2.1 + 1 < aSc := by rw [h5]; decide
  have iz : ∀ {B : aH} {s : aZ} {l : aZL}, mkH B s l = a_ov L xs (a_mk 1004 1 h2) → ∀ {k j : Nat} {v : Int}, (k, j, v) ∈ aInL → k < 105 → zz s k j = v := by
    intro B s l hs k j v hm hk
    have := init_z (L := L) (xs := xs) h5 hi hm hk
    rw [← hs] at this
    exact this
  have key : a_W 1000 0 0 (.ref aSc :: List.replicate 6 (.retAddr 0)) [] (a_h0 L xs) (fun r => ∃ hf, r = (.inl (some (.int 1)), hf) ∧ hf.2.1.1 ≤ 106 + 512 ∧ hf.2.1.2 ≤ 1300001 + 6 * 512) := by
    refine law_entry e1 e3 e2 h5 ?_
    refine law_loop (d := 1000) (L := L) (by decide) (by omega) xs (p_Inv (a_ov L xs (a_mk 1004 1 h2))) ?_ ?_ ?_ ?_ ?_ ?_ ?_ 2 0 (a_ov L xs (a_mk 1004 1 h2)) (a_ov L xs (a_mk 1004 1 h2)).2.2.2.1 (a_ov L xs (a_mk 1004 1 h2)).2.2.2.2.1 _ _ (by omega) (by omega) (fun _ => rfl) (init_BI hc)
    · intro i B s l a b c e g hi6 ha hb hcc he hg hI hB
      have hi0 : i = 0 := by omega
      subst hi0
      have hs := hI rfl
      refine a_W.imp (x_feed hB.1 (by decide) a b c e g s l 0 (iz hs (by decide +kernel) (by decide)) (by decide)) ?_
      rintro _ ⟨s2, rfl, f1, f2⟩
      refine ⟨1, B, s2, l, rfl, hB.up (f1.2.2.2 _ (by decide) (by decide)), ⟨by decide, by decide⟩, ?_⟩
      refine a_W.imp (m_feed hB.1 a b c e g s2 l 0 ((zz_of (f1.2.2.2 56 (by decide) (by decide)) 2).trans (iz hs (by decide +kernel) (by decide))) (by decide)) ?_
      rintro _ ⟨s3, rfl, f3, f4⟩
      exact ⟨B, s3, l, rfl, hB.up ((f3.2.2.2 _ (by decide) (by decide)).trans (f1.2.2.2 _ (by decide) (by decide))), fun h => absurd h (by decide)⟩
    · intro i B s l a hi6 ha hI hB
      have hi0 : i = 0 := by omega
      subst hi0
      have hs := hI rfl
      have f1 : zz s 1 2 = 0 := iz hs (by decide +kernel) (by decide)
      have f2 : zz s 56 2 = 0 := iz hs (by decide +kernel) (by decide)
      by_cases h0 : a = 0
      · subst h0
        exact jop0 (by decide) (a_chk_same e1 e2 a_ck_T) hl z3 hs
      · exact j20_thr (by decide) (by decide) ha hB (by omega) (by omega) (fun _ _ _ _ h => absurd h (by decide))
    · intro i B s l a hi6 ha hI hB
      have hi0 : i = 0 := by omega
      subst hi0
      have hs := hI rfl
      have f1 : zz s 1 2 = 0 := iz hs (by decide +kernel) (by decide)
      have f2 : zz s 56 2 = 0 := iz hs (by decide +kernel) (by decide)
      by_cases h0 : a = 0
      · subst h0
        exact jop0 (by decide) (a_chk_same e1 e2 a_ck_C) hl z3 hs
      · exact j119_thr (by decide) (by decide) ha hB (by omega) (by omega) (fun _ _ _ _ h => absurd h (by decide))
    · intro i B s l a hi6 ha hI hB
      have hi0 : i = 0 := by omega
      subst hi0
      have hs := hI rfl
      have f1 : zz s 1 2 = 0 := iz hs (by decide +kernel) (by decide)
      have f2 : zz s 56 2 = 0 := iz hs (by decide +kernel) (by decide)
      by_cases h0 : a = 0
      · subst h0
        exact jop0 (by decide) (a_chk_same e1 e2 a_ck_Y) hl z3 hs
      · exact j125_thr (by decide) (by decide) ha hB (by omega) (by omega) (fun _ _ _ _ h => absurd h (by decide))
    · intro i B s l hi6 hI
      have hi0 : i = 0 := by omega
      subst hi0
      have hs := hI rfl
      have f1 : zz s 1 10 = 0 := iz hs (by decide +kernel) (by decide)
      have f2 : zz s 56 22 = 0 := iz hs (by decide +kernel) (by decide)
      have f3 : zz s 1 11 = -1 := iz hs (by decide +kernel) (by decide)
      have f4 : zz s 56 23 = -1 := iz hs (by decide +kernel) (by decide)
      exact ⟨by omega, by omega, fun h => absurd h (by decide)⟩
    · intro i B s l a hi6 ha hI hB
      have hi0 : i = 0 := by omega
      subst hi0
      have hs := hI rfl
      exact j130 (by decide) (by decide) ha hB ⟨0, by decide, iz hs (by decide +kernel) (by decide), iz hs (by decide +kernel) (by decide), fun i hi => absurd hi (by omega)⟩ (fun _ _ _ _ _ _ h => absurd h (by decide))
    · intro i B s l a b hi6 ha hb hI hB
      have hi0 : i = 0 := by omega
      subst hi0
      have hs := hI rfl
      exact j133 (by decide) (by decide) ha hb hB ⟨0, by decide, iz hs (by decide +kernel) (by decide), iz hs (by decide +kernel) (by decide), fun i hi => absurd hi (by omega)⟩ (fun _ _ _ _ _ _ h => absurd h (by decide))
  obtain ⟨N, r, hr, hf, rfl, k1, k2⟩ := key
  exact ⟨N, hf, hr, by omega, by omega⟩
theorem i_vc : Claimed_1_1 ∧ Claimed_1_2 := a_ivc p1_pure
