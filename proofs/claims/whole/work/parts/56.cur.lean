/-! THE TEXT'S TOKENS BY THEIR NUMBERS; THE READER AT ONE OF THEM -/
def stT (t : Nat → Int) (n : Nat) : Nat → Nat
  | 0 => nb t n 0 false
  | i + 1 => nb t (n - tkE t n (stT t n i)) (tkE t n (stT t n i)) false
def kdT (t : Nat → Int) (n i : Nat) : Int := if stT t n i < n then tkK t n (stT t n i) else 0
def ftT (t : Nat → Int) (n i : Nat) : Int := if stT t n i < n then (if 6000 ≤ i then 8 else tkF t n (stT t n i)) else 0
def nsS (t : Nat → Int) (n i : Nat) (ns : List (List Int)) : List (List Int) := if stT t n i < n ∧ i < 6000 then tkNs t n (stT t n i) ns else ns
def nsT (t : Nat → Int) (n : Nat) (ns : List (List Int)) : Nat → List (List Int)
  | 0 => ns
  | i + 1 => nsS t n i (nsT t n ns i)
/-- nsT i: the table before token i is read; nsT (i + 1): behind it -/
def XCap (t : Nat → Int) (n : Nat) (ns : List (List Int)) : Prop := ∀ j, (nsT t n ns j).length < 3000 ∧ tot (nsT t n ns j) + 24 ≤ 10240
def XC (t : Nat → Int) (n : Nat) (ns : List (List Int)) (i : Nat) (s : aZ) : Prop := XT t n s ∧ zz s 1 10 = 0 ∧ zz s 1 11 = -1 ∧ zz s 1 7 = stT t n i ∧ zz s 1 6 = kdT t n i ∧ (stT t n i < n → zz s 1 8 = tkE t n (stT t n i) ∧ zz s 1 4 = (i : Int) + 1) ∧ (n ≤ stT t n i → zz s 1 8 = stT t n i ∧ zz s 1 4 = i) ∧ NT 3 5 6 7 4 10240 3000 (nsT t n ns (i + 1)) s ∧ (kdT t n i = 3 → zz s 1 9 = dgV t (n - stT t n i) (stT t n i) 0) ∧ (kdT t n i = 2 → zz s 1 9 = ixn (nsT t n ns i) (nmT t n (stT t n i)))
/-- behind a fault -/
def XF (t : Nat → Int) (n : Nat) (f p : Int) (ns : List (List Int)) (s : aZ) : Prop := XT t n s ∧ f ≠ 0 ∧ zz s 1 10 = f ∧ zz s 1 11 = p ∧ zz s 1 6 = 0 ∧ NT 3 5 6 7 4 10240 3000 ns s
def XAt (t : Nat → Int) (n : Nat) (ns : List (List Int)) (i : Nat) (s : aZ) : Prop := (ftT t n i = 0 → XC t n ns i s) ∧ (ftT t n i ≠ 0 → XF t n (ftT t n i) (stT t n i) (nsT t n ns (i + 1)) s)
theorem tkE_le {t : Nat → Int} {n p : Nat} (hp : p < n) (hF : tkF t n p = 0) : p < tkE t n p ∧ tkE t n p ≤ n := by
  unfold tkF at hF
  unfold tkE
  split at hF
  · rename_i h
    rw [if_pos h]
    have h1 := wd_ge t (n - p) p
    refine ⟨?_, by omega⟩
    obtain ⟨k, hk⟩ : ∃ k, n - p = k + 1 := ⟨n - p - 1, by omega⟩
    rw [hk]
    unfold wd
    rw [if_pos (Or.inl h)]
    have := wd_ge t k (p + 1)
    omega
  · rename_i h
    rw [if_neg h]
    split at hF
    · rename_i h39
      rw [if_pos h39]
      split at hF
      · rename_i hl
        rw [if_pos hl]
        have h1 := wd_ge t (n - (p + 1)) (p + 1)
        have h2 : p + 1 < n := by
          apply Decidable.byContradiction
          intro hn
          unfold bt at hl
          rw [if_neg hn] at hl
          exact hl rfl
        omega
      · exact absurd hF (by decide)
    · rename_i h39
      rw [if_neg h39]
      split at hF
      · rename_i hd
        rw [if_pos hd]
        have h1 := dgE_ge t (n - p) p
        refine ⟨?_, by omega⟩
        obtain ⟨k, hk⟩ : ∃ k, n - p = k + 1 := ⟨n - p - 1, by omega⟩
        rw [hk]
        unfold dgE
        rw [if_pos hd]
        have := dgE_ge t k (p + 1)
        omega
      · rename_i hd
        rw [if_neg hd]
        split
        · rename_i h3
          have : p + 2 < n := by
            apply Decidable.byContradiction
            intro hn
            apply h3
            unfold z43 bt
            rw [if_neg hn]
            omega
          omega
        · split
          · rename_i h3 h4
            have : p + 1 < n := by
              apply Decidable.byContradiction
              intro hn
              apply h4
              unfold z44 bt
              rw [if_neg hn]
              omega
            omega
          · omega
theorem ft0 {t : Nat → Int} {n i : Nat} (h : ftT t n i = 0) (hs : stT t n i < n) : i < 6000 ∧ tkF t n (stT t n i) = 0 := by
  unfold ftT at h
  rw [if_pos hs] at h
  split at h
  · exact absurd h (by decide)
  · exact ⟨by omega, h⟩
theorem stT_le (t : Nat → Int) (n : Nat) : ∀ i, (∀ j, j < i → stT t n j < n ∧ ftT t n j = 0) → stT t n i ≤ n := by
  intro i
  cases i with
  | zero =>
    intro _
    have := nb_ge t n 0 false
    unfold stT
    omega
  | succ i =>
    intro h
    obtain ⟨h1, h2⟩ := h i (Nat.lt_succ_self _)
    have h3 := tkE_le h1 (ft0 h2 h1).2
    have := nb_ge t (n - tkE t n (stT t n i)) (tkE t n (stT t n i)) false
    unfold stT
    omega
/-- reading token i, out of a state whose end lies where the token before ends -/
theorem x_adv_to {d : Nat} {B : aH} (hB : a_Can B) (hd : 5 ≤ d) {t : Nat → Int} {n : Nat} {ns : List (List Int)} (hcap : XCap t n ns) {s : aZ} (l : aZL) (hT : XT t n s) (i e : Nat) (he : e ≤ n) (hi : i ≤ 6000) (hst : stT t n i = nb t (n - e) e false) (h8 : zz s 1 8 = e) (h10 : zz s 1 10 = 0) (h11 : zz s 1 11 = -1) (h4 : zz s 1 4 = i) (hN : NT 3 5 6 7 4 10240 3000 (nsT t n ns i) s) : a_W d 24 0 [.ref 1, .retAddr 0] [] (mkH B s l) (fun q => ∃ s2, q = (.inl none, mkH B s2 l) ∧ XAt t n ns i s2 ∧ FrX s s2 ∧ zz s2 1 7 = stT t n i) := by
  have hn8 := hT.2.1
  have hb := nb_ge t (n - e) e false
  have hle : stT t n i ≤ n := by rw [hst]; omega
  have hT3 := hT.1
  refine w24_0 hB (by omega) s l ⟨fun h => absurd h10 h, fun _ => ?_⟩
  rw [h8]
  refine a_W.imp (x_blanks hB (by omega) l hT e he) ?_
  rintro _ rfl
  rw [← hst]
  refine ⟨_, s, l, rfl, ⟨by omega, by omega⟩, fun hlt => ⟨fun h6 => ?_, fun h6 => ⟨fun h => absurd h10 h, fun _ => ?_⟩⟩, fun hge => ?_⟩
  · have hsn : stT t n i < n := by omega
    obtain ⟨b1, b2⟩ := hT.2.2 (stT t n i) hsn
    rw [natc, b1, h4]
    have f1 : Fr1 [4, 7, 8] s (zu (zu (zu s 1 7 (stT t n i : Nat)) 1 8 (stT t n i : Nat)) 1 4 ((i : Int) + 1)) := ((Fr1.zu _ _ _ (by decide)).tr (Fr1.zu _ _ _ (by decide))).tr (Fr1.zu _ _ _ (by decide))
    have k7 : zz (zu (zu (zu s 1 7 (stT t n i : Nat)) 1 8 (stT t n i : Nat)) 1 4 ((i : Int) + 1)) 1 7 = (stT t n i : Nat) := by
      rw [zz_ne _ _ _ _ _ _ (by decide), zz_ne _ _ _ _ _ _ (by decide), zz_same _ _ _ ⟨by omega, by omega⟩]
    have k8 : zz (zu (zu (zu s 1 7 (stT t n i : Nat)) 1 8 (stT t n i : Nat)) 1 4 ((i : Int) + 1)) 1 8 = (stT t n i : Nat) := by
      rw [zz_ne _ _ _ _ _ _ (by decide), zz_same _ _ _ ⟨by omega, by omega⟩]
    have k4 : zz (zu (zu (zu s 1 7 (stT t n i : Nat)) 1 8 (stT t n i : Nat)) 1 4 ((i : Int) + 1)) 1 4 = (i : Int) + 1 := zz_same _ _ _ ⟨by omega, by omega⟩
    have k10 := (f1.2 10 (by decide)).trans h10
    have k11 := (f1.2 11 (by decide)).trans h11
    refine ⟨⟨by omega, by omega⟩, W30.imp (Q := fun q => ∃ s2, q = (.inl none, mkH B s2 l) ∧ XAt t n ns i s2 ∧ FrX s s2 ∧ zz s2 1 7 = stT t n i) (x_scan hB (by omega) l (hT.fr f1 (by decide)) (nsT t n ns i) (NT3.fr1 hN f1) (hcap i).1 (hcap i).2 (stT t n i) hsn k7 k8 k10) ?_⟩
    rintro _ ⟨s2, rfl, ⟨g1, g2⟩, ⟨g3, g4⟩, g5, g6⟩
    have hfX : FrX s s2 := by
      refine ⟨fun k q1 q3 q4 q5 q6 q7 => (g1 k q1 q3 q4 q5 q6 q7).trans (f1.1 k q1), fun j hj => (g2 j (fun q => hj ?_)).trans (f1.2 j (fun q => hj ?_))⟩
      · simp only [List.mem_cons, List.not_mem_nil, or_false] at q ⊢
        omega
      · simp only [List.mem_cons, List.not_mem_nil, or_false] at q ⊢
        omega
    have hi6 : i < 6000 := by omega
    have eft : ftT t n i = tkF t n (stT t n i) := by unfold ftT; rw [if_pos hsn, if_neg (by omega)]
    have ekd : kdT t n i = tkK t n (stT t n i) := by unfold kdT; rw [if_pos hsn]
    have ens : nsT t n ns (i + 1) = tkNs t n (stT t n i) (nsT t n ns i) := by
      show nsS t n i (nsT t n ns i) = _
      unfold nsS
      rw [if_pos ⟨hsn, hi6⟩]
    refine ⟨s2, rfl, ⟨fun h0 => ?_, fun h0 => ?_⟩, hfX, (g2 7 (by decide)).trans k7⟩
    · rw [eft] at h0
      obtain ⟨m1, m2, m3, m4⟩ := g3 h0
      refine ⟨hT.frX hfX, m3, m4.trans k11, (g2 7 (by decide)).trans k7, m1.trans ekd.symm, fun _ => ⟨m2, (g2 4 (by decide)).trans k4⟩, fun q => absurd hsn (by omega), by rw [ens]; exact g5, fun q => (g6 h0).1 (ekd ▸ q), fun q => (g6 h0).2 (ekd ▸ q)⟩
    · rw [eft] at h0 ⊢
      obtain ⟨m1, m2, m3⟩ := g4 h0
      exact ⟨hT.frX hfX, h0, m2, m3, m1, by rw [ens]; exact g5⟩
  · have hsn : stT t n i < n := by omega
    have f1 : Fr1 [6, 7, 8, 10, 11] s (zu (zu s 1 7 (stT t n i : Nat)) 1 8 (stT t n i : Nat)) := (Fr1.zu _ _ _ (by decide)).tr (Fr1.zu _ _ _ (by decide))
    have f2 := fl_fr f1 8 (stT t n i : Nat) (by decide) (by decide) (by decide)
    have eft : ftT t n i = 8 := by unfold ftT; rw [if_pos hsn, if_pos (by omega)]
    have ens : nsT t n ns (i + 1) = nsT t n ns i := by
      show nsS t n i (nsT t n ns i) = _
      unfold nsS
      rw [if_neg (by omega)]
    have hfX : FrX s _ := FrX.of1 f2 (by decide)
    refine ⟨_, rfl, ⟨fun h0 => absurd h0 (by rw [eft]; decide), fun _ => ?_⟩, hfX, ?_⟩
    · obtain ⟨m1, m2, m3⟩ := fl_bad (zu (zu s 1 7 (stT t n i : Nat)) 1 8 (stT t n i : Nat)) 8 (stT t n i : Nat) (by decide) ⟨by omega, by omega⟩
      rw [eft, ens]
      exact ⟨hT.frX hfX, by decide, m2, m3, m1, NT3.fr1 hN f2⟩
    · rw [zz_ne _ _ _ _ _ _ (by decide), zz_ne _ _ _ _ _ _ (by decide), zz_ne _ _ _ _ _ _ (by decide), zz_ne _ _ _ _ _ _ (by decide), zz_same _ _ _ ⟨by omega, by omega⟩]
  · have hsn : stT t n i = n := by omega
    have f1 : Fr1 [6, 7, 8] s (zu (zu (zu s 1 7 (stT t n i : Nat)) 1 8 (stT t n i : Nat)) 1 6 0) := ((Fr1.zu _ _ _ (by decide)).tr (Fr1.zu _ _ _ (by decide))).tr (Fr1.zu _ _ _ (by decide))
    have k7 : zz (zu (zu (zu s 1 7 (stT t n i : Nat)) 1 8 (stT t n i : Nat)) 1 6 0) 1 7 = (stT t n i : Nat) := by
      rw [zz_ne _ _ _ _ _ _ (by decide), zz_ne _ _ _ _ _ _ (by decide), zz_same _ _ _ ⟨by omega, by omega⟩]
    have k8 : zz (zu (zu (zu s 1 7 (stT t n i : Nat)) 1 8 (stT t n i : Nat)) 1 6 0) 1 8 = (stT t n i : Nat) := by
      rw [zz_ne _ _ _ _ _ _ (by decide), zz_same _ _ _ ⟨by omega, by omega⟩]
    have eft : ftT t n i = 0 := by unfold ftT; rw [if_neg (by omega)]
    have ekd : kdT t n i = 0 := by unfold kdT; rw [if_neg (by omega)]
    have ens : nsT t n ns (i + 1) = nsT t n ns i := by
      show nsS t n i (nsT t n ns i) = _
      unfold nsS
      rw [if_neg (by omega)]
    have hfX : FrX s _ := FrX.of1 f1 (by decide)
    refine ⟨_, rfl, ⟨fun _ => ?_, fun h0 => absurd eft h0⟩, hfX, k7⟩
    exact ⟨hT.frX hfX, (f1.2 10 (by decide)).trans h10, (f1.2 11 (by decide)).trans h11, k7, (zz_same _ _ _ (by decide)).trans ekd.symm, fun q => absurd q (by omega), fun _ => ⟨k8, (f1.2 4 (by decide)).trans h4⟩, by rw [ens]; exact NT3.fr1 hN f1, fun q => absurd q (by rw [ekd]; decide), fun q => absurd q (by rw [ekd]; decide)⟩
theorem x_advance {d : Nat} {B : aH} (hB : a_Can B) (hd : 5 ≤ d) {t : Nat → Int} {n : Nat} {ns : List (List Int)} (hcap : XCap t n ns) {s : aZ} (l : aZL) (i : Nat) (h0 : ftT t n i = 0) (hs : stT t n i < n) (hX : XC t n ns i s) : a_W d 24 0 [.ref 1, .retAddr 0] [] (mkH B s l) (fun q => ∃ s2, q = (.inl none, mkH B s2 l) ∧ XAt t n ns (i + 1) s2 ∧ FrX s s2 ∧ zz s2 1 7 = stT t n (i + 1)) := by
  obtain ⟨x1, x2, x3, x4, x5, x6, x7, x8, x9, x10⟩ := hX
  obtain ⟨f1, f2⟩ := ft0 h0 hs
  have he := tkE_le hs f2
  exact x_adv_to hB hd hcap l x1 (i + 1) (tkE t n (stT t n i)) he.2 (by omega) rfl (x6 hs).1 x2 x3 ((x6 hs).2.trans (by omega)) x8
theorem x_adv_f {d : Nat} {B : aH} (hB : a_Can B) (hd : 3 ≤ d) {s : aZ} (l : aZL) (hf : zz s 1 10 ≠ 0) : a_W d 24 0 [.ref 1, .retAddr 0] [] (mkH B s l) (fun q => q = (.inl none, mkH B s l)) := w24_0 hB (by omega) s l ⟨fun _ => rfl, fun h => absurd h hf⟩
theorem x_open {d : Nat} {B : aH} (hB : a_Can B) (hd : 6 ≤ d) {t : Nat → Int} {n : Nat} {ns : List (List Int)} (hcap : XCap t n ns) {s : aZ} (l : aZL) (hn : n ≤ 8000) (hb : ∀ j, j < n → zz s 2 j = sb (t j) ∧ 0 ≤ t j ∧ t j < 256) (hN : NT 3 5 6 7 4 10240 3000 ns s) : a_W d 23 0 [.ref 1, iv (n : Int)] [] (mkH B s l) (fun q => ∃ s2, q = (.inl none, mkH B s2 l) ∧ XAt t n ns 0 s2 ∧ zz s2 1 5 = stT t n 0 ∧ zz s2 1 2 = 0 ∧ (∀ k, k ≠ 1 → k ≠ 3 → k ≠ 4 → k ≠ 5 → k ≠ 6 → k ≠ 7 → s2 k = s k)) := by
  refine w23_0 hB (by omega) _ s l ?_
  have f1 : Fr1 [2, 3, 4, 8, 10, 11] s (zu (zu (zu (zu (zu (zu s 1 3 (n : Int)) 1 2 0) 1 4 0) 1 8 0) 1 10 0) 1 11 (-1)) := (((((Fr1.zu _ _ _ (by decide)).tr (Fr1.zu _ _ _ (by decide))).tr (Fr1.zu _ _ _ (by decide))).tr (Fr1.zu _ _ _ (by decide))).tr (Fr1.zu _ _ _ (by decide))).tr (Fr1.zu _ _ _ (by decide))
  have k3 : zz (zu (zu (zu (zu (zu (zu s 1 3 (n : Int)) 1 2 0) 1 4 0) 1 8 0) 1 10 0) 1 11 (-1)) 1 3 = n := by
    rw [zz_ne _ _ _ _ _ _ (by decide), zz_ne _ _ _ _ _ _ (by decide), zz_ne _ _ _ _ _ _ (by decide), zz_ne _ _ _ _ _ _ (by decide), zz_ne _ _ _ _ _ _ (by decide), zz_same _ _ _ ⟨by omega, by omega⟩]
  have k2 : zz (zu (zu (zu (zu (zu (zu s 1 3 (n : Int)) 1 2 0) 1 4 0) 1 8 0) 1 10 0) 1 11 (-1)) 1 2 = 0 := by
    rw [zz_ne _ _ _ _ _ _ (by decide), zz_ne _ _ _ _ _ _ (by decide), zz_ne _ _ _ _ _ _ (by decide), zz_ne _ _ _ _ _ _ (by decide), zz_same _ _ _ (by decide)]
  have k4 : zz (zu (zu (zu (zu (zu (zu s 1 3 (n : Int)) 1 2 0) 1 4 0) 1 8 0) 1 10 0) 1 11 (-1)) 1 4 = 0 := by
    rw [zz_ne _ _ _ _ _ _ (by decide), zz_ne _ _ _ _ _ _ (by decide), zz_ne _ _ _ _ _ _ (by decide), zz_same _ _ _ (by decide)]
  have k8 : zz (zu (zu (zu (zu (zu (zu s 1 3 (n : Int)) 1 2 0) 1 4 0) 1 8 0) 1 10 0) 1 11 (-1)) 1 8 = 0 := by
    rw [zz_ne _ _ _ _ _ _ (by decide), zz_ne _ _ _ _ _ _ (by decide), zz_same _ _ _ (by decide)]
  have k10 : zz (zu (zu (zu (zu (zu (zu s 1 3 (n : Int)) 1 2 0) 1 4 0) 1 8 0) 1 10 0) 1 11 (-1)) 1 10 = 0 := by
    rw [zz_ne _ _ _ _ _ _ (by decide), zz_same _ _ _ (by decide)]
  have k11 : zz (zu (zu (zu (zu (zu (zu s 1 3 (n : Int)) 1 2 0) 1 4 0) 1 8 0) 1 10 0) 1 11 (-1)) 1 11 = -1 := zz_same _ _ _ (by decide)
  refine a_W.imp (x_adv_to hB (by omega) hcap l ⟨k3, hn, fun j hj => ⟨(zz_of (f1.1 2 (by decide)) j).trans (hb j hj).1, (hb j hj).2⟩⟩ 0 0 (Nat.zero_le _) (by omega) rfl k8 k10 k11 k4 (NT3.fr1 hN f1)) ?_
  rintro _ ⟨s2, rfl, g1, g2, g3⟩
  have f5 : Fr1 [5] s2 (zu s2 1 5 (zz s2 1 7)) := Fr1.zu _ _ _ (by decide)
  have h5 : ∀ j, j ≠ 5 → zz (zu s2 1 5 (zz s2 1 7)) 1 j = zz s2 1 j := fun j hj => zz_ne _ _ _ _ _ _ (fun q => hj q.2)
  refine ⟨s2, l, rfl, _, rfl, ⟨fun h0 => ?_, fun h0 => ?_⟩, ?_, ?_, fun k q1 q3 q4 q5 q6 q7 => ?_⟩
  · obtain ⟨x1, x2, x3, x4, x5, x6, x7, x8, x9, x10⟩ := g1.1 h0
    refine ⟨x1.fr f5 (by decide), ?_, ?_, ?_, ?_, ?_, ?_, NT3.fr1 x8 f5, ?_, ?_⟩
    · rw [h5 _ (by decide)]; exact x2
    · rw [h5 _ (by decide)]; exact x3
    · rw [h5 _ (by decide)]; exact x4
    · rw [h5 _ (by decide)]; exact x5
    · rw [h5 _ (by decide), h5 _ (by decide)]; exact x6
    · rw [h5 _ (by decide), h5 _ (by decide)]; exact x7
    · rw [h5 _ (by decide)]; exact x9
    · rw [h5 _ (by decide)]; exact x10
  · obtain ⟨x1, x2, x3, x4, x5, x6⟩ := g1.2 h0
    refine ⟨x1.fr f5 (by decide), x2, ?_, ?_, ?_, NT3.fr1 x6 f5⟩
    · rw [h5 _ (by decide)]; exact x3
    · rw [h5 _ (by decide)]; exact x4
    · rw [h5 _ (by decide)]; exact x5
  · rw [zz_same _ _ _ (inR_zz _ _ _)]; exact g3
  · rw [h5 _ (by decide), g2.2 2 (by decide)]; exact k2
  · rw [f5.1 k q1, g2.1 k q1 q3 q4 q5 q6 q7, f1.1 k q1]
