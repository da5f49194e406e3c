/-! THE READER'S TOKENS -/
theorem z31_iff (c : Int) : z31 c ≠ 0 ↔ (97 ≤ c ∧ c ≤ 122) ∨ (65 ≤ c ∧ c ≤ 90) ∨ c = 95 := by unfold z31; omega
theorem wd_chars (t : Nat → Int) : ∀ (k p j : Nat), p ≤ j → j < wd t k p → 39 ≤ t j ∧ t j ≤ 122 := by
  intro k
  induction k with
  | zero => intro p j h1 h2; unfold wd at h2; omega
  | succ k ih =>
    intro p j h1 h2
    unfold wd at h2
    split at h2
    · rename_i h
      by_cases e : j = p
      · subst e
        rw [z31_iff, z34_iff] at h
        omega
      · exact ih (p + 1) j (by omega) h2
    · omega
def seg (t : Nat → Int) (a k : Nat) : List Int := (List.range k).map (fun j => t (a + j))
theorem seg_len (t : Nat → Int) (a k : Nat) : (seg t a k).length = k := by unfold seg; rw [List.length_map, List.length_range]
theorem seg_get (t : Nat → Int) (a k j : Nat) (h : j < k) : (seg t a k).getD j 0 = t (a + j) := by
  unfold seg
  rw [List.getD_eq_getElem?_getD, List.getElem?_map, List.getElem?_range h]
  rfl
theorem seg_mem {t : Nat → Int} {a k : Nat} {c : Int} (h : c ∈ seg t a k) : ∃ j, j < k ∧ c = t (a + j) := by
  unfold seg at h
  rw [List.mem_map] at h
  obtain ⟨j, hj, e⟩ := h
  exact ⟨j, List.mem_range.mp hj, e.symm⟩
def TKP (p : Nat) (K : Int) (E : Nat) (F : Int) (s s2 : aZ) : Prop := (F = 0 → zz s2 1 6 = K ∧ zz s2 1 8 = E ∧ zz s2 1 10 = 0 ∧ zz s2 1 11 = zz s 1 11) ∧ (F ≠ 0 → zz s2 1 6 = 0 ∧ zz s2 1 10 = F ∧ zz s2 1 11 = p)
theorem fl_bad (x : aZ) (F v : Int) (hF : inR F) (hv : inR v) : zz (zu (zu (zu x 1 10 F) 1 11 v) 1 6 0) 1 6 = 0 ∧ zz (zu (zu (zu x 1 10 F) 1 11 v) 1 6 0) 1 10 = F ∧ zz (zu (zu (zu x 1 10 F) 1 11 v) 1 6 0) 1 11 = v := by
  refine ⟨zz_same _ _ _ (by decide), ?_, ?_⟩
  · rw [zz_ne _ _ _ _ _ _ (by decide), zz_ne _ _ _ _ _ _ (by decide), zz_same _ _ _ hF]
  · rw [zz_ne _ _ _ _ _ _ (by decide), zz_same _ _ _ hv]
theorem fl_fr {js : List Nat} {s x : aZ} (h : Fr1 js s x) (F v : Int) (h6 : 6 ∈ js) (h10 : 10 ∈ js) (h11 : 11 ∈ js) : Fr1 js s (zu (zu (zu x 1 10 F) 1 11 v) 1 6 0) := ((h.tr (Fr1.zu _ _ _ h10)).tr (Fr1.zu _ _ _ h11)).tr (Fr1.zu _ _ _ h6)
theorem x_kw {d : Nat} {B : aH} (hB : a_Can B) {t : Nat → Int} {n : Nat} {s : aZ} (l : aZL) (hT : XT t n s) (p e : Nat) (h7 : zz s 1 7 = p) (h8 : zz s 1 8 = e) (hpe : p ≤ e) (hen : e ≤ n) : a_W d 35 0 [.ref 1, .retAddr 0, .retAddr 0] [] (mkH B s l) (fun q => q = (.inl (some (iv (if e = p + 2 ∧ ((t p = 98 ∧ t (p + 1) = 121) ∨ (t p = 105 ∧ t (p + 1) = 110)) then 1 else 0))), mkH B s l)) := by
  obtain ⟨h1, h2, h3⟩ := hT
  have fin : ∀ v : Int, v = (if e = p + 2 ∧ ((t p = 98 ∧ t (p + 1) = 121) ∨ (t p = 105 ∧ t (p + 1) = 110)) then 1 else 0) → ((Sum.inl (some (iv v)), mkH B s l) : aR) = (.inl (some (iv (if e = p + 2 ∧ ((t p = 98 ∧ t (p + 1) = 121) ∨ (t p = 105 ∧ t (p + 1) = 110)) then 1 else 0))), mkH B s l) := fun v hv => by rw [hv]
  refine w35_0 hB s l ⟨⟨by omega, by omega⟩, fun hl => ?_, fun hl => fin _ (by rw [if_neg (by omega)])⟩
  obtain ⟨b1, b2⟩ := h3 p (by omega)
  obtain ⟨c1, c2⟩ := h3 (p + 1) (by omega)
  have e1 : (zz s 1 7).toNat = p := by omega
  have e2 : (zz s 1 7 + 1).toNat = p + 1 := by omega
  refine ⟨⟨by omega, by omega⟩, ⟨by omega, by omega⟩, ?_⟩
  rw [e1, e2, b1, c1]
  have k1 := sb_c b2 98 (by decide)
  have k2 := sb_c b2 105 (by decide)
  have k3 := sb_c c2 110 (by decide)
  have k4 := sb_c c2 121 (by decide)
  have he : e = p + 2 := by omega
  refine ⟨fun g1 => ⟨fun g2 => fin _ ?_, fun g2 => ⟨fun g3 => fin _ ?_, fun g3 => fin _ ?_⟩⟩, fun g1 => ⟨fun g3 => fin _ ?_, fun g3 => fin _ ?_⟩⟩
  · rw [if_neg]
    rintro ⟨-, q | q⟩
    · exact g1 (k1.mpr q.1)
    · exact g2 (k2.mpr q.1)
  · rw [if_neg]
    rintro ⟨-, q | q⟩
    · exact g1 (k1.mpr q.1)
    · exact g3 (k3.mpr q.2)
  · rw [if_pos ⟨he, Or.inr ⟨k2.mp g2, k3.mp g3⟩⟩]
  · rw [if_pos ⟨he, Or.inl ⟨k1.mp g1, k4.mp g3⟩⟩]
  · rw [if_neg]
    rintro ⟨-, q | q⟩
    · exact g3 (k4.mpr q.2)
    · have h98 := k1.mp g1
      omega
theorem x_scanName {d : Nat} {B : aH} (hB : a_Can B) (hd : 3 ≤ d) {t : Nat → Int} {n : Nat} {s : aZ} (l : aZL) (hT : XT t n s) (p : Nat) (hp : p < n) (h7 : zz s 1 7 = p) (h10 : zz s 1 10 = 0) (hz : z31 (t p) ≠ 0) : a_W d 32 0 [.ref 1] [] (mkH B s l) (fun q => ∃ s2, q = (.inl none, mkH B s2 l) ∧ Fr1 [6, 8, 9, 10, 11] s s2 ∧ TKP p (tkK t n p) (tkE t n p) (tkF t n p) s s2) := by
  have hw := wd_ge t (n - p) p
  have hn8 := hT.2.1
  have eK : tkK t n p = (if wd t (n - p) p = p + 2 ∧ ((t p = 98 ∧ t (p + 1) = 121) ∨ (t p = 105 ∧ t (p + 1) = 110)) then 23 else 1) := by unfold tkK; rw [if_pos hz]
  have eE : tkE t n p = wd t (n - p) p := by unfold tkE; rw [if_pos hz]
  have eF : tkF t n p = (if p + 24 < wd t (n - p) p then 8 else 0) := by unfold tkF; rw [if_pos hz]
  refine w32_0 hB (by omega) s l ?_
  rw [h7]
  refine a_W.imp (x_word hB (by omega) l hT p (by omega)) ?_
  rintro _ rfl
  refine ⟨_, s, l, rfl, ?_⟩
  have f1 : Fr1 [6, 8, 9, 10, 11] s (zu s 1 8 (wd t (n - p) p : Nat)) := Fr1.zu _ _ _ (by decide)
  have s8 : zz (zu s 1 8 (wd t (n - p) p : Nat)) 1 8 = (wd t (n - p) p : Nat) := zz_same _ _ _ ⟨by omega, by omega⟩
  have s7 : zz (zu s 1 8 (wd t (n - p) p : Nat)) 1 7 = p := (zz_ne _ _ _ _ _ _ (by decide)).trans h7
  have s10 : zz (zu s 1 8 (wd t (n - p) p : Nat)) 1 10 = 0 := (zz_ne _ _ _ _ _ _ (by decide)).trans h10
  refine a_W.imp (x_kw hB l (hT.fr f1 (by decide)) p (wd t (n - p) p) s7 s8 (by omega) (by omega)) ?_
  rintro _ rfl
  refine ⟨_, _, l, rfl, ?_⟩
  rw [s8, s7]
  have ok : ∀ K : Int, inR K → K = tkK t n p → ((wd t (n - p) p : Nat) : Int) - (p : Int) ≤ 24 → ∃ s2, ((.inl none, (mkH B (zu (zu s 1 8 (wd t (n - p) p : Nat)) 1 6 K) l)) : aR) = (.inl none, mkH B s2 l) ∧ Fr1 [6, 8, 9, 10, 11] s s2 ∧ TKP p (tkK t n p) (tkE t n p) (tkF t n p) s s2 := by
    intro K hK hKe hle
    refine ⟨_, rfl, f1.tr (Fr1.zu _ _ _ (by decide)), fun _ => ⟨?_, ?_, ?_, ?_⟩, fun h => absurd eF (by rw [if_neg (by omega)]; exact h)⟩
    · rw [zz_same _ _ _ hK]; exact hKe
    · rw [zz_ne _ _ _ _ _ _ (by decide), s8, eE]
    · rw [zz_ne _ _ _ _ _ _ (by decide)]; exact s10
    · rw [zz_ne _ _ _ _ _ _ (by decide), zz_ne _ _ _ _ _ _ (by decide)]
  have bad : ∀ K : Int, 24 < ((wd t (n - p) p : Nat) : Int) - (p : Int) → ∃ s2, ((.inl none, (mkH B (zu (zu (zu (zu (zu s 1 8 (wd t (n - p) p : Nat)) 1 6 K) 1 10 8) 1 11 (p : Int)) 1 6 0) l)) : aR) = (.inl none, mkH B s2 l) ∧ Fr1 [6, 8, 9, 10, 11] s s2 ∧ TKP p (tkK t n p) (tkE t n p) (tkF t n p) s s2 := by
    intro K hlt
    refine ⟨_, rfl, fl_fr (f1.tr (Fr1.zu _ _ _ (by decide))) _ _ (by decide) (by decide) (by decide), fun h => absurd h (by rw [eF, if_pos (by omega)]; decide), fun _ => ?_⟩
    rw [eF, if_pos (by omega)]
    exact fl_bad _ _ _ (by decide) ⟨by omega, by omega⟩
  by_cases hk : wd t (n - p) p = p + 2 ∧ ((t p = 98 ∧ t (p + 1) = 121) ∨ (t p = 105 ∧ t (p + 1) = 110))
  · rw [if_pos hk]
    rw [if_pos hk] at eK
    exact ⟨by decide, fun h => absurd h (by decide), fun _ => ⟨⟨by omega, by omega⟩, fun h => ok 23 (by decide) eK.symm h, fun h => ⟨fun h2 => absurd s10 h2, fun _ => bad 23 h⟩⟩⟩
  · rw [if_neg hk]
    rw [if_neg hk] at eK
    exact ⟨by decide, fun _ => ⟨⟨by omega, by omega⟩, fun h => ok 1 (by decide) eK.symm h, fun h => ⟨fun h2 => absurd s10 h2, fun _ => bad 1 h⟩⟩, fun h => absurd rfl h⟩
theorem x_scanNum {d : Nat} {B : aH} (hB : a_Can B) (hd : 3 ≤ d) {t : Nat → Int} {n : Nat} {s : aZ} (l : aZL) (hT : XT t n s) (p : Nat) (hp : p < n) (h7 : zz s 1 7 = p) (h8 : zz s 1 8 = p) (h10 : zz s 1 10 = 0) (hz1 : ¬ z31 (t p) ≠ 0) (hz : z34 (t p) ≠ 0) : a_W d 41 0 [.ref 1] [] (mkH B s l) (fun q => ∃ s2, q = (.inl none, mkH B s2 l) ∧ Fr1 [6, 8, 9, 10, 11] s s2 ∧ TKP p (tkK t n p) (tkE t n p) (tkF t n p) s s2 ∧ zz s2 1 9 = dgV t (n - p) p 0) := by
  have h39 : ¬ t p = 39 := fun e => by rw [z34_iff] at hz; omega
  have eK : tkK t n p = 3 := by unfold tkK; rw [if_neg hz1, if_neg h39, if_pos hz]
  have eE : tkE t n p = dgE t (n - p) p := by unfold tkE; rw [if_neg hz1, if_neg h39, if_pos hz]
  have eF : tkF t n p = (if 49 < dgV t (n - p) p 0 then 8 else 0) := by unfold tkF; rw [if_neg hz1, if_neg h39, if_pos hz]
  have f1 : Fr1 [6, 8, 9, 10, 11] s (zu s 1 9 0) := Fr1.zu _ _ _ (by decide)
  refine w41_0 hB s l (a_W.imp (x_num_loop hB hd l (n - p) p (zu s 1 9 0) 0 (by omega) (hT.fr f1 (by decide)) ((zz_ne _ _ _ _ _ _ (by decide)).trans h8) (zz_same _ _ _ (by decide)) (by decide) ((zz_ne _ _ _ _ _ _ (by decide)).trans h10)) ?_)
  rintro _ ⟨s2, rfl, f, c1, c2, c3, c4⟩
  refine ⟨s2, rfl, f1.tr f, ⟨fun h0 => ?_, fun h0 => ?_⟩, c2⟩
  · rw [eF] at h0
    have hv : dgV t (n - p) p 0 ≤ 49 := by
      apply Decidable.byContradiction
      intro hn
      rw [if_pos (by omega)] at h0
      exact absurd h0 (by decide)
    obtain ⟨g1, g2, g3⟩ := c3 hv
    exact ⟨by rw [g1, eK], by rw [c1, eE], g2, g3.trans (zz_ne _ _ _ _ _ _ (by decide))⟩
  · rw [eF] at h0 ⊢
    have hv : 49 < dgV t (n - p) p 0 := by
      apply Decidable.byContradiction
      intro hn
      rw [if_neg hn] at h0
      exact h0 rfl
    obtain ⟨g1, g2, g3⟩ := c4 hv
    rw [if_pos hv]
    exact ⟨g1, g2, g3.trans ((zz_ne _ _ _ _ _ _ (by decide)).trans h7)⟩
theorem bt_rng {t : Nat → Int} {n : Nat} (h : ∀ j, j < n → 0 ≤ t j ∧ t j < 256) (p : Nat) : 0 ≤ bt t n p ∧ bt t n p < 256 := by
  unfold bt
  split
  · exact h p (by assumption)
  · decide
/-- from the place where two letters have been tried -/
theorem x_sgn67 {d : Nat} {B : aH} (hB : a_Can B) (hd : 3 ≤ d) (s x : aZ) (l : aZL) (p : Nat) (hp : p ≤ 8000) (c x2 k : Int) (E : Nat) (hc : inR c) (hf : Fr1 [6, 8, 9, 10, 11] s x) (h6 : zz x 1 6 = k) (h7 : zz x 1 7 = p) (h8 : zz x 1 8 = E) (h10 : zz x 1 10 = 0) (h11 : zz x 1 11 = zz s 1 11) (K : Int) (E2 : Nat) (F : Int) (hK : K = if k ≠ -1 then k else z45 c) (hE : E2 = if k ≠ -1 then E else p + 1) (hF : F = if K = -1 then 1 else 0) : a_W d 42 67 [.ref 1, iv c, iv x2] [] (mkH B x l) (fun q => ∃ s2, q = (.inl none, mkH B s2 l) ∧ Fr1 [6, 8, 9, 10, 11] s s2 ∧ TKP p K E2 F s s2) := by
  have end93 : ∀ y : aZ, Fr1 [6, 8, 9, 10, 11] s y → zz y 1 6 = K → zz y 1 7 = p → zz y 1 8 = E2 → zz y 1 10 = 0 → zz y 1 11 = zz s 1 11 → a_W d 42 93 [.ref 1, iv c, iv x2] [] (mkH B y l) (fun q => ∃ s2, q = (.inl none, mkH B s2 l) ∧ Fr1 [6, 8, 9, 10, 11] s s2 ∧ TKP p K E2 F s s2) := by
    intro y f y6 y7 y8 y10 y11
    refine w42_93 hB (by omega) c x2 y l ⟨fun h => w42_106 hB c x2 y l ?_, fun h => ⟨fun h2 => absurd y10 h2, fun _ => w42_106 hB c x2 _ l ?_⟩⟩
    · rw [y6] at h
      refine ⟨y, rfl, f, fun _ => ⟨y6, y8, y10, y11⟩, fun h0 => absurd hF (by rw [if_neg h]; exact h0)⟩
    · rw [y6] at h
      rw [if_pos h] at hF
      rw [y7]
      refine ⟨_, rfl, fl_fr f _ _ (by decide) (by decide) (by decide), fun h0 => absurd h0 (by rw [hF]; decide), fun _ => ?_⟩
      rw [hF]
      exact fl_bad _ _ _ (by decide) ⟨by omega, by omega⟩
  refine w42_67 hB (by omega) c x2 x l ⟨fun h => ?_, fun h => ⟨hc, ?_⟩⟩
  · rw [h6] at h
    rw [if_pos h] at hK hE
    exact end93 x hf (h6.trans hK.symm) h7 (by rw [h8, hE]) h10 h11
  · rw [h6] at h
    rw [if_neg (fun q => q h)] at hK hE
    rw [h7]
    refine end93 _ ((hf.tr (Fr1.zu _ _ _ (by decide))).tr (Fr1.zu _ _ _ (by decide))) ?_ ?_ ?_ ?_ ?_
    · rw [zz_ne _ _ _ _ _ _ (by decide), zz_same _ _ _ (inR_z45 _)]; exact hK.symm
    · rw [zz_ne _ _ _ _ _ _ (by decide), zz_ne _ _ _ _ _ _ (by decide)]; exact h7
    · rw [zz_same _ _ _ ⟨by omega, by omega⟩, hE]; rfl
    · rw [zz_ne _ _ _ _ _ _ (by decide), zz_ne _ _ _ _ _ _ (by decide)]; exact h10
    · rw [zz_ne _ _ _ _ _ _ (by decide), zz_ne _ _ _ _ _ _ (by decide)]; exact h11
theorem x_scanSign {d : Nat} {B : aH} (hB : a_Can B) (hd : 3 ≤ d) {t : Nat → Int} {n : Nat} {s : aZ} (l : aZL) (hT : XT t n s) (p : Nat) (hp : p < n) (h7 : zz s 1 7 = p) (h10 : zz s 1 10 = 0) (hz1 : ¬ z31 (t p) ≠ 0) (h39 : ¬ t p = 39) (hz : ¬ z34 (t p) ≠ 0) : a_W d 42 0 [.ref 1, iv (sb (t p)), .retAddr 0] [] (mkH B s l) (fun q => ∃ s2, q = (.inl none, mkH B s2 l) ∧ Fr1 [6, 8, 9, 10, 11] s s2 ∧ TKP p (tkK t n p) (tkE t n p) (tkF t n p) s s2) := by
  have hT' := hT
  obtain ⟨h1, h2, h3⟩ := hT
  have hr := fun j hj => (h3 j hj).2
  obtain ⟨b1, b2⟩ := h3 p hp
  have d1 := bt_rng hr (p + 1)
  have d2 := bt_rng hr (p + 2)
  have eF : tkF t n p = (if tkK t n p = -1 then 1 else 0) := by
    unfold tkF
    rw [if_neg hz1, if_neg h39, if_neg hz]
  have key : ∀ (y2 y3 : Int), y2 = sb (bt t n (p + 1)) → y3 = sb (bt t n (p + 2)) → (((z43 (sb (t p)) y2 y3) ≠ (-1) → a_W d 42 67 [.ref 1, iv (sb (t p)), iv y2] [] (mkH B (zu (zu s 1 6 (z43 (sb (t p)) y2 y3)) 1 8 ((zz s 1 7) + 3)) l) (fun q => ∃ s2, q = (.inl none, mkH B s2 l) ∧ Fr1 [6, 8, 9, 10, 11] s s2 ∧ TKP p (tkK t n p) (tkE t n p) (tkF t n p) s s2)) ∧ ((z43 (sb (t p)) y2 y3) = (-1) → a_W d 42 67 [.ref 1, iv (sb (t p)), iv y2] [] (mkH B (zu (zu (zu (zu s 1 6 (z43 (sb (t p)) y2 y3)) 1 8 ((zz s 1 7) + 3)) 1 6 (z44 (sb (t p)) y2)) 1 8 ((zz s 1 7) + 2)) l) (fun q => ∃ s2, q = (.inl none, mkH B s2 l) ∧ Fr1 [6, 8, 9, 10, 11] s s2 ∧ TKP p (tkK t n p) (tkE t n p) (tkF t n p) s s2))) := by
    intro y2 y3 e2 e3
    rw [e2, e3, z43_sb b2 d1 d2, z44_sb b2 d1, h7]
    refine ⟨fun g => ?_, fun g => ?_⟩
    · have eK : tkK t n p = (if z43 (t p) (bt t n (p + 1)) (bt t n (p + 2)) ≠ -1 then z43 (t p) (bt t n (p + 1)) (bt t n (p + 2)) else z45 (sb (t p))) := by
        unfold tkK
        rw [if_neg hz1, if_neg h39, if_neg hz, if_pos g, if_pos g]
      have eE : tkE t n p = (if z43 (t p) (bt t n (p + 1)) (bt t n (p + 2)) ≠ -1 then p + 3 else p + 1) := by
        unfold tkE
        rw [if_neg hz1, if_neg h39, if_neg hz, if_pos g, if_pos g]
      refine x_sgn67 hB hd s _ l p (by omega) (sb (t p)) _ (z43 (t p) (bt t n (p + 1)) (bt t n (p + 2))) (p + 3) (inR_sb b2) ((Fr1.zu _ _ _ (by decide)).tr (Fr1.zu _ _ _ (by decide))) ?_ ?_ ?_ ?_ ?_ _ _ _ eK eE eF
      · rw [zz_ne _ _ _ _ _ _ (by decide), zz_same _ _ _ (inR_z43 _ _ _)]
      · rw [zz_ne _ _ _ _ _ _ (by decide), zz_ne _ _ _ _ _ _ (by decide)]; exact h7
      · rw [zz_same _ _ _ ⟨by omega, by omega⟩]; rfl
      · rw [zz_ne _ _ _ _ _ _ (by decide), zz_ne _ _ _ _ _ _ (by decide)]; exact h10
      · rw [zz_ne _ _ _ _ _ _ (by decide), zz_ne _ _ _ _ _ _ (by decide)]
    · have eK : tkK t n p = (if z44 (t p) (bt t n (p + 1)) ≠ -1 then z44 (t p) (bt t n (p + 1)) else z45 (sb (t p))) := by
        unfold tkK
        rw [if_neg hz1, if_neg h39, if_neg hz, if_neg (fun q => q g), z45_sb b2]
      have eE : tkE t n p = (if z44 (t p) (bt t n (p + 1)) ≠ -1 then p + 2 else p + 1) := by
        unfold tkE
        rw [if_neg hz1, if_neg h39, if_neg hz, if_neg (fun q => q g)]
      refine x_sgn67 hB hd s _ l p (by omega) (sb (t p)) _ (z44 (t p) (bt t n (p + 1))) (p + 2) (inR_sb b2) ((((Fr1.zu _ _ _ (by decide)).tr (Fr1.zu _ _ _ (by decide))).tr (Fr1.zu _ _ _ (by decide))).tr (Fr1.zu _ _ _ (by decide))) ?_ ?_ ?_ ?_ ?_ _ _ _ eK eE eF
      · rw [zz_ne _ _ _ _ _ _ (by decide), zz_same _ _ _ (inR_z44 _ _)]
      · rw [zz_ne _ _ _ _ _ _ (by decide), zz_ne _ _ _ _ _ _ (by decide), zz_ne _ _ _ _ _ _ (by decide), zz_ne _ _ _ _ _ _ (by decide)]; exact h7
      · rw [zz_same _ _ _ ⟨by omega, by omega⟩]; rfl
      · rw [zz_ne _ _ _ _ _ _ (by decide), zz_ne _ _ _ _ _ _ (by decide), zz_ne _ _ _ _ _ _ (by decide), zz_ne _ _ _ _ _ _ (by decide)]; exact h10
      · rw [zz_ne _ _ _ _ _ _ (by decide), zz_ne _ _ _ _ _ _ (by decide), zz_ne _ _ _ _ _ _ (by decide), zz_ne _ _ _ _ _ _ (by decide)]
  have q1 : (zz s 1 7 + 1).toNat = p + 1 := by omega
  have q2 : (zz s 1 7 + 2).toNat = p + 2 := by omega
  have n1 : ¬ p + 1 < n → (0 : Int) = sb (bt t n (p + 1)) := fun h => by unfold bt; rw [if_neg h]; rfl
  have n2 : ¬ p + 2 < n → (0 : Int) = sb (bt t n (p + 2)) := fun h => by unfold bt; rw [if_neg h]; rfl
  have y1 : p + 1 < n → zz s 2 (zz s 1 7 + 1).toNat = sb (bt t n (p + 1)) := fun h => by unfold bt; rw [if_pos h, q1, (h3 _ h).1]
  have y2 : p + 2 < n → zz s 2 (zz s 1 7 + 2).toNat = sb (bt t n (p + 2)) := fun h => by unfold bt; rw [if_pos h, q2, (h3 _ h).1]
  refine w42_0 hB (by omega) _ s l ⟨⟨by omega, by omega⟩, fun g1 => ⟨⟨by omega, by omega⟩, fun g2 => ⟨inR_sb b2, key 0 0 (n1 (by omega)) (n2 (by omega))⟩, fun g2 => ⟨⟨by omega, by omega⟩, inR_sb b2, key 0 _ (n1 (by omega)) (y2 (by omega))⟩⟩, fun g1 => ⟨⟨by omega, by omega⟩, ⟨by omega, by omega⟩, fun g2 => ⟨inR_sb b2, key _ 0 (y1 (by omega)) (n2 (by omega))⟩, fun g2 => ⟨⟨by omega, by omega⟩, inR_sb b2, key _ _ (y1 (by omega)) (y2 (by omega))⟩⟩⟩
