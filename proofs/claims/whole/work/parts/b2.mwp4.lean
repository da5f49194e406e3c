/-! printed by wip/am/mkb2.py: the reference reads terms -/
theorem inR_z182 {x : Int} (h : inR x) : inR (z182 x) := by
  have := h
  unfold z182
  constructor <;> omega
theorem w172_0 {d : Nat} {B : aH} {Q : aR → Prop} (hB : a_Can B) (x1 x2 x3 x4 x5 x6 : Int) (s : Nat → Nat → Int32) (l : Nat → Nat → Int64) (w : ((0 ≤ (zz s 56 41) ∧ (zz s 56 41) < 30100) ∧ (inR x5 ∧ ((x5 ≤ 100000 → (inR x6 ∧ ((x6 ≤ 100000 → Q (.inl (some (iv (((zz s 56 41) + 1) - 1))), (mkH B (zu (zu (zu (zu (zu (zu (zu s 82 (zz s 56 41).toNat x1) 83 (zz s 56 41).toNat x2) 84 (zz s 56 41).toNat x3) 85 (zz s 56 41).toNat x4) 86 (zz s 56 41).toNat x5) 87 (zz s 56 41).toNat x6) 56 41 ((zz s 56 41) + 1)) l))) ∧ (100000 < x6 → Q (.inl (some (iv (((zz s 56 41) + 1) - 1))), (mkH B (zu (zu (zu (zu (zu (zu (zu s 82 (zz s 56 41).toNat x1) 83 (zz s 56 41).toNat x2) 84 (zz s 56 41).toNat x3) 85 (zz s 56 41).toNat x4) 86 (zz s 56 41).toNat x5) 87 (zz s 56 41).toNat 100000) 56 41 ((zz s 56 41) + 1)) l)))))) ∧ (100000 < x5 → (inR x6 ∧ ((x6 ≤ 100000 → Q (.inl (some (iv (((zz s 56 41) + 1) - 1))), (mkH B (zu (zu (zu (zu (zu (zu (zu s 82 (zz s 56 41).toNat x1) 83 (zz s 56 41).toNat x2) 84 (zz s 56 41).toNat x3) 85 (zz s 56 41).toNat x4) 86 (zz s 56 41).toNat 100000) 87 (zz s 56 41).toNat x6) 56 41 ((zz s 56 41) + 1)) l))) ∧ (100000 < x6 → Q (.inl (some (iv (((zz s 56 41) + 1) - 1))), (mkH B (zu (zu (zu (zu (zu (zu (zu s 82 (zz s 56 41).toNat x1) 83 (zz s 56 41).toNat x2) 84 (zz s 56 41).toNat x3) 85 (zz s 56 41).toNat x4) 86 (zz s 56 41).toNat 100000) 87 (zz s 56 41).toNat 100000) 56 41 ((zz s 56 41) + 1)) l)))))))))) : a_W d 172 0 [.ref 56, iv x1, iv x2, iv x3, iv x4, iv x5, iv x6] [] (mkH B s l) Q := by
  refine w_aln (p := 1) (q172 0) rfl rfl ?_
  refine w_gR (p := 4) (j := 42) (v := 82) (q172 1) rfl (r56 hB) (by decide) (f56_42 hB) ?_
  refine w_aln (p := 5) (q172 4) rfl rfl ?_
  refine w_gI (p := 8) (j := 41) (v := (zz s 56 41)) (q172 5) rfl (r56 hB) (by decide) (iv_zz s 56 41) ?_
  refine w_iln (p := 9) (q172 8) rfl rfl ?_
  obtain ⟨o1, w⟩ := w
  refine w_ias (p := 10) (q172 9) rfl (r82 hB) (by decide) o1 ?_
  refine w_aln (p := 11) (q172 10) rfl rfl ?_
  refine w_gR (p := 14) (j := 43) (v := 83) (q172 11) rfl (r56 hB) (by decide) (f56_43 hB) ?_
  refine w_aln (p := 15) (q172 14) rfl rfl ?_
  refine w_gI (p := 18) (j := 41) (v := (zz s 56 41)) (q172 15) rfl (r56 hB) (by decide) (iv_zz s 56 41) ?_
  refine w_iln (p := 19) (q172 18) rfl rfl ?_
  refine w_ias (p := 20) (q172 19) rfl (r83 hB) (by decide) o1 ?_
  refine w_aln (p := 21) (q172 20) rfl rfl ?_
  refine w_gR (p := 24) (j := 44) (v := 84) (q172 21) rfl (r56 hB) (by decide) (f56_44 hB) ?_
  refine w_aln (p := 25) (q172 24) rfl rfl ?_
  refine w_gI (p := 28) (j := 41) (v := (zz s 56 41)) (q172 25) rfl (r56 hB) (by decide) (iv_zz s 56 41) ?_
  refine w_iln (p := 29) (q172 28) rfl rfl ?_
  refine w_ias (p := 30) (q172 29) rfl (r84 hB) (by decide) o1 ?_
  refine w_aln (p := 31) (q172 30) rfl rfl ?_
  refine w_gR (p := 34) (j := 45) (v := 85) (q172 31) rfl (r56 hB) (by decide) (f56_45 hB) ?_
  refine w_aln (p := 35) (q172 34) rfl rfl ?_
  refine w_gI (p := 38) (j := 41) (v := (zz s 56 41)) (q172 35) rfl (r56 hB) (by decide) (iv_zz s 56 41) ?_
  refine w_il (p := 40) (q172 38) rfl rfl ?_
  refine w_ias (p := 41) (q172 40) rfl (r85 hB) (by decide) o1 ?_
  refine w_aln (p := 42) (q172 41) rfl rfl ?_
  refine w_gR (p := 45) (j := 46) (v := 86) (q172 42) rfl (r56 hB) (by decide) (f56_46 hB) ?_
  refine w_aln (p := 46) (q172 45) rfl rfl ?_
  refine w_gI (p := 49) (j := 41) (v := (zz s 56 41)) (q172 46) rfl (r56 hB) (by decide) (iv_zz s 56 41) ?_
  refine w_il (p := 51) (q172 49) rfl rfl ?_
  refine w_ldcw (p := 54) (n := 100000) (q172 51) rfl (by decide) ?_
  obtain ⟨h2, w⟩ := w
  by_cases c3 : x5 ≤ 100000
  · replace w := w.1 c3
    refine w_i2t (q172 54) h2 (by decide) c3 ?_
    refine w_il (p := 65) (q172 63) rfl rfl ?_
    refine w_ias (p := 66) (q172 65) rfl (r86 hB) (by decide) o1 ?_
    refine w_aln (p := 67) (q172 66) rfl rfl ?_
    refine w_gR (p := 70) (j := 47) (v := 87) (q172 67) rfl (r56 hB) (by decide) (f56_47 hB) ?_
    refine w_aln (p := 71) (q172 70) rfl rfl ?_
    refine w_gI (p := 74) (j := 41) (v := (zz s 56 41)) (q172 71) rfl (r56 hB) (by decide) (iv_zz s 56 41) ?_
    refine w_il (p := 76) (q172 74) rfl rfl ?_
    refine w_ldcw (p := 79) (n := 100000) (q172 76) rfl (by decide) ?_
    obtain ⟨h4, w⟩ := w
    by_cases c5 : x6 ≤ 100000
    · replace w := w.1 c5
      refine w_i2t (q172 79) h4 (by decide) c5 ?_
      refine w_il (p := 90) (q172 88) rfl rfl ?_
      refine w_ias (p := 91) (q172 90) rfl (r87 hB) (by decide) o1 ?_
      refine w_aln (p := 92) (q172 91) rfl rfl ?_
      refine w_dupr (p := 93) (q172 92) rfl ?_
      refine w_gI (p := 96) (j := 41) (v := (zz s 56 41)) (q172 93) rfl (r56 hB) (by decide) (iv_zz s 56 41) ?_
      refine w_ic (p := 97) (q172 96) rfl ?_
      refine w_add (p := 98) (q172 97) rfl ?_
      refine w_pI (p := 101) (j := 41) (q172 98) rfl (r56 hB) (by decide) rfl ?_
      refine w_aln (p := 102) (q172 101) rfl rfl ?_
      refine w_gI (p := 105) (j := 41) (v := ((zz s 56 41) + 1)) (q172 102) rfl (r56 hB) (by decide) rfl ?_
      refine w_ic (p := 106) (q172 105) rfl ?_
      refine w_sub (p := 107) (q172 106) rfl ?_
      exact w_ret (q172 107) rfl w
    · replace w := w.2 (Int.not_le.mp c5)
      refine w_i2f (p := 82) (q172 79) rfl h4 (by decide) c5 ?_
      refine w_ldcw (p := 85) (n := 100000) (q172 82) rfl (by decide) ?_
      refine w_goto (q172 85) ?_
      refine w_ias (p := 91) (q172 90) rfl (r87 hB) (by decide) o1 ?_
      refine w_aln (p := 92) (q172 91) rfl rfl ?_
      refine w_dupr (p := 93) (q172 92) rfl ?_
      refine w_gI (p := 96) (j := 41) (v := (zz s 56 41)) (q172 93) rfl (r56 hB) (by decide) (iv_zz s 56 41) ?_
      refine w_ic (p := 97) (q172 96) rfl ?_
      refine w_add (p := 98) (q172 97) rfl ?_
      refine w_pI (p := 101) (j := 41) (q172 98) rfl (r56 hB) (by decide) rfl ?_
      refine w_aln (p := 102) (q172 101) rfl rfl ?_
      refine w_gI (p := 105) (j := 41) (v := ((zz s 56 41) + 1)) (q172 102) rfl (r56 hB) (by decide) rfl ?_
      refine w_ic (p := 106) (q172 105) rfl ?_
      refine w_sub (p := 107) (q172 106) rfl ?_
      exact w_ret (q172 107) rfl w
  · replace w := w.2 (Int.not_le.mp c3)
    refine w_i2f (p := 57) (q172 54) rfl h2 (by decide) c3 ?_
    refine w_ldcw (p := 60) (n := 100000) (q172 57) rfl (by decide) ?_
    refine w_goto (q172 60) ?_
    refine w_ias (p := 66) (q172 65) rfl (r86 hB) (by decide) o1 ?_
    refine w_aln (p := 67) (q172 66) rfl rfl ?_
    refine w_gR (p := 70) (j := 47) (v := 87) (q172 67) rfl (r56 hB) (by decide) (f56_47 hB) ?_
    refine w_aln (p := 71) (q172 70) rfl rfl ?_
    refine w_gI (p := 74) (j := 41) (v := (zz s 56 41)) (q172 71) rfl (r56 hB) (by decide) (iv_zz s 56 41) ?_
    refine w_il (p := 76) (q172 74) rfl rfl ?_
    refine w_ldcw (p := 79) (n := 100000) (q172 76) rfl (by decide) ?_
    obtain ⟨h6, w⟩ := w
    by_cases c7 : x6 ≤ 100000
    · replace w := w.1 c7
      refine w_i2t (q172 79) h6 (by decide) c7 ?_
      refine w_il (p := 90) (q172 88) rfl rfl ?_
      refine w_ias (p := 91) (q172 90) rfl (r87 hB) (by decide) o1 ?_
      refine w_aln (p := 92) (q172 91) rfl rfl ?_
      refine w_dupr (p := 93) (q172 92) rfl ?_
      refine w_gI (p := 96) (j := 41) (v := (zz s 56 41)) (q172 93) rfl (r56 hB) (by decide) (iv_zz s 56 41) ?_
      refine w_ic (p := 97) (q172 96) rfl ?_
      refine w_add (p := 98) (q172 97) rfl ?_
      refine w_pI (p := 101) (j := 41) (q172 98) rfl (r56 hB) (by decide) rfl ?_
      refine w_aln (p := 102) (q172 101) rfl rfl ?_
      refine w_gI (p := 105) (j := 41) (v := ((zz s 56 41) + 1)) (q172 102) rfl (r56 hB) (by decide) rfl ?_
      refine w_ic (p := 106) (q172 105) rfl ?_
      refine w_sub (p := 107) (q172 106) rfl ?_
      exact w_ret (q172 107) rfl w
    · replace w := w.2 (Int.not_le.mp c7)
      refine w_i2f (p := 82) (q172 79) rfl h6 (by decide) c7 ?_
      refine w_ldcw (p := 85) (n := 100000) (q172 82) rfl (by decide) ?_
      refine w_goto (q172 85) ?_
      refine w_ias (p := 91) (q172 90) rfl (r87 hB) (by decide) o1 ?_
      refine w_aln (p := 92) (q172 91) rfl rfl ?_
      refine w_dupr (p := 93) (q172 92) rfl ?_
      refine w_gI (p := 96) (j := 41) (v := (zz s 56 41)) (q172 93) rfl (r56 hB) (by decide) (iv_zz s 56 41) ?_
      refine w_ic (p := 97) (q172 96) rfl ?_
      refine w_add (p := 98) (q172 97) rfl ?_
      refine w_pI (p := 101) (j := 41) (q172 98) rfl (r56 hB) (by decide) rfl ?_
      refine w_aln (p := 102) (q172 101) rfl rfl ?_
      refine w_gI (p := 105) (j := 41) (v := ((zz s 56 41) + 1)) (q172 102) rfl (r56 hB) (by decide) rfl ?_
      refine w_ic (p := 106) (q172 105) rfl ?_
      refine w_sub (p := 107) (q172 106) rfl ?_
      exact w_ret (q172 107) rfl w
theorem w173_0 {d : Nat} {B : aH} {Q : aR → Prop} (hB : a_Can B) (hd : 1 ≤ d) (x1 x2 : Int) (s : Nat → Nat → Int32) (l : Nat → Nat → Int64) (w : (inR x2 ∧ ((x2 = 0 → a_W (d - 1) 172 0 [.ref 56, iv 1, iv x1, iv 0, iv (-1), iv 1, iv 1] [] (mkH B s l) (fun r => ∃ (v5 : Int) (s3 : Nat → Nat → Int32) (l4 : Nat → Nat → Int64), r = (.inl (some (iv v5)), mkH B s3 l4) ∧ Q (.inl (some (iv v5)), (mkH B s3 l4)))) ∧ (x2 ≠ 0 → a_W (d - 1) 172 0 [.ref 56, iv 1, iv x1, iv 1, iv (-1), iv 1, iv 1] [] (mkH B s l) (fun r => ∃ (v8 : Int) (s6 : Nat → Nat → Int32) (l7 : Nat → Nat → Int64), r = (.inl (some (iv v8)), mkH B s6 l7) ∧ Q (.inl (some (iv v8)), (mkH B s6 l7))))))) : a_W d 173 0 [.ref 56, iv x1, iv x2] [] (mkH B s l) Q := by
  refine w_aln (p := 1) (q173 0) rfl rfl ?_
  refine w_ic (p := 2) (q173 1) rfl ?_
  refine w_iln (p := 3) (q173 2) rfl rfl ?_
  refine w_iln (p := 4) (q173 3) rfl rfl ?_
  obtain ⟨h1, w⟩ := w
  by_cases c2 : x2 = 0
  · replace w := w.1 c2
    refine w_i1t (q173 4) h1 c2 ?_
    refine w_ic (p := 12) (q173 11) rfl ?_
    refine w_ic (p := 13) (q173 12) rfl ?_
    refine w_ic (p := 14) (q173 13) rfl ?_
    refine w_ic (p := 15) (q173 14) rfl ?_
    refine w_call (st := []) (as := [.ref 56, iv 1, iv x1, iv 0, iv (-1), iv 1, iv 1]) (as' := [iv 1, iv 1, iv (-1), iv 0, iv x1, iv 1, .ref 56]) (p := 18) (q173 15) rfl m172 (by decide) (a_ok_i rfl (r56 hB) rfl) rfl rfl (Nat.le_of_ble_eq_true rfl) (by omega) rfl rfl (a_W.imp w ?_)
    rintro _ ⟨v5, s3, l4, rfl, w⟩
    refine ⟨some (iv v5), _, rfl, ?_⟩
    show a_W _ 173 18 [.ref 56, iv x1, iv x2] [iv v5] (mkH B s3 l4) _
    exact w_ret (q173 18) rfl w
  · replace w := w.2 c2
    refine w_i1f (p := 7) (q173 4) rfl h1 c2 ?_
    refine w_ic (p := 8) (q173 7) rfl ?_
    refine w_goto (q173 8) ?_
    refine w_ic (p := 13) (q173 12) rfl ?_
    refine w_ic (p := 14) (q173 13) rfl ?_
    refine w_ic (p := 15) (q173 14) rfl ?_
    refine w_call (st := []) (as := [.ref 56, iv 1, iv x1, iv 1, iv (-1), iv 1, iv 1]) (as' := [iv 1, iv 1, iv (-1), iv 1, iv x1, iv 1, .ref 56]) (p := 18) (q173 15) rfl m172 (by decide) (a_ok_i rfl (r56 hB) rfl) rfl rfl (Nat.le_of_ble_eq_true rfl) (by omega) rfl rfl (a_W.imp w ?_)
    rintro _ ⟨v8, s6, l7, rfl, w⟩
    refine ⟨some (iv v8), _, rfl, ?_⟩
    show a_W _ 173 18 [.ref 56, iv x1, iv x2] [iv v8] (mkH B s6 l7) _
    exact w_ret (q173 18) rfl w
theorem w174_0 {d : Nat} {B : aH} {Q : aR → Prop} (hB : a_Can B) (hd : 1 ≤ d) (x1 x2 : Int) (s : Nat → Nat → Int32) (l : Nat → Nat → Int64) (w : ((0 ≤ x1 ∧ x1 < 30100) ∧ ((0 ≤ x2 ∧ x2 < 30100) ∧ a_W (d - 1) 172 0 [.ref 56, iv 3, iv x1, iv x2, iv (-1), iv ((1 + (zz s 86 x1.toNat)) + (zz s 86 x2.toNat)), iv (1 + (z175 (zz s 87 x1.toNat) (zz s 87 x2.toNat)))] [] (mkH B s l) (fun r => ∃ (v5 : Int) (s3 : Nat → Nat → Int32) (l4 : Nat → Nat → Int64), r = (.inl (some (iv v5)), mkH B s3 l4) ∧ Q (.inl (some (iv v5)), (mkH B s3 l4)))))) : a_W d 174 0 [.ref 56, iv x1, iv x2] [] (mkH B s l) Q := by
  refine w_aln (p := 1) (q174 0) rfl rfl ?_
  refine w_ic (p := 2) (q174 1) rfl ?_
  refine w_iln (p := 3) (q174 2) rfl rfl ?_
  refine w_iln (p := 4) (q174 3) rfl rfl ?_
  refine w_ic (p := 5) (q174 4) rfl ?_
  refine w_ic (p := 6) (q174 5) rfl ?_
  refine w_aln (p := 7) (q174 6) rfl rfl ?_
  refine w_gR (p := 10) (j := 46) (v := 86) (q174 7) rfl (r56 hB) (by decide) (f56_46 hB) ?_
  refine w_iln (p := 11) (q174 10) rfl rfl ?_
  obtain ⟨o1, w⟩ := w
  refine w_ia (p := 12) (v := (zz s 86 x1.toNat)) (q174 11) rfl (r86 hB) (by decide) o1 (iv_zz s 86 x1.toNat) ?_
  refine w_add (p := 13) (q174 12) rfl ?_
  refine w_aln (p := 14) (q174 13) rfl rfl ?_
  refine w_gR (p := 17) (j := 46) (v := 86) (q174 14) rfl (r56 hB) (by decide) (f56_46 hB) ?_
  refine w_iln (p := 18) (q174 17) rfl rfl ?_
  obtain ⟨o2, w⟩ := w
  refine w_ia (p := 19) (v := (zz s 86 x2.toNat)) (q174 18) rfl (r86 hB) (by decide) o2 (iv_zz s 86 x2.toNat) ?_
  refine w_add (p := 20) (q174 19) rfl ?_
  refine w_ic (p := 21) (q174 20) rfl ?_
  refine w_aln (p := 22) (q174 21) rfl rfl ?_
  refine w_gR (p := 25) (j := 47) (v := 87) (q174 22) rfl (r56 hB) (by decide) (f56_47 hB) ?_
  refine w_iln (p := 26) (q174 25) rfl rfl ?_
  refine w_ia (p := 27) (v := (zz s 87 x1.toNat)) (q174 26) rfl (r87 hB) (by decide) o1 (iv_zz s 87 x1.toNat) ?_
  refine w_aln (p := 28) (q174 27) rfl rfl ?_
  refine w_gR (p := 31) (j := 47) (v := 87) (q174 28) rfl (r56 hB) (by decide) (f56_47 hB) ?_
  refine w_iln (p := 32) (q174 31) rfl rfl ?_
  refine w_ia (p := 33) (v := (zz s 87 x2.toNat)) (q174 32) rfl (r87 hB) (by decide) o2 (iv_zz s 87 x2.toNat) ?_
  refine w_call (st := [iv 1, iv ((1 + (zz s 86 x1.toNat)) + (zz s 86 x2.toNat)), iv (-1), iv x2, iv x1, iv 3, .ref 56]) (as := [iv (zz s 87 x1.toNat), iv (zz s 87 x2.toNat)]) (as' := [iv (zz s 87 x2.toNat), iv (zz s 87 x1.toNat)]) (p := 36) (q174 33) rfl m175 (by decide) (a_ok_s rfl rfl) rfl rfl (Nat.le_of_ble_eq_true rfl) (by omega) rfl rfl (a_W.imp (p175 hB (zz s 87 x1.toNat) (zz s 87 x2.toNat) _ _ (inR_zz _ _ _) (inR_zz _ _ _)) ?_)
  rintro _ rfl
  refine ⟨_, _, rfl, ?_⟩
  show a_W _ 174 36 [.ref 56, iv x1, iv x2] [iv (z175 (zz s 87 x1.toNat) (zz s 87 x2.toNat)), iv 1, iv ((1 + (zz s 86 x1.toNat)) + (zz s 86 x2.toNat)), iv (-1), iv x2, iv x1, iv 3, .ref 56] _ _
  refine w_add (p := 37) (q174 36) rfl ?_
  refine w_call (st := []) (as := [.ref 56, iv 3, iv x1, iv x2, iv (-1), iv ((1 + (zz s 86 x1.toNat)) + (zz s 86 x2.toNat)), iv (1 + (z175 (zz s 87 x1.toNat) (zz s 87 x2.toNat)))]) (as' := [iv (1 + (z175 (zz s 87 x1.toNat) (zz s 87 x2.toNat))), iv ((1 + (zz s 86 x1.toNat)) + (zz s 86 x2.toNat)), iv (-1), iv x2, iv x1, iv 3, .ref 56]) (p := 40) (q174 37) rfl m172 (by decide) (a_ok_i rfl (r56 hB) rfl) rfl rfl (Nat.le_of_ble_eq_true rfl) (by omega) rfl rfl (a_W.imp w ?_)
  rintro _ ⟨v5, s3, l4, rfl, w⟩
  refine ⟨some (iv v5), _, rfl, ?_⟩
  show a_W _ 174 40 [.ref 56, iv x1, iv x2] [iv v5] (mkH B s3 l4) _
  exact w_ret (q174 40) rfl w
theorem w181_0 {d : Nat} {B : aH} {Q : aR → Prop} (hB : a_Can B) (x1 x2 x3 : Int) (s : Nat → Nat → Int32) (l : Nat → Nat → Int64) (w : a_W d 181 3 [.ref 56, iv x1, iv x2, iv x3, iv x2, .retAddr 0] [] (mkH B s l) Q) : a_W d 181 0 [.ref 56, iv x1, iv x2, iv x3, .retAddr 0, .retAddr 0] [] (mkH B s l) Q := by
  refine w_iln (p := 1) (q181 0) rfl rfl ?_
  refine w_is (p := 3) (ls' := [.ref 56, iv x1, iv x2, iv x3, iv x2, .retAddr 0]) (q181 1) rfl (Nat.le_of_ble_eq_true rfl) rfl ?_
  exact w
theorem w181_3 {d : Nat} {B : aH} {Q : aR → Prop} (hB : a_Can B) (hd : 1 ≤ d) (x1 x2 x3 x4 : Int) (u5 : Value) (s : Nat → Nat → Int32) (l : Nat → Nat → Int64) (w : (inR x1 ∧ (((zz s 56 48) ≤ x1 → a_W d 181 115 [.ref 56, iv x1, iv x2, iv x3, iv x4, u5] [] (mkH B s l) Q) ∧ (x1 < (zz s 56 48) → ((0 ≤ ((zz s 56 48) - 1) ∧ ((zz s 56 48) - 1) < 6002) ∧ (inR x3 ∧ (((z182 x3) < (z182 (zz s 88 ((zz s 56 48) - 1).toNat)) → a_W d 181 59 [.ref 56, iv x1, iv x2, iv x3, iv x4, u5] [] (mkH B s l) Q) ∧ ((z182 (zz s 88 ((zz s 56 48) - 1).toNat)) ≤ (z182 x3) → (((z182 (zz s 88 ((zz s 56 48) - 1).toNat)) ≠ (z182 x3) → a_W d 181 115 [.ref 56, iv x1, iv x2, iv x3, iv x4, u5] [] (mkH B s l) Q) ∧ ((z182 (zz s 88 ((zz s 56 48) - 1).toNat)) = (z182 x3) → ((x3 ≤ 26 → a_W d 181 115 [.ref 56, iv x1, iv x2, iv x3, iv x4, u5] [] (mkH B s l) Q) ∧ (26 < x3 → a_W d 181 59 [.ref 56, iv x1, iv x2, iv x3, iv x4, u5] [] (mkH B s l) Q)))))))))))) : a_W d 181 3 [.ref 56, iv x1, iv x2, iv x3, iv x4, u5] [] (mkH B s l) Q := by
  refine w_aln (p := 4) (q181 3) rfl rfl ?_
  refine w_gI (p := 7) (j := 48) (v := (zz s 56 48)) (q181 4) rfl (r56 hB) (by decide) (iv_zz s 56 48) ?_
  refine w_iln (p := 8) (q181 7) rfl rfl ?_
  obtain ⟨h1, w⟩ := w
  by_cases c2 : (zz s 56 48) ≤ x1
  · replace w := w.1 c2
    refine w_i2t (q181 8) (inR_zz _ _ _) h1 c2 ?_
    exact w
  · replace w := w.2 (Int.not_le.mp c2)
    refine w_i2f (p := 11) (q181 8) rfl (inR_zz _ _ _) h1 c2 ?_
    refine w_aln (p := 12) (q181 11) rfl rfl ?_
    refine w_gR (p := 15) (j := 49) (v := 88) (q181 12) rfl (r56 hB) (by decide) (f56_49 hB) ?_
    refine w_aln (p := 16) (q181 15) rfl rfl ?_
    refine w_gI (p := 19) (j := 48) (v := (zz s 56 48)) (q181 16) rfl (r56 hB) (by decide) (iv_zz s 56 48) ?_
    refine w_ic (p := 20) (q181 19) rfl ?_
    refine w_sub (p := 21) (q181 20) rfl ?_
    obtain ⟨o3, w⟩ := w
    refine w_ia (p := 22) (v := (zz s 88 ((zz s 56 48) - 1).toNat)) (q181 21) rfl (r88 hB) (by decide) o3 (iv_zz s 88 ((zz s 56 48) - 1).toNat) ?_
    refine w_call (st := []) (as := [iv (zz s 88 ((zz s 56 48) - 1).toNat)]) (as' := [iv (zz s 88 ((zz s 56 48) - 1).toNat)]) (p := 25) (q181 22) rfl m182 (by decide) (a_ok_s rfl rfl) rfl rfl (Nat.le_of_ble_eq_true rfl) (by omega) rfl rfl (a_W.imp (p182 hB (zz s 88 ((zz s 56 48) - 1).toNat) _ _ (inR_zz _ _ _)) ?_)
    rintro _ rfl
    refine ⟨_, _, rfl, ?_⟩
    show a_W _ 181 25 [.ref 56, iv x1, iv x2, iv x3, iv x4, u5] [iv (z182 (zz s 88 ((zz s 56 48) - 1).toNat))] _ _
    refine w_iln (p := 26) (q181 25) rfl rfl ?_
    obtain ⟨h4, w⟩ := w
    refine w_call (st := [iv (z182 (zz s 88 ((zz s 56 48) - 1).toNat))]) (as := [iv x3]) (as' := [iv x3]) (p := 29) (q181 26) rfl m182 (by decide) (a_ok_s rfl rfl) rfl rfl (Nat.le_of_ble_eq_true rfl) (by omega) rfl rfl (a_W.imp (p182 hB x3 _ _ h4) ?_)
    rintro _ rfl
    refine ⟨_, _, rfl, ?_⟩
    show a_W _ 181 29 [.ref 56, iv x1, iv x2, iv x3, iv x4, u5] [iv (z182 x3), iv (z182 (zz s 88 ((zz s 56 48) - 1).toNat))] _ _
    by_cases c5 : (z182 x3) < (z182 (zz s 88 ((zz s 56 48) - 1).toNat))
    · replace w := w.1 c5
      refine w_i2t (q181 29) (inR_z182 (inR_zz _ _ _)) (inR_z182 h4) c5 ?_
      exact w
    · replace w := w.2 (Int.not_lt.mp c5)
      refine w_i2f (p := 32) (q181 29) rfl (inR_z182 (inR_zz _ _ _)) (inR_z182 h4) c5 ?_
      refine w_aln (p := 33) (q181 32) rfl rfl ?_
      refine w_gR (p := 36) (j := 49) (v := 88) (q181 33) rfl (r56 hB) (by decide) (f56_49 hB) ?_
      refine w_aln (p := 37) (q181 36) rfl rfl ?_
      refine w_gI (p := 40) (j := 48) (v := (zz s 56 48)) (q181 37) rfl (r56 hB) (by decide) (iv_zz s 56 48) ?_
      refine w_ic (p := 41) (q181 40) rfl ?_
      refine w_sub (p := 42) (q181 41) rfl ?_
      refine w_ia (p := 43) (v := (zz s 88 ((zz s 56 48) - 1).toNat)) (q181 42) rfl (r88 hB) (by decide) o3 (iv_zz s 88 ((zz s 56 48) - 1).toNat) ?_
      refine w_call (st := []) (as := [iv (zz s 88 ((zz s 56 48) - 1).toNat)]) (as' := [iv (zz s 88 ((zz s 56 48) - 1).toNat)]) (p := 46) (q181 43) rfl m182 (by decide) (a_ok_s rfl rfl) rfl rfl (Nat.le_of_ble_eq_true rfl) (by omega) rfl rfl (a_W.imp (p182 hB (zz s 88 ((zz s 56 48) - 1).toNat) _ _ (inR_zz _ _ _)) ?_)
      rintro _ rfl
      refine ⟨_, _, rfl, ?_⟩
      show a_W _ 181 46 [.ref 56, iv x1, iv x2, iv x3, iv x4, u5] [iv (z182 (zz s 88 ((zz s 56 48) - 1).toNat))] _ _
      refine w_iln (p := 47) (q181 46) rfl rfl ?_
      refine w_call (st := [iv (z182 (zz s 88 ((zz s 56 48) - 1).toNat))]) (as := [iv x3]) (as' := [iv x3]) (p := 50) (q181 47) rfl m182 (by decide) (a_ok_s rfl rfl) rfl rfl (Nat.le_of_ble_eq_true rfl) (by omega) rfl rfl (a_W.imp (p182 hB x3 _ _ h4) ?_)
      rintro _ rfl
      refine ⟨_, _, rfl, ?_⟩
      show a_W _ 181 50 [.ref 56, iv x1, iv x2, iv x3, iv x4, u5] [iv (z182 x3), iv (z182 (zz s 88 ((zz s 56 48) - 1).toNat))] _ _
      by_cases c6 : (z182 (zz s 88 ((zz s 56 48) - 1).toNat)) ≠ (z182 x3)
      · replace w := w.1 c6
        refine w_i2t (q181 50) (inR_z182 (inR_zz _ _ _)) (inR_z182 h4) c6 ?_
        exact w
      · replace w := w.2 (Decidable.not_not.mp c6)
        refine w_i2f (p := 53) (q181 50) rfl (inR_z182 (inR_zz _ _ _)) (inR_z182 h4) c6 ?_
        refine w_iln (p := 54) (q181 53) rfl rfl ?_
        refine w_bp (p := 56) (q181 54) rfl (by decide) ?_
        by_cases c7 : x3 ≤ 26
        · replace w := w.1 c7
          refine w_i2t (q181 56) h4 (by decide) c7 ?_
          exact w
        · replace w := w.2 (Int.not_le.mp c7)
          refine w_i2f (p := 59) (q181 56) rfl h4 (by decide) c7 ?_
          exact w
theorem w181_59 {d : Nat} {B : aH} {Q : aR → Prop} (hB : a_Can B) (hd : 1 ≤ d) (x1 x2 x3 x4 : Int) (u5 : Value) (s : Nat → Nat → Int32) (l : Nat → Nat → Int64) (w : ((0 ≤ ((zz s 56 48) - 1) ∧ ((zz s 56 48) - 1) < 6002) ∧ a_W (d - 1) 172 0 [.ref 56, iv 1, iv (-1), iv (zz s 88 ((zz s 56 48) - 1).toNat), iv (-1), iv 1, iv 1] [] (mkH B (zu s 56 48 ((zz s 56 48) - 1)) l) (fun r => ∃ (v4 : Int) (s2 : Nat → Nat → Int32) (l3 : Nat → Nat → Int64), r = (.inl (some (iv v4)), mkH B s2 l3) ∧ ((0 ≤ (zz s2 56 48) ∧ (zz s2 56 48) < 6002) ∧ a_W (d - 1) 174 0 [.ref 56, iv v4, iv (zz s2 89 (zz s2 56 48).toNat)] [] (mkH B s2 l3) (fun r => ∃ (v8 : Int) (s6 : Nat → Nat → Int32) (l7 : Nat → Nat → Int64), r = (.inl (some (iv v8)), mkH B s6 l7) ∧ a_W (d - 1) 174 0 [.ref 56, iv v8, iv x4] [] (mkH B s6 l7) (fun r => ∃ (v11 : Int) (s9 : Nat → Nat → Int32) (l10 : Nat → Nat → Int64), r = (.inl (some (iv v11)), mkH B s9 l10) ∧ a_W d 181 3 [.ref 56, iv x1, iv x2, iv x3, iv v11, iv (zz s 88 ((zz s 56 48) - 1).toNat)] [] (mkH B s9 l10) Q)))))) : a_W d 181 59 [.ref 56, iv x1, iv x2, iv x3, iv x4, u5] [] (mkH B s l) Q := by
  refine w_aln (p := 60) (q181 59) rfl rfl ?_
  refine w_dupr (p := 61) (q181 60) rfl ?_
  refine w_gI (p := 64) (j := 48) (v := (zz s 56 48)) (q181 61) rfl (r56 hB) (by decide) (iv_zz s 56 48) ?_
  refine w_ic (p := 65) (q181 64) rfl ?_
  refine w_sub (p := 66) (q181 65) rfl ?_
  refine w_pI (p := 69) (j := 48) (q181 66) rfl (r56 hB) (by decide) rfl ?_
  refine w_aln (p := 70) (q181 69) rfl rfl ?_
  refine w_gR (p := 73) (j := 49) (v := 88) (q181 70) rfl (r56 hB) (by decide) (f56_49 hB) ?_
  refine w_aln (p := 74) (q181 73) rfl rfl ?_
  refine w_gI (p := 77) (j := 48) (v := ((zz s 56 48) - 1)) (q181 74) rfl (r56 hB) (by decide) rfl ?_
  obtain ⟨o1, w⟩ := w
  refine w_ia (p := 78) (v := (zz s 88 ((zz s 56 48) - 1).toNat)) (q181 77) rfl (r88 hB) (by decide) o1 (iv_zz s 88 ((zz s 56 48) - 1).toNat) ?_
  refine w_is (p := 80) (ls' := [.ref 56, iv x1, iv x2, iv x3, iv x4, iv (zz s 88 ((zz s 56 48) - 1).toNat)]) (q181 78) rfl (Nat.le_of_ble_eq_true rfl) rfl ?_
  refine w_aln (p := 81) (q181 80) rfl rfl ?_
  refine w_aln (p := 82) (q181 81) rfl rfl ?_
  refine w_aln (p := 83) (q181 82) rfl rfl ?_
  refine w_ic (p := 84) (q181 83) rfl ?_
  refine w_ic (p := 85) (q181 84) rfl ?_
  refine w_il (p := 87) (q181 85) rfl rfl ?_
  refine w_ic (p := 88) (q181 87) rfl ?_
  refine w_ic (p := 89) (q181 88) rfl ?_
  refine w_ic (p := 90) (q181 89) rfl ?_
  refine w_call (st := [.ref 56, .ref 56]) (as := [.ref 56, iv 1, iv (-1), iv (zz s 88 ((zz s 56 48) - 1).toNat), iv (-1), iv 1, iv 1]) (as' := [iv 1, iv 1, iv (-1), iv (zz s 88 ((zz s 56 48) - 1).toNat), iv (-1), iv 1, .ref 56]) (p := 93) (q181 90) rfl m172 (by decide) (a_ok_i rfl (r56 hB) rfl) rfl rfl (Nat.le_of_ble_eq_true rfl) (by omega) rfl rfl (a_W.imp w ?_)
  rintro _ ⟨v4, s2, l3, rfl, w⟩
  refine ⟨some (iv v4), _, rfl, ?_⟩
  show a_W _ 181 93 [.ref 56, iv x1, iv x2, iv x3, iv x4, iv (zz s 88 ((zz s 56 48) - 1).toNat)] [iv v4, .ref 56, .ref 56] (mkH B s2 l3) _
  refine w_aln (p := 94) (q181 93) rfl rfl ?_
  refine w_gR (p := 97) (j := 50) (v := 89) (q181 94) rfl (r56 hB) (by decide) (f56_50 hB) ?_
  refine w_aln (p := 98) (q181 97) rfl rfl ?_
  refine w_gI (p := 101) (j := 48) (v := (zz s2 56 48)) (q181 98) rfl (r56 hB) (by decide) (iv_zz s2 56 48) ?_
  obtain ⟨o5, w⟩ := w
  refine w_ia (p := 102) (v := (zz s2 89 (zz s2 56 48).toNat)) (q181 101) rfl (r89 hB) (by decide) o5 (iv_zz s2 89 (zz s2 56 48).toNat) ?_
  refine w_call (st := [.ref 56]) (as := [.ref 56, iv v4, iv (zz s2 89 (zz s2 56 48).toNat)]) (as' := [iv (zz s2 89 (zz s2 56 48).toNat), iv v4, .ref 56]) (p := 105) (q181 102) rfl m174 (by decide) (a_ok_i rfl (r56 hB) rfl) rfl rfl (Nat.le_of_ble_eq_true rfl) (by omega) rfl rfl (a_W.imp w ?_)
  rintro _ ⟨v8, s6, l7, rfl, w⟩
  refine ⟨some (iv v8), _, rfl, ?_⟩
  show a_W _ 181 105 [.ref 56, iv x1, iv x2, iv x3, iv x4, iv (zz s 88 ((zz s 56 48) - 1).toNat)] [iv v8, .ref 56] (mkH B s6 l7) _
  refine w_il (p := 107) (q181 105) rfl rfl ?_
  refine w_call (st := []) (as := [.ref 56, iv v8, iv x4]) (as' := [iv x4, iv v8, .ref 56]) (p := 110) (q181 107) rfl m174 (by decide) (a_ok_i rfl (r56 hB) rfl) rfl rfl (Nat.le_of_ble_eq_true rfl) (by omega) rfl rfl (a_W.imp w ?_)
  rintro _ ⟨v11, s9, l10, rfl, w⟩
  refine ⟨some (iv v11), _, rfl, ?_⟩
  show a_W _ 181 110 [.ref 56, iv x1, iv x2, iv x3, iv x4, iv (zz s 88 ((zz s 56 48) - 1).toNat)] [iv v11] (mkH B s9 l10) _
  refine w_is (p := 112) (ls' := [.ref 56, iv x1, iv x2, iv x3, iv v11, iv (zz s 88 ((zz s 56 48) - 1).toNat)]) (q181 110) rfl (Nat.le_of_ble_eq_true rfl) rfl ?_
  refine w_goto (q181 112) ?_
  exact w
theorem w181_115 {d : Nat} {B : aH} {Q : aR → Prop} (hB : a_Can B) (x1 x2 x3 x4 : Int) (u5 : Value) (s : Nat → Nat → Int32) (l : Nat → Nat → Int64) (w : Q (.inl (some (iv x4)), (mkH B s l))) : a_W d 181 115 [.ref 56, iv x1, iv x2, iv x3, iv x4, u5] [] (mkH B s l) Q := by
  refine w_il (p := 117) (q181 115) rfl rfl ?_
  exact w_ret (q181 117) rfl w
theorem w146_0 {d : Nat} {B : aH} {Q : aR → Prop} (hB : a_Can B) (hd : 1 ≤ d) (s : Nat → Nat → Int32) (l : Nat → Nat → Int64) (w : a_W (d - 1) 147 0 [.ref 56, .retAddr 0, .retAddr 0, .retAddr 0, .retAddr 0] [] (mkH B s l) (fun r => ∃ (v3 : Int) (s1 : Nat → Nat → Int32) (l2 : Nat → Nat → Int64), r = (.inl (some (iv v3)), mkH B s1 l2) ∧ a_W d 146 12 [.ref 56, iv (zz s 56 48), iv v3, iv 1, .retAddr 0] [] (mkH B s1 l2) Q)) : a_W d 146 0 [.ref 56, .retAddr 0, .retAddr 0, .retAddr 0, .retAddr 0] [] (mkH B s l) Q := by
  refine w_aln (p := 1) (q146 0) rfl rfl ?_
  refine w_gI (p := 4) (j := 48) (v := (zz s 56 48)) (q146 1) rfl (r56 hB) (by decide) (iv_zz s 56 48) ?_
  refine w_isn (p := 5) (ls' := [.ref 56, iv (zz s 56 48), .retAddr 0, .retAddr 0, .retAddr 0]) (q146 4) rfl (Nat.le_of_ble_eq_true rfl) rfl ?_
  refine w_aln (p := 6) (q146 5) rfl rfl ?_
  refine w_call (st := []) (as := [.ref 56]) (as' := [.ref 56]) (p := 9) (q146 6) rfl m147 (by decide) (a_ok_i rfl (r56 hB) rfl) rfl rfl (Nat.le_of_ble_eq_true rfl) (by omega) rfl rfl (a_W.imp w ?_)
  rintro _ ⟨v3, s1, l2, rfl, w⟩
  refine ⟨some (iv v3), _, rfl, ?_⟩
  show a_W _ 146 9 [.ref 56, iv (zz s 56 48), .retAddr 0, .retAddr 0, .retAddr 0] [iv v3] (mkH B s1 l2) _
  refine w_isn (p := 10) (ls' := [.ref 56, iv (zz s 56 48), iv v3, .retAddr 0, .retAddr 0]) (q146 9) rfl (Nat.le_of_ble_eq_true rfl) rfl ?_
  refine w_ic (p := 11) (q146 10) rfl ?_
  refine w_isn (p := 12) (ls' := [.ref 56, iv (zz s 56 48), iv v3, iv 1, .retAddr 0]) (q146 11) rfl (Nat.le_of_ble_eq_true rfl) rfl ?_
  exact w
theorem w146_12 {d : Nat} {B : aH} {Q : aR → Prop} (hB : a_Can B) (hd : 1 ≤ d) (x1 x2 x3 : Int) (u4 : Value) (s : Nat → Nat → Int32) (l : Nat → Nat → Int64) (w : (inR x3 ∧ ((x3 = 0 → a_W d 146 176 [.ref 56, iv x1, iv x2, iv x3, u4] [] (mkH B s l) Q) ∧ (x3 ≠ 0 → (((zz s 56 22) ≠ 0 → a_W d 146 176 [.ref 56, iv x1, iv x2, iv x3, u4] [] (mkH B s l) Q) ∧ ((zz s 56 22) = 0 → a_W (d - 1) 148 0 [.ref 56, iv 0, .retAddr 0] [] (mkH B s l) (fun r => ∃ (v6 : Int) (s4 : Nat → Nat → Int32) (l5 : Nat → Nat → Int64), r = (.inl (some (iv v6)), mkH B s4 l5) ∧ (inR v6 ∧ (((z180 v6) = 0 → a_W d 146 49 [.ref 56, iv x1, iv x2, iv x3, iv v6] [] (mkH B s4 l5) Q) ∧ ((z180 v6) ≠ 0 → (((zz s4 56 22) ≠ 0 → a_W d 146 49 [.ref 56, iv x1, iv x2, iv x3, iv v6] [] (mkH B s4 l5) Q) ∧ ((zz s4 56 22) = 0 → a_W (d - 1) 181 0 [.ref 56, iv x1, iv x2, iv v6, .retAddr 0, .retAddr 0] [] (mkH B s4 l5) (fun r => ∃ (v12 : Int) (s10 : Nat → Nat → Int32) (l11 : Nat → Nat → Int64), r = (.inl (some (iv v12)), mkH B s10 l11) ∧ (inR x1 ∧ (((zz s10 56 48) ≤ x1 → a_W d 146 118 [.ref 56, iv x1, iv v12, iv 1, iv v6] [] (mkH B s10 l11) Q) ∧ (x1 < (zz s10 56 48) → (((z182 v6) ≠ 24 → a_W d 146 118 [.ref 56, iv x1, iv v12, iv 1, iv v6] [] (mkH B s10 l11) Q) ∧ ((z182 v6) = 24 → ((0 ≤ ((zz s10 56 48) - 1) ∧ ((zz s10 56 48) - 1) < 6002) ∧ (((z182 (zz s10 88 ((zz s10 56 48) - 1).toNat)) ≠ 24 → a_W d 146 118 [.ref 56, iv x1, iv v12, iv 1, iv v6] [] (mkH B s10 l11) Q) ∧ ((z182 (zz s10 88 ((zz s10 56 48) - 1).toNat)) = 24 → ((0 ≤ (zz s10 56 31) ∧ (zz s10 56 31) < 6002) ∧ (((zz s10 56 22) ≤ 0 → a_W d 146 118 [.ref 56, iv x1, iv v12, iv 1, iv v6] [] (mkH B (zu (zu s10 56 22 2) 56 23 (zz s10 72 (zz s10 56 31).toNat)) l11) Q) ∧ (0 < (zz s10 56 22) → a_W d 146 118 [.ref 56, iv x1, iv v12, iv 1, iv v6] [] (mkH B s10 l11) Q)))))))))))))))))))))))) : a_W d 146 12 [.ref 56, iv x1, iv x2, iv x3, u4] [] (mkH B s l) Q := by
  refine w_iln (p := 13) (q146 12) rfl rfl ?_
  obtain ⟨h1, w⟩ := w
  by_cases c2 : x3 = 0
  · replace w := w.1 c2
    refine w_i1t (q146 13) h1 c2 ?_
    exact w
  · replace w := w.2 c2
    refine w_i1f (p := 16) (q146 13) rfl h1 c2 ?_
    refine w_aln (p := 17) (q146 16) rfl rfl ?_
    refine w_gI (p := 20) (j := 22) (v := (zz s 56 22)) (q146 17) rfl (r56 hB) (by decide) (iv_zz s 56 22) ?_
    by_cases c3 : (zz s 56 22) ≠ 0
    · replace w := w.1 c3
      refine w_i1t (q146 20) (inR_zz _ _ _) c3 ?_
      exact w
    · replace w := w.2 (Decidable.not_not.mp c3)
      refine w_i1f (p := 23) (q146 20) rfl (inR_zz _ _ _) c3 ?_
      refine w_aln (p := 24) (q146 23) rfl rfl ?_
      refine w_ic (p := 25) (q146 24) rfl ?_
      refine w_call (st := []) (as := [.ref 56, iv 0]) (as' := [iv 0, .ref 56]) (p := 28) (q146 25) rfl m148 (by decide) (a_ok_i rfl (r56 hB) rfl) rfl rfl (Nat.le_of_ble_eq_true rfl) (by omega) rfl rfl (a_W.imp w ?_)
      rintro _ ⟨v6, s4, l5, rfl, w⟩
      refine ⟨some (iv v6), _, rfl, ?_⟩
      show a_W _ 146 28 [.ref 56, iv x1, iv x2, iv x3, u4] [iv v6] (mkH B s4 l5) _
      refine w_is (p := 30) (ls' := [.ref 56, iv x1, iv x2, iv x3, iv v6]) (q146 28) rfl (Nat.le_of_ble_eq_true rfl) rfl ?_
      refine w_il (p := 32) (q146 30) rfl rfl ?_
      obtain ⟨h7, w⟩ := w
      refine w_call (st := []) (as := [iv v6]) (as' := [iv v6]) (p := 35) (q146 32) rfl m180 (by decide) (a_ok_s rfl rfl) rfl rfl (Nat.le_of_ble_eq_true rfl) (by omega) rfl rfl (a_W.imp (p180 hB v6 _ _ h7) ?_)
      rintro _ rfl
      refine ⟨_, _, rfl, ?_⟩
      show a_W _ 146 35 [.ref 56, iv x1, iv x2, iv x3, iv v6] [iv (z180 v6)] _ _
      by_cases c8 : (z180 v6) = 0
      · replace w := w.1 c8
        refine w_i1t (q146 35) (inR_z180 _) c8 ?_
        exact w
      · replace w := w.2 c8
        refine w_i1f (p := 38) (q146 35) rfl (inR_z180 _) c8 ?_
        refine w_aln (p := 39) (q146 38) rfl rfl ?_
        refine w_gI (p := 42) (j := 22) (v := (zz s4 56 22)) (q146 39) rfl (r56 hB) (by decide) (iv_zz s4 56 22) ?_
        by_cases c9 : (zz s4 56 22) ≠ 0
        · replace w := w.1 c9
          refine w_i1t (q146 42) (inR_zz _ _ _) c9 ?_
          exact w
        · replace w := w.2 (Decidable.not_not.mp c9)
          refine w_i1f (p := 45) (q146 42) rfl (inR_zz _ _ _) c9 ?_
          refine w_ic (p := 46) (q146 45) rfl ?_
          refine w_goto (q146 46) ?_
          refine w_isn (p := 51) (ls' := [.ref 56, iv x1, iv x2, iv 1, iv v6]) (q146 50) rfl (Nat.le_of_ble_eq_true rfl) rfl ?_
          refine w_iln (p := 52) (q146 51) rfl rfl ?_
          refine w_i1t (q146 52) (by decide) (show zc _ _ _ by unfold zc; omega) ?_
          refine w_aln (p := 59) (q146 58) rfl rfl ?_
          refine w_iln (p := 60) (q146 59) rfl rfl ?_
          refine w_iln (p := 61) (q146 60) rfl rfl ?_
          refine w_il (p := 63) (q146 61) rfl rfl ?_
          refine w_call (st := []) (as := [.ref 56, iv x1, iv x2, iv v6]) (as' := [iv v6, iv x2, iv x1, .ref 56]) (p := 66) (q146 63) rfl m181 (by decide) (a_ok_i rfl (r56 hB) rfl) rfl rfl (Nat.le_of_ble_eq_true rfl) (by omega) rfl rfl (a_W.imp w ?_)
          rintro _ ⟨v12, s10, l11, rfl, w⟩
          refine ⟨some (iv v12), _, rfl, ?_⟩
          show a_W _ 146 66 [.ref 56, iv x1, iv x2, iv 1, iv v6] [iv v12] (mkH B s10 l11) _
          refine w_isn (p := 67) (ls' := [.ref 56, iv x1, iv v12, iv 1, iv v6]) (q146 66) rfl (Nat.le_of_ble_eq_true rfl) rfl ?_
          refine w_aln (p := 68) (q146 67) rfl rfl ?_
          refine w_gI (p := 71) (j := 48) (v := (zz s10 56 48)) (q146 68) rfl (r56 hB) (by decide) (iv_zz s10 56 48) ?_
          refine w_iln (p := 72) (q146 71) rfl rfl ?_
          obtain ⟨h13, w⟩ := w
          by_cases c14 : (zz s10 56 48) ≤ x1
          · replace w := w.1 c14
            refine w_i2t (q146 72) (inR_zz _ _ _) h13 c14 ?_
            exact w
          · replace w := w.2 (Int.not_le.mp c14)
            refine w_i2f (p := 75) (q146 72) rfl (inR_zz _ _ _) h13 c14 ?_
            refine w_il (p := 77) (q146 75) rfl rfl ?_
            refine w_call (st := []) (as := [iv v6]) (as' := [iv v6]) (p := 80) (q146 77) rfl m182 (by decide) (a_ok_s rfl rfl) rfl rfl (Nat.le_of_ble_eq_true rfl) (by omega) rfl rfl (a_W.imp (p182 hB v6 _ _ h7) ?_)
            rintro _ rfl
            refine ⟨_, _, rfl, ?_⟩
            show a_W _ 146 80 [.ref 56, iv x1, iv v12, iv 1, iv v6] [iv (z182 v6)] _ _
            refine w_bp (p := 82) (q146 80) rfl (by decide) ?_
            by_cases c15 : (z182 v6) ≠ 24
            · replace w := w.1 c15
              refine w_i2t (q146 82) (inR_z182 h7) (by decide) c15 ?_
              exact w
            · replace w := w.2 (Decidable.not_not.mp c15)
              refine w_i2f (p := 85) (q146 82) rfl (inR_z182 h7) (by decide) c15 ?_
              refine w_aln (p := 86) (q146 85) rfl rfl ?_
              refine w_gR (p := 89) (j := 49) (v := 88) (q146 86) rfl (r56 hB) (by decide) (f56_49 hB) ?_
              refine w_aln (p := 90) (q146 89) rfl rfl ?_
              refine w_gI (p := 93) (j := 48) (v := (zz s10 56 48)) (q146 90) rfl (r56 hB) (by decide) (iv_zz s10 56 48) ?_
              refine w_ic (p := 94) (q146 93) rfl ?_
              refine w_sub (p := 95) (q146 94) rfl ?_
              obtain ⟨o16, w⟩ := w
              refine w_ia (p := 96) (v := (zz s10 88 ((zz s10 56 48) - 1).toNat)) (q146 95) rfl (r88 hB) (by decide) o16 (iv_zz s10 88 ((zz s10 56 48) - 1).toNat) ?_
              refine w_call (st := []) (as := [iv (zz s10 88 ((zz s10 56 48) - 1).toNat)]) (as' := [iv (zz s10 88 ((zz s10 56 48) - 1).toNat)]) (p := 99) (q146 96) rfl m182 (by decide) (a_ok_s rfl rfl) rfl rfl (Nat.le_of_ble_eq_true rfl) (by omega) rfl rfl (a_W.imp (p182 hB (zz s10 88 ((zz s10 56 48) - 1).toNat) _ _ (inR_zz _ _ _)) ?_)
              rintro _ rfl
              refine ⟨_, _, rfl, ?_⟩
              show a_W _ 146 99 [.ref 56, iv x1, iv v12, iv 1, iv v6] [iv (z182 (zz s10 88 ((zz s10 56 48) - 1).toNat))] _ _
              refine w_bp (p := 101) (q146 99) rfl (by decide) ?_
              by_cases c17 : (z182 (zz s10 88 ((zz s10 56 48) - 1).toNat)) ≠ 24
              · replace w := w.1 c17
                refine w_i2t (q146 101) (inR_z182 (inR_zz _ _ _)) (by decide) c17 ?_
                exact w
              · replace w := w.2 (Decidable.not_not.mp c17)
                refine w_i2f (p := 104) (q146 101) rfl (inR_z182 (inR_zz _ _ _)) (by decide) c17 ?_
                refine w_aln (p := 105) (q146 104) rfl rfl ?_
                refine w_ic (p := 106) (q146 105) rfl ?_
                refine w_aln (p := 107) (q146 106) rfl rfl ?_
                refine w_gR (p := 110) (j := 28) (v := 72) (q146 107) rfl (r56 hB) (by decide) (f56_28 hB) ?_
                refine w_aln (p := 111) (q146 110) rfl rfl ?_
                refine w_gI (p := 114) (j := 31) (v := (zz s10 56 31)) (q146 111) rfl (r56 hB) (by decide) (iv_zz s10 56 31) ?_
                obtain ⟨o18, w⟩ := w
                refine w_ia (p := 115) (v := (zz s10 72 (zz s10 56 31).toNat)) (q146 114) rfl (r72 hB) (by decide) o18 (iv_zz s10 72 (zz s10 56 31).toNat) ?_
                refine w_call (st := []) (as := [.ref 56, iv 2, iv (zz s10 72 (zz s10 56 31).toNat)]) (as' := [iv (zz s10 72 (zz s10 56 31).toNat), iv 2, .ref 56]) (p := 118) (q146 115) rfl m152 (by decide) (a_ok_i rfl (r56 hB) rfl) rfl rfl (Nat.le_of_ble_eq_true rfl) (by omega) rfl rfl ?_
                refine w_aln (p := 1) (q152 0) rfl rfl ?_
                refine w_gI (p := 4) (j := 22) (v := (zz s10 56 22)) (q152 1) rfl (r56 hB) (by decide) (iv_zz s10 56 22) ?_
                by_cases c19 : (zz s10 56 22) ≤ 0
                · replace w := w.1 c19
                  refine w_i1t (q152 4) (inR_zz _ _ _) c19 ?_
                  refine w_aln (p := 9) (q152 8) rfl rfl ?_
                  refine w_iln (p := 10) (q152 9) rfl rfl ?_
                  refine w_pI (p := 13) (j := 22) (q152 10) rfl (r56 hB) (by decide) rfl ?_
                  refine w_aln (p := 14) (q152 13) rfl rfl ?_
                  refine w_iln (p := 15) (q152 14) rfl rfl ?_
                  refine w_pI (p := 18) (j := 23) (q152 15) rfl (r56 hB) (by decide) rfl ?_
                  refine w_rv (q152 18) rfl ⟨_, _, rfl, ?_⟩
                  show a_W _ 146 118 [.ref 56, iv x1, iv v12, iv 1, iv v6] [] _ _
                  exact w
                · replace w := w.2 (Int.not_le.mp c19)
                  refine w_i1f (p := 7) (q152 4) rfl (inR_zz _ _ _) c19 ?_
                  refine w_rv (q152 7) rfl ⟨_, _, rfl, ?_⟩
                  show a_W _ 146 118 [.ref 56, iv x1, iv v12, iv 1, iv v6] [] _ _
                  exact w
theorem w146_49 {d : Nat} {B : aH} {Q : aR → Prop} (hB : a_Can B) (x1 x2 x3 x4 : Int) (s : Nat → Nat → Int32) (l : Nat → Nat → Int64) (w : a_W d 146 12 [.ref 56, iv x1, iv x2, iv 0, iv x4] [] (mkH B s l) Q) : a_W d 146 49 [.ref 56, iv x1, iv x2, iv x3, iv x4] [] (mkH B s l) Q := by
  refine w_ic (p := 50) (q146 49) rfl ?_
  refine w_isn (p := 51) (ls' := [.ref 56, iv x1, iv x2, iv 0, iv x4]) (q146 50) rfl (Nat.le_of_ble_eq_true rfl) rfl ?_
  refine w_iln (p := 52) (q146 51) rfl rfl ?_
  refine w_i1f (p := 55) (q146 52) rfl (by decide) (show ¬ zc _ _ _ by unfold zc; omega) ?_
  refine w_goto (q146 55) ?_
  exact w
theorem w146_118 {d : Nat} {B : aH} {Q : aR → Prop} (hB : a_Can B) (hd : 1 ≤ d) (x1 x2 x3 x4 : Int) (s : Nat → Nat → Int32) (l : Nat → Nat → Int64) (w : (((zz s 56 22) ≤ 0 → ((0 ≤ (zz s 56 48) ∧ (zz s 56 48) < 6002) ∧ a_W (d - 1) 147 0 [.ref 56, .retAddr 0, .retAddr 0, .retAddr 0, .retAddr 0] [] (mkH B (zu (zu (zu (zu s 88 (zz s 56 48).toNat x4) 89 (zz s 56 48).toNat x2) 56 48 ((zz s 56 48) + 1)) 56 31 ((zz s 56 31) + 1)) l) (fun r => ∃ (v5 : Int) (s3 : Nat → Nat → Int32) (l4 : Nat → Nat → Int64), r = (.inl (some (iv v5)), mkH B s3 l4) ∧ a_W d 146 12 [.ref 56, iv x1, iv v5, iv x3, iv x4] [] (mkH B s3 l4) Q))) ∧ (0 < (zz s 56 22) → Q (.inl (some (iv 0)), (mkH B s l))))) : a_W d 146 118 [.ref 56, iv x1, iv x2, iv x3, iv x4] [] (mkH B s l) Q := by
  refine w_aln (p := 119) (q146 118) rfl rfl ?_
  refine w_gI (p := 122) (j := 22) (v := (zz s 56 22)) (q146 119) rfl (r56 hB) (by decide) (iv_zz s 56 22) ?_
  by_cases c1 : (zz s 56 22) ≤ 0
  · replace w := w.1 c1
    refine w_i1t (q146 122) (inR_zz _ _ _) c1 ?_
    refine w_aln (p := 128) (q146 127) rfl rfl ?_
    refine w_gR (p := 131) (j := 49) (v := 88) (q146 128) rfl (r56 hB) (by decide) (f56_49 hB) ?_
    refine w_aln (p := 132) (q146 131) rfl rfl ?_
    refine w_gI (p := 135) (j := 48) (v := (zz s 56 48)) (q146 132) rfl (r56 hB) (by decide) (iv_zz s 56 48) ?_
    refine w_il (p := 137) (q146 135) rfl rfl ?_
    obtain ⟨o2, w⟩ := w
    refine w_ias (p := 138) (q146 137) rfl (r88 hB) (by decide) o2 ?_
    refine w_aln (p := 139) (q146 138) rfl rfl ?_
    refine w_gR (p := 142) (j := 50) (v := 89) (q146 139) rfl (r56 hB) (by decide) (f56_50 hB) ?_
    refine w_aln (p := 143) (q146 142) rfl rfl ?_
    refine w_gI (p := 146) (j := 48) (v := (zz s 56 48)) (q146 143) rfl (r56 hB) (by decide) (iv_zz s 56 48) ?_
    refine w_iln (p := 147) (q146 146) rfl rfl ?_
    refine w_ias (p := 148) (q146 147) rfl (r89 hB) (by decide) o2 ?_
    refine w_aln (p := 149) (q146 148) rfl rfl ?_
    refine w_dupr (p := 150) (q146 149) rfl ?_
    refine w_gI (p := 153) (j := 48) (v := (zz s 56 48)) (q146 150) rfl (r56 hB) (by decide) (iv_zz s 56 48) ?_
    refine w_ic (p := 154) (q146 153) rfl ?_
    refine w_add (p := 155) (q146 154) rfl ?_
    refine w_pI (p := 158) (j := 48) (q146 155) rfl (r56 hB) (by decide) rfl ?_
    refine w_aln (p := 159) (q146 158) rfl rfl ?_
    refine w_dupr (p := 160) (q146 159) rfl ?_
    refine w_gI (p := 163) (j := 31) (v := (zz s 56 31)) (q146 160) rfl (r56 hB) (by decide) (iv_zz s 56 31) ?_
    refine w_ic (p := 164) (q146 163) rfl ?_
    refine w_add (p := 165) (q146 164) rfl ?_
    refine w_pI (p := 168) (j := 31) (q146 165) rfl (r56 hB) (by decide) rfl ?_
    refine w_aln (p := 169) (q146 168) rfl rfl ?_
    refine w_call (st := []) (as := [.ref 56]) (as' := [.ref 56]) (p := 172) (q146 169) rfl m147 (by decide) (a_ok_i rfl (r56 hB) rfl) rfl rfl (Nat.le_of_ble_eq_true rfl) (by omega) rfl rfl (a_W.imp w ?_)
    rintro _ ⟨v5, s3, l4, rfl, w⟩
    refine ⟨some (iv v5), _, rfl, ?_⟩
    show a_W _ 146 172 [.ref 56, iv x1, iv x2, iv x3, iv x4] [iv v5] (mkH B s3 l4) _
    refine w_isn (p := 173) (ls' := [.ref 56, iv x1, iv v5, iv x3, iv x4]) (q146 172) rfl (Nat.le_of_ble_eq_true rfl) rfl ?_
    refine w_goto (q146 173) ?_
    exact w
  · replace w := w.2 (Int.not_le.mp c1)
    refine w_i1f (p := 125) (q146 122) rfl (inR_zz _ _ _) c1 ?_
    refine w_ic (p := 126) (q146 125) rfl ?_
    exact w_ret (q146 126) rfl w
theorem w146_176 {d : Nat} {B : aH} {Q : aR → Prop} (hB : a_Can B) (hd : 1 ≤ d) (x1 x2 x3 : Int) (u4 : Value) (s : Nat → Nat → Int32) (l : Nat → Nat → Int64) (w : (((zz s 56 22) ≤ 0 → a_W (d - 1) 181 0 [.ref 56, iv x1, iv x2, iv 0, .retAddr 0, .retAddr 0] [] (mkH B s l) (fun r => ∃ (v4 : Int) (s2 : Nat → Nat → Int32) (l3 : Nat → Nat → Int64), r = (.inl (some (iv v4)), mkH B s2 l3) ∧ Q (.inl (some (iv v4)), (mkH B s2 l3)))) ∧ (0 < (zz s 56 22) → Q (.inl (some (iv 0)), (mkH B s l))))) : a_W d 146 176 [.ref 56, iv x1, iv x2, iv x3, u4] [] (mkH B s l) Q := by
  refine w_aln (p := 177) (q146 176) rfl rfl ?_
  refine w_gI (p := 180) (j := 22) (v := (zz s 56 22)) (q146 177) rfl (r56 hB) (by decide) (iv_zz s 56 22) ?_
  by_cases c1 : (zz s 56 22) ≤ 0
  · replace w := w.1 c1
    refine w_i1t (q146 180) (inR_zz _ _ _) c1 ?_
    refine w_aln (p := 188) (q146 187) rfl rfl ?_
    refine w_iln (p := 189) (q146 188) rfl rfl ?_
    refine w_iln (p := 190) (q146 189) rfl rfl ?_
    refine w_ic (p := 191) (q146 190) rfl ?_
    refine w_call (st := []) (as := [.ref 56, iv x1, iv x2, iv 0]) (as' := [iv 0, iv x2, iv x1, .ref 56]) (p := 194) (q146 191) rfl m181 (by decide) (a_ok_i rfl (r56 hB) rfl) rfl rfl (Nat.le_of_ble_eq_true rfl) (by omega) rfl rfl (a_W.imp w ?_)
    rintro _ ⟨v4, s2, l3, rfl, w⟩
    refine ⟨some (iv v4), _, rfl, ?_⟩
    show a_W _ 146 194 [.ref 56, iv x1, iv x2, iv x3, u4] [iv v4] (mkH B s2 l3) _
    exact w_ret (q146 194) rfl w
  · replace w := w.2 (Int.not_le.mp c1)
    refine w_i1f (p := 183) (q146 180) rfl (inR_zz _ _ _) c1 ?_
    refine w_ic (p := 184) (q146 183) rfl ?_
    refine w_goto (q146 184) ?_
    exact w_ret (q146 194) rfl w
theorem w147_0 {d : Nat} {B : aH} {Q : aR → Prop} (hB : a_Can B) (s : Nat → Nat → Int32) (l : Nat → Nat → Int64) (w : a_W d 147 2 [.ref 56, iv 0, .retAddr 0, .retAddr 0, .retAddr 0] [] (mkH B s l) Q) : a_W d 147 0 [.ref 56, .retAddr 0, .retAddr 0, .retAddr 0, .retAddr 0] [] (mkH B s l) Q := by
  refine w_ic (p := 1) (q147 0) rfl ?_
  refine w_isn (p := 2) (ls' := [.ref 56, iv 0, .retAddr 0, .retAddr 0, .retAddr 0]) (q147 1) rfl (Nat.le_of_ble_eq_true rfl) rfl ?_
  exact w
theorem w147_2 {d : Nat} {B : aH} {Q : aR → Prop} (hB : a_Can B) (hd : 1 ≤ d) (x1 : Int) (s : Nat → Nat → Int32) (l : Nat → Nat → Int64) (w : a_W (d - 1) 148 0 [.ref 56, iv 0, .retAddr 0] [] (mkH B s l) (fun r => ∃ (v3 : Int) (s1 : Nat → Nat → Int32) (l2 : Nat → Nat → Int64), r = (.inl (some (iv v3)), mkH B s1 l2) ∧ (inR v3 ∧ ((v3 ≠ 12 → a_W d 147 35 [.ref 56, iv x1, .retAddr 0, .retAddr 0, .retAddr 0] [] (mkH B s1 l2) Q) ∧ (v3 = 12 → (((zz s1 56 22) ≠ 0 → a_W d 147 35 [.ref 56, iv x1, .retAddr 0, .retAddr 0, .retAddr 0] [] (mkH B s1 l2) Q) ∧ ((zz s1 56 22) = 0 → a_W d 147 2 [.ref 56, iv (x1 + 1), .retAddr 0, .retAddr 0, .retAddr 0] [] (mkH B (zu s1 56 31 ((zz s1 56 31) + 1)) l2) Q))))))) : a_W d 147 2 [.ref 56, iv x1, .retAddr 0, .retAddr 0, .retAddr 0] [] (mkH B s l) Q := by
  refine w_aln (p := 3) (q147 2) rfl rfl ?_
  refine w_ic (p := 4) (q147 3) rfl ?_
  refine w_call (st := []) (as := [.ref 56, iv 0]) (as' := [iv 0, .ref 56]) (p := 7) (q147 4) rfl m148 (by decide) (a_ok_i rfl (r56 hB) rfl) rfl rfl (Nat.le_of_ble_eq_true rfl) (by omega) rfl rfl (a_W.imp w ?_)
  rintro _ ⟨v3, s1, l2, rfl, w⟩
  refine ⟨some (iv v3), _, rfl, ?_⟩
  show a_W _ 147 7 [.ref 56, iv x1, .retAddr 0, .retAddr 0, .retAddr 0] [iv v3] (mkH B s1 l2) _
  refine w_bp (p := 9) (q147 7) rfl (by decide) ?_
  obtain ⟨h4, w⟩ := w
  by_cases c5 : v3 ≠ 12
  · replace w := w.1 c5
    refine w_i2t (q147 9) h4 (by decide) c5 ?_
    exact w
  · replace w := w.2 (Decidable.not_not.mp c5)
    refine w_i2f (p := 12) (q147 9) rfl h4 (by decide) c5 ?_
    refine w_aln (p := 13) (q147 12) rfl rfl ?_
    refine w_gI (p := 16) (j := 22) (v := (zz s1 56 22)) (q147 13) rfl (r56 hB) (by decide) (iv_zz s1 56 22) ?_
    by_cases c6 : (zz s1 56 22) ≠ 0
    · replace w := w.1 c6
      refine w_i1t (q147 16) (inR_zz _ _ _) c6 ?_
      exact w
    · replace w := w.2 (Decidable.not_not.mp c6)
      refine w_i1f (p := 19) (q147 16) rfl (inR_zz _ _ _) c6 ?_
      refine w_inc (p := 22) (ls' := [.ref 56, iv (x1 + 1), .retAddr 0, .retAddr 0, .retAddr 0]) (q147 19) rfl rfl rfl ?_
      refine w_aln (p := 23) (q147 22) rfl rfl ?_
      refine w_dupr (p := 24) (q147 23) rfl ?_
      refine w_gI (p := 27) (j := 31) (v := (zz s1 56 31)) (q147 24) rfl (r56 hB) (by decide) (iv_zz s1 56 31) ?_
      refine w_ic (p := 28) (q147 27) rfl ?_
      refine w_add (p := 29) (q147 28) rfl ?_
      refine w_pI (p := 32) (j := 31) (q147 29) rfl (r56 hB) (by decide) rfl ?_
      refine w_goto (q147 32) ?_
      exact w
theorem w147_35 {d : Nat} {B : aH} {Q : aR → Prop} (hB : a_Can B) (hd : 1 ≤ d) (x1 : Int) (s : Nat → Nat → Int32) (l : Nat → Nat → Int64) (w : a_W (d - 1) 148 0 [.ref 56, iv 0, .retAddr 0] [] (mkH B s l) (fun r => ∃ (v3 : Int) (s1 : Nat → Nat → Int32) (l2 : Nat → Nat → Int64), r = (.inl (some (iv v3)), mkH B s1 l2) ∧ (((zz s1 56 22) ≤ 0 → (inR v3 ∧ ((v3 < 8 → a_W d 147 70 [.ref 56, iv x1, iv v3, .retAddr 0, .retAddr 0] [] (mkH B s1 l2) Q) ∧ (8 ≤ v3 → ((11 < v3 → a_W d 147 70 [.ref 56, iv x1, iv v3, .retAddr 0, .retAddr 0] [] (mkH B s1 l2) Q) ∧ (v3 ≤ 11 → a_W (d - 1) 163 0 [.ref 56, iv v3, .retAddr 0, .retAddr 0, .retAddr 0, .retAddr 0] [] (mkH B s1 l2) (fun r => ∃ (v10 : Int) (s8 : Nat → Nat → Int32) (l9 : Nat → Nat → Int64), r = (.inl (some (iv v10)), mkH B s8 l9) ∧ a_W d 147 78 [.ref 56, iv x1, iv v3, iv v10, iv 0] [] (mkH B s8 l9) Q))))))) ∧ (0 < (zz s1 56 22) → Q (.inl (some (iv 0)), (mkH B s1 l2)))))) : a_W d 147 35 [.ref 56, iv x1, .retAddr 0, .retAddr 0, .retAddr 0] [] (mkH B s l) Q := by
  refine w_aln (p := 36) (q147 35) rfl rfl ?_
  refine w_ic (p := 37) (q147 36) rfl ?_
  refine w_call (st := []) (as := [.ref 56, iv 0]) (as' := [iv 0, .ref 56]) (p := 40) (q147 37) rfl m148 (by decide) (a_ok_i rfl (r56 hB) rfl) rfl rfl (Nat.le_of_ble_eq_true rfl) (by omega) rfl rfl (a_W.imp w ?_)
  rintro _ ⟨v3, s1, l2, rfl, w⟩
  refine ⟨some (iv v3), _, rfl, ?_⟩
  show a_W _ 147 40 [.ref 56, iv x1, .retAddr 0, .retAddr 0, .retAddr 0] [iv v3] (mkH B s1 l2) _
  refine w_isn (p := 41) (ls' := [.ref 56, iv x1, iv v3, .retAddr 0, .retAddr 0]) (q147 40) rfl (Nat.le_of_ble_eq_true rfl) rfl ?_
  refine w_aln (p := 42) (q147 41) rfl rfl ?_
  refine w_gI (p := 45) (j := 22) (v := (zz s1 56 22)) (q147 42) rfl (r56 hB) (by decide) (iv_zz s1 56 22) ?_
  by_cases c4 : (zz s1 56 22) ≤ 0
  · replace w := w.1 c4
    refine w_i1t (q147 45) (inR_zz _ _ _) c4 ?_
    refine w_iln (p := 51) (q147 50) rfl rfl ?_
    refine w_bp (p := 53) (q147 51) rfl (by decide) ?_
    obtain ⟨h5, w⟩ := w
    by_cases c6 : v3 < 8
    · replace w := w.1 c6
      refine w_i2t (q147 53) h5 (by decide) c6 ?_
      exact w
    · replace w := w.2 (Int.not_lt.mp c6)
      refine w_i2f (p := 56) (q147 53) rfl h5 (by decide) c6 ?_
      refine w_iln (p := 57) (q147 56) rfl rfl ?_
      refine w_bp (p := 59) (q147 57) rfl (by decide) ?_
      by_cases c7 : 11 < v3
      · replace w := w.1 c7
        refine w_i2t (q147 59) h5 (by decide) c7 ?_
        exact w
      · replace w := w.2 (Int.not_lt.mp c7)
        refine w_i2f (p := 62) (q147 59) rfl h5 (by decide) c7 ?_
        refine w_aln (p := 63) (q147 62) rfl rfl ?_
        refine w_iln (p := 64) (q147 63) rfl rfl ?_
        refine w_call (st := []) (as := [.ref 56, iv v3]) (as' := [iv v3, .ref 56]) (p := 67) (q147 64) rfl m163 (by decide) (a_ok_i rfl (r56 hB) rfl) rfl rfl (Nat.le_of_ble_eq_true rfl) (by omega) rfl rfl (a_W.imp w ?_)
        rintro _ ⟨v10, s8, l9, rfl, w⟩
        refine ⟨some (iv v10), _, rfl, ?_⟩
        show a_W _ 147 67 [.ref 56, iv x1, iv v3, .retAddr 0, .retAddr 0] [iv v10] (mkH B s8 l9) _
        refine w_goto (q147 67) ?_
        refine w_isn (p := 75) (ls' := [.ref 56, iv x1, iv v3, iv v10, .retAddr 0]) (q147 74) rfl (Nat.le_of_ble_eq_true rfl) rfl ?_
        refine w_ic (p := 76) (q147 75) rfl ?_
        refine w_is (p := 78) (ls' := [.ref 56, iv x1, iv v3, iv v10, iv 0]) (q147 76) rfl (Nat.le_of_ble_eq_true rfl) rfl ?_
        exact w
  · replace w := w.2 (Int.not_le.mp c4)
    refine w_i1f (p := 48) (q147 45) rfl (inR_zz _ _ _) c4 ?_
    refine w_ic (p := 49) (q147 48) rfl ?_
    exact w_ret (q147 49) rfl w
theorem w147_70 {d : Nat} {B : aH} {Q : aR → Prop} (hB : a_Can B) (hd : 1 ≤ d) (x1 x2 : Int) (s : Nat → Nat → Int32) (l : Nat → Nat → Int64) (w : a_W (d - 1) 176 0 [.ref 56, .retAddr 0, .retAddr 0] [] (mkH B s l) (fun r => ∃ (v3 : Int) (s1 : Nat → Nat → Int32) (l2 : Nat → Nat → Int64), r = (.inl (some (iv v3)), mkH B s1 l2) ∧ a_W d 147 78 [.ref 56, iv x1, iv x2, iv v3, iv 0] [] (mkH B s1 l2) Q)) : a_W d 147 70 [.ref 56, iv x1, iv x2, .retAddr 0, .retAddr 0] [] (mkH B s l) Q := by
  refine w_aln (p := 71) (q147 70) rfl rfl ?_
  refine w_call (st := []) (as := [.ref 56]) (as' := [.ref 56]) (p := 74) (q147 71) rfl m176 (by decide) (a_ok_i rfl (r56 hB) rfl) rfl rfl (Nat.le_of_ble_eq_true rfl) (by omega) rfl rfl (a_W.imp w ?_)
  rintro _ ⟨v3, s1, l2, rfl, w⟩
  refine ⟨some (iv v3), _, rfl, ?_⟩
  show a_W _ 147 74 [.ref 56, iv x1, iv x2, .retAddr 0, .retAddr 0] [iv v3] (mkH B s1 l2) _
  refine w_isn (p := 75) (ls' := [.ref 56, iv x1, iv x2, iv v3, .retAddr 0]) (q147 74) rfl (Nat.le_of_ble_eq_true rfl) rfl ?_
  refine w_ic (p := 76) (q147 75) rfl ?_
  refine w_is (p := 78) (ls' := [.ref 56, iv x1, iv x2, iv v3, iv 0]) (q147 76) rfl (Nat.le_of_ble_eq_true rfl) rfl ?_
  exact w
theorem w147_78 {d : Nat} {B : aH} {Q : aR → Prop} (hB : a_Can B) (hd : 1 ≤ d) (x1 x2 x3 x4 : Int) (s : Nat → Nat → Int32) (l : Nat → Nat → Int64) (w : (inR x4 ∧ inR x1 ∧ ((x1 ≤ x4 → a_W d 147 109 [.ref 56, iv x1, iv x2, iv x3, iv x4] [] (mkH B s l) Q) ∧ (x4 < x1 → (((zz s 56 22) ≠ 0 → a_W d 147 109 [.ref 56, iv x1, iv x2, iv x3, iv x4] [] (mkH B s l) Q) ∧ ((zz s 56 22) = 0 → a_W (d - 1) 173 0 [.ref 56, iv 3, iv 0] [] (mkH B s l) (fun r => ∃ (v7 : Int) (s5 : Nat → Nat → Int32) (l6 : Nat → Nat → Int64), r = (.inl (some (iv v7)), mkH B s5 l6) ∧ a_W (d - 1) 174 0 [.ref 56, iv v7, iv x3] [] (mkH B s5 l6) (fun r => ∃ (v10 : Int) (s8 : Nat → Nat → Int32) (l9 : Nat → Nat → Int64), r = (.inl (some (iv v10)), mkH B s8 l9) ∧ a_W d 147 78 [.ref 56, iv x1, iv x2, iv v10, iv (x4 + 1)] [] (mkH B s8 l9) Q)))))))) : a_W d 147 78 [.ref 56, iv x1, iv x2, iv x3, iv x4] [] (mkH B s l) Q := by
  refine w_il (p := 80) (q147 78) rfl rfl ?_
  refine w_iln (p := 81) (q147 80) rfl rfl ?_
  obtain ⟨h1, w⟩ := w
  obtain ⟨h2, w⟩ := w
  by_cases c3 : x1 ≤ x4
  · replace w := w.1 c3
    refine w_i2t (q147 81) h1 h2 c3 ?_
    exact w
  · replace w := w.2 (Int.not_le.mp c3)
    refine w_i2f (p := 84) (q147 81) rfl h1 h2 c3 ?_
    refine w_aln (p := 85) (q147 84) rfl rfl ?_
    refine w_gI (p := 88) (j := 22) (v := (zz s 56 22)) (q147 85) rfl (r56 hB) (by decide) (iv_zz s 56 22) ?_
    by_cases c4 : (zz s 56 22) ≠ 0
    · replace w := w.1 c4
      refine w_i1t (q147 88) (inR_zz _ _ _) c4 ?_
      exact w
    · replace w := w.2 (Decidable.not_not.mp c4)
      refine w_i1f (p := 91) (q147 88) rfl (inR_zz _ _ _) c4 ?_
      refine w_aln (p := 92) (q147 91) rfl rfl ?_
      refine w_aln (p := 93) (q147 92) rfl rfl ?_
      refine w_ic (p := 94) (q147 93) rfl ?_
      refine w_ic (p := 95) (q147 94) rfl ?_
      refine w_call (st := [.ref 56]) (as := [.ref 56, iv 3, iv 0]) (as' := [iv 0, iv 3, .ref 56]) (p := 98) (q147 95) rfl m173 (by decide) (a_ok_i rfl (r56 hB) rfl) rfl rfl (Nat.le_of_ble_eq_true rfl) (by omega) rfl rfl (a_W.imp w ?_)
      rintro _ ⟨v7, s5, l6, rfl, w⟩
      refine ⟨some (iv v7), _, rfl, ?_⟩
      show a_W _ 147 98 [.ref 56, iv x1, iv x2, iv x3, iv x4] [iv v7, .ref 56] (mkH B s5 l6) _
      refine w_iln (p := 99) (q147 98) rfl rfl ?_
      refine w_call (st := []) (as := [.ref 56, iv v7, iv x3]) (as' := [iv x3, iv v7, .ref 56]) (p := 102) (q147 99) rfl m174 (by decide) (a_ok_i rfl (r56 hB) rfl) rfl rfl (Nat.le_of_ble_eq_true rfl) (by omega) rfl rfl (a_W.imp w ?_)
      rintro _ ⟨v10, s8, l9, rfl, w⟩
      refine ⟨some (iv v10), _, rfl, ?_⟩
      show a_W _ 147 102 [.ref 56, iv x1, iv x2, iv x3, iv x4] [iv v10] (mkH B s8 l9) _
      refine w_isn (p := 103) (ls' := [.ref 56, iv x1, iv x2, iv v10, iv x4]) (q147 102) rfl (Nat.le_of_ble_eq_true rfl) rfl ?_
      refine w_inc (p := 106) (ls' := [.ref 56, iv x1, iv x2, iv v10, iv (x4 + 1)]) (q147 103) rfl rfl rfl ?_
      refine w_goto (q147 106) ?_
      exact w
theorem w147_109 {d : Nat} {B : aH} {Q : aR → Prop} (hB : a_Can B) (x1 x2 x3 x4 : Int) (s : Nat → Nat → Int32) (l : Nat → Nat → Int64) (w : Q (.inl (some (iv x3)), (mkH B s l))) : a_W d 147 109 [.ref 56, iv x1, iv x2, iv x3, iv x4] [] (mkH B s l) Q := by
  refine w_iln (p := 110) (q147 109) rfl rfl ?_
  exact w_ret (q147 110) rfl w
theorem w176_0 {d : Nat} {B : aH} {Q : aR → Prop} (hB : a_Can B) (hd : 1 ≤ d) (s : Nat → Nat → Int32) (l : Nat → Nat → Int64) (w : a_W (d - 1) 177 0 [.ref 56, .retAddr 0, .retAddr 0] [] (mkH B s l) (fun r => ∃ (v3 : Int) (s1 : Nat → Nat → Int32) (l2 : Nat → Nat → Int64), r = (.inl (some (iv v3)), mkH B s1 l2) ∧ a_W d 176 5 [.ref 56, iv v3, .retAddr 0] [] (mkH B s1 l2) Q)) : a_W d 176 0 [.ref 56, .retAddr 0, .retAddr 0] [] (mkH B s l) Q := by
  refine w_aln (p := 1) (q176 0) rfl rfl ?_
  refine w_call (st := []) (as := [.ref 56]) (as' := [.ref 56]) (p := 4) (q176 1) rfl m177 (by decide) (a_ok_i rfl (r56 hB) rfl) rfl rfl (Nat.le_of_ble_eq_true rfl) (by omega) rfl rfl (a_W.imp w ?_)
  rintro _ ⟨v3, s1, l2, rfl, w⟩
  refine ⟨some (iv v3), _, rfl, ?_⟩
  show a_W _ 176 4 [.ref 56, .retAddr 0, .retAddr 0] [iv v3] (mkH B s1 l2) _
  refine w_isn (p := 5) (ls' := [.ref 56, iv v3, .retAddr 0]) (q176 4) rfl (Nat.le_of_ble_eq_true rfl) rfl ?_
  exact w
theorem w176_5 {d : Nat} {B : aH} {Q : aR → Prop} (hB : a_Can B) (hd : 1 ≤ d) (x1 : Int) (u2 : Value) (s : Nat → Nat → Int32) (l : Nat → Nat → Int64) (w : a_W (d - 1) 148 0 [.ref 56, iv 0, .retAddr 0] [] (mkH B s l) (fun r => ∃ (v3 : Int) (s1 : Nat → Nat → Int32) (l2 : Nat → Nat → Int64), r = (.inl (some (iv v3)), mkH B s1 l2) ∧ (inR v3 ∧ (((z178 v3) = 0 → a_W d 176 49 [.ref 56, iv x1, u2] [] (mkH B s1 l2) Q) ∧ ((z178 v3) ≠ 0 → (((zz s1 56 22) ≠ 0 → a_W d 176 49 [.ref 56, iv x1, u2] [] (mkH B s1 l2) Q) ∧ ((zz s1 56 22) = 0 → a_W (d - 1) 177 0 [.ref 56, .retAddr 0, .retAddr 0] [] (mkH B s1 l2) (fun r => ∃ (v9 : Int) (s7 : Nat → Nat → Int32) (l8 : Nat → Nat → Int64), r = (.inl (some (iv v9)), mkH B s7 l8) ∧ (((zz s7 56 22) ≤ 0 → a_W (d - 1) 174 0 [.ref 56, iv x1, iv v9] [] (mkH B s7 l8) (fun r => ∃ (v13 : Int) (s11 : Nat → Nat → Int32) (l12 : Nat → Nat → Int64), r = (.inl (some (iv v13)), mkH B s11 l12) ∧ a_W d 176 5 [.ref 56, iv v13, iv v9] [] (mkH B s11 l12) Q)) ∧ (0 < (zz s7 56 22) → a_W d 176 5 [.ref 56, iv 0, iv v9] [] (mkH B s7 l8) Q)))))))))) : a_W d 176 5 [.ref 56, iv x1, u2] [] (mkH B s l) Q := by
  refine w_aln (p := 6) (q176 5) rfl rfl ?_
  refine w_ic (p := 7) (q176 6) rfl ?_
  refine w_call (st := []) (as := [.ref 56, iv 0]) (as' := [iv 0, .ref 56]) (p := 10) (q176 7) rfl m148 (by decide) (a_ok_i rfl (r56 hB) rfl) rfl rfl (Nat.le_of_ble_eq_true rfl) (by omega) rfl rfl (a_W.imp w ?_)
  rintro _ ⟨v3, s1, l2, rfl, w⟩
  refine ⟨some (iv v3), _, rfl, ?_⟩
  show a_W _ 176 10 [.ref 56, iv x1, u2] [iv v3] (mkH B s1 l2) _
  obtain ⟨h4, w⟩ := w
  refine w_call (st := []) (as := [iv v3]) (as' := [iv v3]) (p := 13) (q176 10) rfl m178 (by decide) (a_ok_s rfl rfl) rfl rfl (Nat.le_of_ble_eq_true rfl) (by omega) rfl rfl (a_W.imp (p178 hB v3 _ _ h4) ?_)
  rintro _ rfl
  refine ⟨_, _, rfl, ?_⟩
  show a_W _ 176 13 [.ref 56, iv x1, u2] [iv (z178 v3)] _ _
  by_cases c5 : (z178 v3) = 0
  · replace w := w.1 c5
    refine w_i1t (q176 13) (inR_z178 _) c5 ?_
    exact w
  · replace w := w.2 c5
    refine w_i1f (p := 16) (q176 13) rfl (inR_z178 _) c5 ?_
    refine w_aln (p := 17) (q176 16) rfl rfl ?_
    refine w_gI (p := 20) (j := 22) (v := (zz s1 56 22)) (q176 17) rfl (r56 hB) (by decide) (iv_zz s1 56 22) ?_
    by_cases c6 : (zz s1 56 22) ≠ 0
    · replace w := w.1 c6
      refine w_i1t (q176 20) (inR_zz _ _ _) c6 ?_
      exact w
    · replace w := w.2 (Decidable.not_not.mp c6)
      refine w_i1f (p := 23) (q176 20) rfl (inR_zz _ _ _) c6 ?_
      refine w_aln (p := 24) (q176 23) rfl rfl ?_
      refine w_call (st := []) (as := [.ref 56]) (as' := [.ref 56]) (p := 27) (q176 24) rfl m177 (by decide) (a_ok_i rfl (r56 hB) rfl) rfl rfl (Nat.le_of_ble_eq_true rfl) (by omega) rfl rfl (a_W.imp w ?_)
      rintro _ ⟨v9, s7, l8, rfl, w⟩
      refine ⟨some (iv v9), _, rfl, ?_⟩
      show a_W _ 176 27 [.ref 56, iv x1, u2] [iv v9] (mkH B s7 l8) _
      refine w_isn (p := 28) (ls' := [.ref 56, iv x1, iv v9]) (q176 27) rfl (Nat.le_of_ble_eq_true rfl) rfl ?_
      refine w_aln (p := 29) (q176 28) rfl rfl ?_
      refine w_gI (p := 32) (j := 22) (v := (zz s7 56 22)) (q176 29) rfl (r56 hB) (by decide) (iv_zz s7 56 22) ?_
      by_cases c10 : (zz s7 56 22) ≤ 0
      · replace w := w.1 c10
        refine w_i1t (q176 32) (inR_zz _ _ _) c10 ?_
        refine w_aln (p := 40) (q176 39) rfl rfl ?_
        refine w_iln (p := 41) (q176 40) rfl rfl ?_
        refine w_iln (p := 42) (q176 41) rfl rfl ?_
        refine w_call (st := []) (as := [.ref 56, iv x1, iv v9]) (as' := [iv v9, iv x1, .ref 56]) (p := 45) (q176 42) rfl m174 (by decide) (a_ok_i rfl (r56 hB) rfl) rfl rfl (Nat.le_of_ble_eq_true rfl) (by omega) rfl rfl (a_W.imp w ?_)
        rintro _ ⟨v13, s11, l12, rfl, w⟩
        refine ⟨some (iv v13), _, rfl, ?_⟩
        show a_W _ 176 45 [.ref 56, iv x1, iv v9] [iv v13] (mkH B s11 l12) _
        refine w_isn (p := 46) (ls' := [.ref 56, iv v13, iv v9]) (q176 45) rfl (Nat.le_of_ble_eq_true rfl) rfl ?_
        refine w_goto (q176 46) ?_
        exact w
      · replace w := w.2 (Int.not_le.mp c10)
        refine w_i1f (p := 35) (q176 32) rfl (inR_zz _ _ _) c10 ?_
        refine w_ic (p := 36) (q176 35) rfl ?_
        refine w_goto (q176 36) ?_
        refine w_isn (p := 46) (ls' := [.ref 56, iv 0, iv v9]) (q176 45) rfl (Nat.le_of_ble_eq_true rfl) rfl ?_
        refine w_goto (q176 46) ?_
        exact w
theorem w176_49 {d : Nat} {B : aH} {Q : aR → Prop} (hB : a_Can B) (x1 : Int) (u2 : Value) (s : Nat → Nat → Int32) (l : Nat → Nat → Int64) (w : Q (.inl (some (iv x1)), (mkH B s l))) : a_W d 176 49 [.ref 56, iv x1, u2] [] (mkH B s l) Q := by
  refine w_iln (p := 50) (q176 49) rfl rfl ?_
  exact w_ret (q176 50) rfl w
theorem w177_0 {d : Nat} {B : aH} {Q : aR → Prop} (hB : a_Can B) (hd : 1 ≤ d) (s : Nat → Nat → Int32) (l : Nat → Nat → Int64) (w : a_W (d - 1) 148 0 [.ref 56, iv 0, .retAddr 0] [] (mkH B s l) (fun r => ∃ (v3 : Int) (s1 : Nat → Nat → Int32) (l2 : Nat → Nat → Int64), r = (.inl (some (iv v3)), mkH B s1 l2) ∧ (((zz s1 56 22) ≠ 0 → a_W d 177 34 [.ref 56, iv v3, .retAddr 0] [] (mkH B s1 l2) Q) ∧ ((zz s1 56 22) = 0 → (inR v3 ∧ (((z178 v3) ≠ 0 → a_W d 177 34 [.ref 56, iv v3, .retAddr 0] [] (mkH B s1 l2) Q) ∧ ((z178 v3) = 0 → ((0 ≤ (zz s1 56 31) ∧ (zz s1 56 31) < 6002) ∧ a_W d 177 34 [.ref 56, iv v3, .retAddr 0] [] (mkH B (zu (zu s1 56 22 2) 56 23 (zz s1 72 (zz s1 56 31).toNat)) l2) Q)))))))) : a_W d 177 0 [.ref 56, .retAddr 0, .retAddr 0] [] (mkH B s l) Q := by
  refine w_aln (p := 1) (q177 0) rfl rfl ?_
  refine w_ic (p := 2) (q177 1) rfl ?_
  refine w_call (st := []) (as := [.ref 56, iv 0]) (as' := [iv 0, .ref 56]) (p := 5) (q177 2) rfl m148 (by decide) (a_ok_i rfl (r56 hB) rfl) rfl rfl (Nat.le_of_ble_eq_true rfl) (by omega) rfl rfl (a_W.imp w ?_)
  rintro _ ⟨v3, s1, l2, rfl, w⟩
  refine ⟨some (iv v3), _, rfl, ?_⟩
  show a_W _ 177 5 [.ref 56, .retAddr 0, .retAddr 0] [iv v3] (mkH B s1 l2) _
  refine w_isn (p := 6) (ls' := [.ref 56, iv v3, .retAddr 0]) (q177 5) rfl (Nat.le_of_ble_eq_true rfl) rfl ?_
  refine w_aln (p := 7) (q177 6) rfl rfl ?_
  refine w_gI (p := 10) (j := 22) (v := (zz s1 56 22)) (q177 7) rfl (r56 hB) (by decide) (iv_zz s1 56 22) ?_
  by_cases c4 : (zz s1 56 22) ≠ 0
  · replace w := w.1 c4
    refine w_i1t (q177 10) (inR_zz _ _ _) c4 ?_
    exact w
  · replace w := w.2 (Decidable.not_not.mp c4)
    refine w_i1f (p := 13) (q177 10) rfl (inR_zz _ _ _) c4 ?_
    refine w_iln (p := 14) (q177 13) rfl rfl ?_
    obtain ⟨h5, w⟩ := w
    refine w_call (st := []) (as := [iv v3]) (as' := [iv v3]) (p := 17) (q177 14) rfl m178 (by decide) (a_ok_s rfl rfl) rfl rfl (Nat.le_of_ble_eq_true rfl) (by omega) rfl rfl (a_W.imp (p178 hB v3 _ _ h5) ?_)
    rintro _ rfl
    refine ⟨_, _, rfl, ?_⟩
    show a_W _ 177 17 [.ref 56, iv v3, .retAddr 0] [iv (z178 v3)] _ _
    by_cases c6 : (z178 v3) ≠ 0
    · replace w := w.1 c6
      refine w_i1t (q177 17) (inR_z178 _) c6 ?_
      exact w
    · replace w := w.2 (Decidable.not_not.mp c6)
      refine w_i1f (p := 20) (q177 17) rfl (inR_z178 _) c6 ?_
      refine w_aln (p := 21) (q177 20) rfl rfl ?_
      refine w_ic (p := 22) (q177 21) rfl ?_
      refine w_aln (p := 23) (q177 22) rfl rfl ?_
      refine w_gR (p := 26) (j := 28) (v := 72) (q177 23) rfl (r56 hB) (by decide) (f56_28 hB) ?_
      refine w_aln (p := 27) (q177 26) rfl rfl ?_
      refine w_gI (p := 30) (j := 31) (v := (zz s1 56 31)) (q177 27) rfl (r56 hB) (by decide) (iv_zz s1 56 31) ?_
      obtain ⟨o7, w⟩ := w
      refine w_ia (p := 31) (v := (zz s1 72 (zz s1 56 31).toNat)) (q177 30) rfl (r72 hB) (by decide) o7 (iv_zz s1 72 (zz s1 56 31).toNat) ?_
      refine w_call (st := []) (as := [.ref 56, iv 2, iv (zz s1 72 (zz s1 56 31).toNat)]) (as' := [iv (zz s1 72 (zz s1 56 31).toNat), iv 2, .ref 56]) (p := 34) (q177 31) rfl m152 (by decide) (a_ok_i rfl (r56 hB) rfl) rfl rfl (Nat.le_of_ble_eq_true rfl) (by omega) rfl rfl ?_
      refine w_aln (p := 1) (q152 0) rfl rfl ?_
      refine w_gI (p := 4) (j := 22) (v := (zz s1 56 22)) (q152 1) rfl (r56 hB) (by decide) (iv_zz s1 56 22) ?_
      refine w_i1t (q152 4) (inR_zz _ _ _) (show zc _ _ _ by unfold zc; omega) ?_
      refine w_aln (p := 9) (q152 8) rfl rfl ?_
      refine w_iln (p := 10) (q152 9) rfl rfl ?_
      refine w_pI (p := 13) (j := 22) (q152 10) rfl (r56 hB) (by decide) rfl ?_
      refine w_aln (p := 14) (q152 13) rfl rfl ?_
      refine w_iln (p := 15) (q152 14) rfl rfl ?_
      refine w_pI (p := 18) (j := 23) (q152 15) rfl (r56 hB) (by decide) rfl ?_
      refine w_rv (q152 18) rfl ⟨_, _, rfl, ?_⟩
      show a_W _ 177 34 [.ref 56, iv v3, .retAddr 0] [] _ _
      exact w
theorem w177_34 {d : Nat} {B : aH} {Q : aR → Prop} (hB : a_Can B) (hd : 1 ≤ d) (x1 : Int) (s : Nat → Nat → Int32) (l : Nat → Nat → Int64) (w : (((zz s 56 22) ≤ 0 → (inR x1 ∧ ((x1 ≠ 4 → ((x1 ≠ 1 → ((0 ≤ (((zz s 56 31) + 1) - 1) ∧ (((zz s 56 31) + 1) - 1) < 6002) ∧ a_W (d - 1) 172 0 [.ref 56, iv 2, iv (zz s 73 (((zz s 56 31) + 1) - 1).toNat), iv (-1), iv (-1), iv ((2 * (zz s 73 (((zz s 56 31) + 1) - 1).toNat)) + 1), iv ((zz s 73 (((zz s 56 31) + 1) - 1).toNat) + 1)] [] (mkH B (zu s 56 31 ((zz s 56 31) + 1)) l) (fun r => ∃ (v8 : Int) (s6 : Nat → Nat → Int32) (l7 : Nat → Nat → Int64), r = (.inl (some (iv v8)), mkH B s6 l7) ∧ Q (.inl (some (iv v8)), (mkH B s6 l7))))) ∧ (x1 = 1 → a_W (d - 1) 172 0 [.ref 56, iv 0, iv (((zz s 56 31) + 1) - 1), iv (-1), iv (-1), iv 1, iv 1] [] (mkH B (zu s 56 31 ((zz s 56 31) + 1)) l) (fun r => ∃ (v11 : Int) (s9 : Nat → Nat → Int32) (l10 : Nat → Nat → Int64), r = (.inl (some (iv v11)), mkH B s9 l10) ∧ Q (.inl (some (iv v11)), (mkH B s9 l10)))))) ∧ (x1 = 4 → a_W (d - 1) 179 0 [.ref 56, .retAddr 0, .retAddr 0, .retAddr 0, .retAddr 0] [] (mkH B s l) (fun r => ∃ (v14 : Int) (s12 : Nat → Nat → Int32) (l13 : Nat → Nat → Int64), r = (.inl (some (iv v14)), mkH B s12 l13) ∧ Q (.inl (some (iv v14)), (mkH B s12 l13))))))) ∧ (0 < (zz s 56 22) → Q (.inl (some (iv 0)), (mkH B s l))))) : a_W d 177 34 [.ref 56, iv x1, .retAddr 0] [] (mkH B s l) Q := by
  refine w_aln (p := 35) (q177 34) rfl rfl ?_
  refine w_gI (p := 38) (j := 22) (v := (zz s 56 22)) (q177 35) rfl (r56 hB) (by decide) (iv_zz s 56 22) ?_
  by_cases c1 : (zz s 56 22) ≤ 0
  · replace w := w.1 c1
    refine w_i1t (q177 38) (inR_zz _ _ _) c1 ?_
    refine w_iln (p := 44) (q177 43) rfl rfl ?_
    refine w_ic (p := 45) (q177 44) rfl ?_
    obtain ⟨h2, w⟩ := w
    by_cases c3 : x1 ≠ 4
    · replace w := w.1 c3
      refine w_i2t (q177 45) h2 (by decide) c3 ?_
      refine w_aln (p := 54) (q177 53) rfl rfl ?_
      refine w_dupr (p := 55) (q177 54) rfl ?_
      refine w_gI (p := 58) (j := 31) (v := (zz s 56 31)) (q177 55) rfl (r56 hB) (by decide) (iv_zz s 56 31) ?_
      refine w_ic (p := 59) (q177 58) rfl ?_
      refine w_add (p := 60) (q177 59) rfl ?_
      refine w_pI (p := 63) (j := 31) (q177 60) rfl (r56 hB) (by decide) rfl ?_
      refine w_iln (p := 64) (q177 63) rfl rfl ?_
      refine w_ic (p := 65) (q177 64) rfl ?_
      by_cases c4 : x1 ≠ 1
      · replace w := w.1 c4
        refine w_i2t (q177 65) h2 (by decide) c4 ?_
        refine w_aln (p := 85) (q177 84) rfl rfl ?_
        refine w_gR (p := 88) (j := 29) (v := 73) (q177 85) rfl (r56 hB) (by decide) (f56_29 hB) ?_
        refine w_aln (p := 89) (q177 88) rfl rfl ?_
        refine w_gI (p := 92) (j := 31) (v := ((zz s 56 31) + 1)) (q177 89) rfl (r56 hB) (by decide) rfl ?_
        refine w_ic (p := 93) (q177 92) rfl ?_
        refine w_sub (p := 94) (q177 93) rfl ?_
        obtain ⟨o5, w⟩ := w
        refine w_ia (p := 95) (v := (zz s 73 (((zz s 56 31) + 1) - 1).toNat)) (q177 94) rfl (r73 hB) (by decide) o5 (iv_zz s 73 (((zz s 56 31) + 1) - 1).toNat) ?_
        refine w_isn (p := 96) (ls' := [.ref 56, iv x1, iv (zz s 73 (((zz s 56 31) + 1) - 1).toNat)]) (q177 95) rfl (Nat.le_of_ble_eq_true rfl) rfl ?_
        refine w_aln (p := 97) (q177 96) rfl rfl ?_
        refine w_ic (p := 98) (q177 97) rfl ?_
        refine w_iln (p := 99) (q177 98) rfl rfl ?_
        refine w_ic (p := 100) (q177 99) rfl ?_
        refine w_ic (p := 101) (q177 100) rfl ?_
        refine w_ic (p := 102) (q177 101) rfl ?_
        refine w_iln (p := 103) (q177 102) rfl rfl ?_
        refine w_mulz (p := 104) (q177 103) rfl ?_
        refine w_ic (p := 105) (q177 104) rfl ?_
        refine w_add (p := 106) (q177 105) rfl ?_
        refine w_iln (p := 107) (q177 106) rfl rfl ?_
        refine w_ic (p := 108) (q177 107) rfl ?_
        refine w_add (p := 109) (q177 108) rfl ?_
        refine w_call (st := []) (as := [.ref 56, iv 2, iv (zz s 73 (((zz s 56 31) + 1) - 1).toNat), iv (-1), iv (-1), iv ((2 * (zz s 73 (((zz s 56 31) + 1) - 1).toNat)) + 1), iv ((zz s 73 (((zz s 56 31) + 1) - 1).toNat) + 1)]) (as' := [iv ((zz s 73 (((zz s 56 31) + 1) - 1).toNat) + 1), iv ((2 * (zz s 73 (((zz s 56 31) + 1) - 1).toNat)) + 1), iv (-1), iv (-1), iv (zz s 73 (((zz s 56 31) + 1) - 1).toNat), iv 2, .ref 56]) (p := 112) (q177 109) rfl m172 (by decide) (a_ok_i rfl (r56 hB) rfl) rfl rfl (Nat.le_of_ble_eq_true rfl) (by omega) rfl rfl (a_W.imp w ?_)
        rintro _ ⟨v8, s6, l7, rfl, w⟩
        refine ⟨some (iv v8), _, rfl, ?_⟩
        show a_W _ 177 112 [.ref 56, iv x1, iv (zz s 73 (((zz s 56 31) + 1) - 1).toNat)] [iv v8] (mkH B s6 l7) _
        exact w_ret (q177 112) rfl w
      · replace w := w.2 (Decidable.not_not.mp c4)
        refine w_i2f (p := 68) (q177 65) rfl h2 (by decide) c4 ?_
        refine w_aln (p := 69) (q177 68) rfl rfl ?_
        refine w_ic (p := 70) (q177 69) rfl ?_
        refine w_aln (p := 71) (q177 70) rfl rfl ?_
        refine w_gI (p := 74) (j := 31) (v := ((zz s 56 31) + 1)) (q177 71) rfl (r56 hB) (by decide) rfl ?_
        refine w_ic (p := 75) (q177 74) rfl ?_
        refine w_sub (p := 76) (q177 75) rfl ?_
        refine w_ic (p := 77) (q177 76) rfl ?_
        refine w_ic (p := 78) (q177 77) rfl ?_
        refine w_ic (p := 79) (q177 78) rfl ?_
        refine w_ic (p := 80) (q177 79) rfl ?_
        refine w_call (st := []) (as := [.ref 56, iv 0, iv (((zz s 56 31) + 1) - 1), iv (-1), iv (-1), iv 1, iv 1]) (as' := [iv 1, iv 1, iv (-1), iv (-1), iv (((zz s 56 31) + 1) - 1), iv 0, .ref 56]) (p := 83) (q177 80) rfl m172 (by decide) (a_ok_i rfl (r56 hB) rfl) rfl rfl (Nat.le_of_ble_eq_true rfl) (by omega) rfl rfl (a_W.imp w ?_)
        rintro _ ⟨v11, s9, l10, rfl, w⟩
        refine ⟨some (iv v11), _, rfl, ?_⟩
        show a_W _ 177 83 [.ref 56, iv x1, .retAddr 0] [iv v11] (mkH B s9 l10) _
        exact w_ret (q177 83) rfl w
    · replace w := w.2 (Decidable.not_not.mp c3)
      refine w_i2f (p := 48) (q177 45) rfl h2 (by decide) c3 ?_
      refine w_aln (p := 49) (q177 48) rfl rfl ?_
      refine w_call (st := []) (as := [.ref 56]) (as' := [.ref 56]) (p := 52) (q177 49) rfl m179 (by decide) (a_ok_i rfl (r56 hB) rfl) rfl rfl (Nat.le_of_ble_eq_true rfl) (by omega) rfl rfl (a_W.imp w ?_)
      rintro _ ⟨v14, s12, l13, rfl, w⟩
      refine ⟨some (iv v14), _, rfl, ?_⟩
      show a_W _ 177 52 [.ref 56, iv x1, .retAddr 0] [iv v14] (mkH B s12 l13) _
      exact w_ret (q177 52) rfl w
  · replace w := w.2 (Int.not_le.mp c1)
    refine w_i1f (p := 41) (q177 38) rfl (inR_zz _ _ _) c1 ?_
    refine w_ic (p := 42) (q177 41) rfl ?_
    exact w_ret (q177 42) rfl w
set_option maxRecDepth 10000 in
theorem w179_0 {d : Nat} {B : aH} {Q : aR → Prop} (hB : a_Can B) (hd : 1 ≤ d) (s : Nat → Nat → Int32) (l : Nat → Nat → Int64) (w : a_W (d - 1) 148 0 [.ref 56, iv 1, .retAddr 0] [] (mkH B s l) (fun r => ∃ (v3 : Int) (s1 : Nat → Nat → Int32) (l2 : Nat → Nat → Int64), r = (.inl (some (iv v3)), mkH B s1 l2) ∧ (((zz s1 56 22) ≤ 0 → (inR v3 ∧ ((v3 < 9 → a_W d 179 31 [.ref 56, iv v3, .retAddr 0, .retAddr 0, .retAddr 0] [] (mkH B s1 l2) Q) ∧ (9 ≤ v3 → ((12 < v3 → a_W d 179 31 [.ref 56, iv v3, .retAddr 0, .retAddr 0, .retAddr 0] [] (mkH B s1 l2) Q) ∧ (v3 ≤ 12 → (((z180 v3) = 0 → a_W (d - 1) 150 0 [.ref 56, iv (zz s1 56 25), .retAddr 0, .retAddr 0, .retAddr 0] [] (mkH B s1 l2) (fun r => ∃ (v11 : Int) (s9 : Nat → Nat → Int32) (l10 : Nat → Nat → Int64), r = (.inl (some (iv v11)), mkH B s9 l10) ∧ (inR v11 ∧ 0 ≤ v11 ∧ zz s9 56 24 ≤ 8000 ∧ (((mby s9 v11) ≠ 41 → a_W d 179 142 [.ref 56, iv v3, iv 1, .retAddr 0, .retAddr 0] [] (mkH B s9 l10) Q) ∧ ((mby s9 v11) = 41 → a_W (d - 1) 166 0 [.ref 56, iv 5] [] (mkH B (zu s9 56 31 ((zz s9 56 31) + 2)) l10) (fun r => ∃ (s16 : Nat → Nat → Int32) (l17 : Nat → Nat → Int64), r = (.inl none, mkH B s16 l17) ∧ ((v3 ≠ 9 → ((v3 ≠ 10 → ((v3 ≠ 11 → a_W (d - 1) 173 0 [.ref 56, iv 3, iv 0] [] (mkH B s16 l17) (fun r => ∃ (v23 : Int) (s21 : Nat → Nat → Int32) (l22 : Nat → Nat → Int64), r = (.inl (some (iv v23)), mkH B s21 l22) ∧ Q (.inl (some (iv v23)), (mkH B s21 l22)))) ∧ (v3 = 11 → a_W (d - 1) 173 0 [.ref 56, iv 9, iv 0] [] (mkH B s16 l17) (fun r => ∃ (v26 : Int) (s24 : Nat → Nat → Int32) (l25 : Nat → Nat → Int64), r = (.inl (some (iv v26)), mkH B s24 l25) ∧ Q (.inl (some (iv v26)), (mkH B s24 l25)))))) ∧ (v3 = 10 → a_W (d - 1) 173 0 [.ref 56, iv 8, iv 0] [] (mkH B s16 l17) (fun r => ∃ (v29 : Int) (s27 : Nat → Nat → Int32) (l28 : Nat → Nat → Int64), r = (.inl (some (iv v29)), mkH B s27 l28) ∧ Q (.inl (some (iv v29)), (mkH B s27 l28)))))) ∧ (v3 = 9 → a_W (d - 1) 173 0 [.ref 56, iv 7, iv 0] [] (mkH B s16 l17) (fun r => ∃ (v32 : Int) (s30 : Nat → Nat → Int32) (l31 : Nat → Nat → Int64), r = (.inl (some (iv v32)), mkH B s30 l31) ∧ Q (.inl (some (iv v32)), (mkH B s30 l31))))))))))) ∧ ((z180 v3) ≠ 0 → a_W (d - 1) 166 0 [.ref 56, iv 5] [] (mkH B (zu s1 56 31 ((zz s1 56 31) + 2)) l2) (fun r => ∃ (s33 : Nat → Nat → Int32) (l34 : Nat → Nat → Int64), r = (.inl none, mkH B s33 l34) ∧ a_W (d - 1) 172 0 [.ref 56, iv 1, iv (-1), iv v3, iv (-1), iv 1, iv 1] [] (mkH B s33 l34) (fun r => ∃ (v37 : Int) (s35 : Nat → Nat → Int32) (l36 : Nat → Nat → Int64), r = (.inl (some (iv v37)), mkH B s35 l36) ∧ Q (.inl (some (iv v37)), (mkH B s35 l36)))))))))))) ∧ (0 < (zz s1 56 22) → Q (.inl (some (iv 0)), (mkH B s1 l2)))))) : a_W d 179 0 [.ref 56, .retAddr 0, .retAddr 0, .retAddr 0, .retAddr 0] [] (mkH B s l) Q := by
  refine w_aln (p := 1) (q179 0) rfl rfl ?_
  refine w_ic (p := 2) (q179 1) rfl ?_
  refine w_call (st := []) (as := [.ref 56, iv 1]) (as' := [iv 1, .ref 56]) (p := 5) (q179 2) rfl m148 (by decide) (a_ok_i rfl (r56 hB) rfl) rfl rfl (Nat.le_of_ble_eq_true rfl) (by omega) rfl rfl (a_W.imp w ?_)
  rintro _ ⟨v3, s1, l2, rfl, w⟩
  refine ⟨some (iv v3), _, rfl, ?_⟩
  show a_W _ 179 5 [.ref 56, .retAddr 0, .retAddr 0, .retAddr 0, .retAddr 0] [iv v3] (mkH B s1 l2) _
  refine w_isn (p := 6) (ls' := [.ref 56, iv v3, .retAddr 0, .retAddr 0, .retAddr 0]) (q179 5) rfl (Nat.le_of_ble_eq_true rfl) rfl ?_
  refine w_aln (p := 7) (q179 6) rfl rfl ?_
  refine w_gI (p := 10) (j := 22) (v := (zz s1 56 22)) (q179 7) rfl (r56 hB) (by decide) (iv_zz s1 56 22) ?_
  by_cases c4 : (zz s1 56 22) ≤ 0
  · replace w := w.1 c4
    refine w_i1t (q179 10) (inR_zz _ _ _) c4 ?_
    refine w_iln (p := 16) (q179 15) rfl rfl ?_
    refine w_bp (p := 18) (q179 16) rfl (by decide) ?_
    obtain ⟨h5, w⟩ := w
    by_cases c6 : v3 < 9
    · replace w := w.1 c6
      refine w_i2t (q179 18) h5 (by decide) c6 ?_
      exact w
    · replace w := w.2 (Int.not_lt.mp c6)
      refine w_i2f (p := 21) (q179 18) rfl h5 (by decide) c6 ?_
      refine w_iln (p := 22) (q179 21) rfl rfl ?_
      refine w_bp (p := 24) (q179 22) rfl (by decide) ?_
      by_cases c7 : 12 < v3
      · replace w := w.1 c7
        refine w_i2t (q179 24) h5 (by decide) c7 ?_
        exact w
      · replace w := w.2 (Int.not_lt.mp c7)
        refine w_i2f (p := 27) (q179 24) rfl h5 (by decide) c7 ?_
        refine w_ic (p := 28) (q179 27) rfl ?_
        refine w_goto (q179 28) ?_
        refine w_isn (p := 33) (ls' := [.ref 56, iv v3, iv 1, .retAddr 0, .retAddr 0]) (q179 32) rfl (Nat.le_of_ble_eq_true rfl) rfl ?_
        refine w_iln (p := 34) (q179 33) rfl rfl ?_
        refine w_call (st := []) (as := [iv v3]) (as' := [iv v3]) (p := 37) (q179 34) rfl m180 (by decide) (a_ok_s rfl rfl) rfl rfl (Nat.le_of_ble_eq_true rfl) (by omega) rfl rfl (a_W.imp (p180 hB v3 _ _ h5) ?_)
        rintro _ rfl
        refine ⟨_, _, rfl, ?_⟩
        show a_W _ 179 37 [.ref 56, iv v3, iv 1, .retAddr 0, .retAddr 0] [iv (z180 v3)] _ _
        by_cases c8 : (z180 v3) = 0
        · replace w := w.1 c8
          refine w_i1t (q179 37) (inR_z180 _) c8 ?_
          refine w_iln (p := 67) (q179 66) rfl rfl ?_
          refine w_i1f (p := 70) (q179 67) rfl (by decide) (show ¬ zc _ _ _ by unfold zc; omega) ?_
          refine w_aln (p := 71) (q179 70) rfl rfl ?_
          refine w_aln (p := 72) (q179 71) rfl rfl ?_
          refine w_aln (p := 73) (q179 72) rfl rfl ?_
          refine w_gI (p := 76) (j := 25) (v := (zz s1 56 25)) (q179 73) rfl (r56 hB) (by decide) (iv_zz s1 56 25) ?_
          refine w_call (st := [.ref 56]) (as := [.ref 56, iv (zz s1 56 25)]) (as' := [iv (zz s1 56 25), .ref 56]) (p := 79) (q179 76) rfl m150 (by decide) (a_ok_i rfl (r56 hB) rfl) rfl rfl (Nat.le_of_ble_eq_true rfl) (by omega) rfl rfl (a_W.imp w ?_)
          rintro _ ⟨v11, s9, l10, rfl, w⟩
          refine ⟨some (iv v11), _, rfl, ?_⟩
          show a_W _ 179 79 [.ref 56, iv v3, iv 1, .retAddr 0, .retAddr 0] [iv v11, .ref 56] (mkH B s9 l10) _
          obtain ⟨h12, w⟩ := w
          obtain ⟨o13, w⟩ := w
          obtain ⟨o14, w⟩ := w
          refine w_call (st := []) (as := [.ref 56, iv v11]) (as' := [iv v11, .ref 56]) (p := 82) (q179 79) rfl m151 (by decide) (a_ok_i rfl (r56 hB) rfl) rfl rfl (Nat.le_of_ble_eq_true rfl) (by omega) rfl rfl (a_W.imp (p151 hB v11 s9 l10 h12 o13 o14) ?_)
          rintro _ rfl
          refine ⟨_, _, rfl, ?_⟩
          show a_W _ 179 82 [.ref 56, iv v3, iv 1, .retAddr 0, .retAddr 0] [iv (mby s9 v11)] _ _
          refine w_bp (p := 84) (q179 82) rfl (by decide) ?_
          by_cases c15 : (mby s9 v11) ≠ 41
          · replace w := w.1 c15
            refine w_i2t (q179 84) (inR_mby _ _) (by decide) c15 ?_
            exact w
          · replace w := w.2 (Decidable.not_not.mp c15)
            refine w_i2f (p := 87) (q179 84) rfl (inR_mby _ _) (by decide) c15 ?_
            refine w_aln (p := 88) (q179 87) rfl rfl ?_
            refine w_dupr (p := 89) (q179 88) rfl ?_
            refine w_gI (p := 92) (j := 31) (v := (zz s9 56 31)) (q179 89) rfl (r56 hB) (by decide) (iv_zz s9 56 31) ?_
            refine w_ic (p := 93) (q179 92) rfl ?_
            refine w_add (p := 94) (q179 93) rfl ?_
            refine w_pI (p := 97) (j := 31) (q179 94) rfl (r56 hB) (by decide) rfl ?_
            refine w_aln (p := 98) (q179 97) rfl rfl ?_
            refine w_ic (p := 99) (q179 98) rfl ?_
            refine w_call (st := []) (as := [.ref 56, iv 5]) (as' := [iv 5, .ref 56]) (p := 102) (q179 99) rfl m166 (by decide) (a_ok_i rfl (r56 hB) rfl) rfl rfl (Nat.le_of_ble_eq_true rfl) (by omega) rfl rfl (a_W.imp w ?_)
            rintro _ ⟨s16, l17, rfl, w⟩
            refine ⟨none, _, rfl, ?_⟩
            show a_W _ 179 102 [.ref 56, iv v3, iv 1, .retAddr 0, .retAddr 0] [] (mkH B s16 l17) _
            refine w_aln (p := 103) (q179 102) rfl rfl ?_
            refine w_iln (p := 104) (q179 103) rfl rfl ?_
            refine w_bp (p := 106) (q179 104) rfl (by decide) ?_
            by_cases c18 : v3 ≠ 9
            · replace w := w.1 c18
              refine w_i2t (q179 106) h5 (by decide) c18 ?_
              refine w_iln (p := 115) (q179 114) rfl rfl ?_
              refine w_bp (p := 117) (q179 115) rfl (by decide) ?_
              by_cases c19 : v3 ≠ 10
              · replace w := w.1 c19
                refine w_i2t (q179 117) h5 (by decide) c19 ?_
                refine w_iln (p := 126) (q179 125) rfl rfl ?_
                refine w_bp (p := 128) (q179 126) rfl (by decide) ?_
                by_cases c20 : v3 ≠ 11
                · replace w := w.1 c20
                  refine w_i2t (q179 128) h5 (by decide) c20 ?_
                  refine w_ic (p := 137) (q179 136) rfl ?_
                  refine w_ic (p := 138) (q179 137) rfl ?_
                  refine w_call (st := []) (as := [.ref 56, iv 3, iv 0]) (as' := [iv 0, iv 3, .ref 56]) (p := 141) (q179 138) rfl m173 (by decide) (a_ok_i rfl (r56 hB) rfl) rfl rfl (Nat.le_of_ble_eq_true rfl) (by omega) rfl rfl (a_W.imp w ?_)
                  rintro _ ⟨v23, s21, l22, rfl, w⟩
                  refine ⟨some (iv v23), _, rfl, ?_⟩
                  show a_W _ 179 141 [.ref 56, iv v3, iv 1, .retAddr 0, .retAddr 0] [iv v23] (mkH B s21 l22) _
                  exact w_ret (q179 141) rfl w
                · replace w := w.2 (Decidable.not_not.mp c20)
                  refine w_i2f (p := 131) (q179 128) rfl h5 (by decide) c20 ?_
                  refine w_bp (p := 133) (q179 131) rfl (by decide) ?_
                  refine w_goto (q179 133) ?_
                  refine w_ic (p := 138) (q179 137) rfl ?_
                  refine w_call (st := []) (as := [.ref 56, iv 9, iv 0]) (as' := [iv 0, iv 9, .ref 56]) (p := 141) (q179 138) rfl m173 (by decide) (a_ok_i rfl (r56 hB) rfl) rfl rfl (Nat.le_of_ble_eq_true rfl) (by omega) rfl rfl (a_W.imp w ?_)
                  rintro _ ⟨v26, s24, l25, rfl, w⟩
                  refine ⟨some (iv v26), _, rfl, ?_⟩
                  show a_W _ 179 141 [.ref 56, iv v3, iv 1, .retAddr 0, .retAddr 0] [iv v26] (mkH B s24 l25) _
                  exact w_ret (q179 141) rfl w
              · replace w := w.2 (Decidable.not_not.mp c19)
                refine w_i2f (p := 120) (q179 117) rfl h5 (by decide) c19 ?_
                refine w_bp (p := 122) (q179 120) rfl (by decide) ?_
                refine w_goto (q179 122) ?_
                refine w_ic (p := 138) (q179 137) rfl ?_
                refine w_call (st := []) (as := [.ref 56, iv 8, iv 0]) (as' := [iv 0, iv 8, .ref 56]) (p := 141) (q179 138) rfl m173 (by decide) (a_ok_i rfl (r56 hB) rfl) rfl rfl (Nat.le_of_ble_eq_true rfl) (by omega) rfl rfl (a_W.imp w ?_)
                rintro _ ⟨v29, s27, l28, rfl, w⟩
                refine ⟨some (iv v29), _, rfl, ?_⟩
                show a_W _ 179 141 [.ref 56, iv v3, iv 1, .retAddr 0, .retAddr 0] [iv v29] (mkH B s27 l28) _
                exact w_ret (q179 141) rfl w
            · replace w := w.2 (Decidable.not_not.mp c18)
              refine w_i2f (p := 109) (q179 106) rfl h5 (by decide) c18 ?_
              refine w_bp (p := 111) (q179 109) rfl (by decide) ?_
              refine w_goto (q179 111) ?_
              refine w_ic (p := 138) (q179 137) rfl ?_
              refine w_call (st := []) (as := [.ref 56, iv 7, iv 0]) (as' := [iv 0, iv 7, .ref 56]) (p := 141) (q179 138) rfl m173 (by decide) (a_ok_i rfl (r56 hB) rfl) rfl rfl (Nat.le_of_ble_eq_true rfl) (by omega) rfl rfl (a_W.imp w ?_)
              rintro _ ⟨v32, s30, l31, rfl, w⟩
              refine ⟨some (iv v32), _, rfl, ?_⟩
              show a_W _ 179 141 [.ref 56, iv v3, iv 1, .retAddr 0, .retAddr 0] [iv v32] (mkH B s30 l31) _
              exact w_ret (q179 141) rfl w
        · replace w := w.2 c8
          refine w_i1f (p := 40) (q179 37) rfl (inR_z180 _) c8 ?_
          refine w_aln (p := 41) (q179 40) rfl rfl ?_
          refine w_dupr (p := 42) (q179 41) rfl ?_
          refine w_gI (p := 45) (j := 31) (v := (zz s1 56 31)) (q179 42) rfl (r56 hB) (by decide) (iv_zz s1 56 31) ?_
          refine w_ic (p := 46) (q179 45) rfl ?_
          refine w_add (p := 47) (q179 46) rfl ?_
          refine w_pI (p := 50) (j := 31) (q179 47) rfl (r56 hB) (by decide) rfl ?_
          refine w_aln (p := 51) (q179 50) rfl rfl ?_
          refine w_ic (p := 52) (q179 51) rfl ?_
          refine w_call (st := []) (as := [.ref 56, iv 5]) (as' := [iv 5, .ref 56]) (p := 55) (q179 52) rfl m166 (by decide) (a_ok_i rfl (r56 hB) rfl) rfl rfl (Nat.le_of_ble_eq_true rfl) (by omega) rfl rfl (a_W.imp w ?_)
          rintro _ ⟨s33, l34, rfl, w⟩
          refine ⟨none, _, rfl, ?_⟩
          show a_W _ 179 55 [.ref 56, iv v3, iv 1, .retAddr 0, .retAddr 0] [] (mkH B s33 l34) _
          refine w_aln (p := 56) (q179 55) rfl rfl ?_
          refine w_ic (p := 57) (q179 56) rfl ?_
          refine w_ic (p := 58) (q179 57) rfl ?_
          refine w_iln (p := 59) (q179 58) rfl rfl ?_
          refine w_ic (p := 60) (q179 59) rfl ?_
          refine w_ic (p := 61) (q179 60) rfl ?_
          refine w_ic (p := 62) (q179 61) rfl ?_
          refine w_call (st := []) (as := [.ref 56, iv 1, iv (-1), iv v3, iv (-1), iv 1, iv 1]) (as' := [iv 1, iv 1, iv (-1), iv v3, iv (-1), iv 1, .ref 56]) (p := 65) (q179 62) rfl m172 (by decide) (a_ok_i rfl (r56 hB) rfl) rfl rfl (Nat.le_of_ble_eq_true rfl) (by omega) rfl rfl (a_W.imp w ?_)
          rintro _ ⟨v37, s35, l36, rfl, w⟩
          refine ⟨some (iv v37), _, rfl, ?_⟩
          show a_W _ 179 65 [.ref 56, iv v3, iv 1, .retAddr 0, .retAddr 0] [iv v37] (mkH B s35 l36) _
          exact w_ret (q179 65) rfl w
  · replace w := w.2 (Int.not_le.mp c4)
    refine w_i1f (p := 13) (q179 10) rfl (inR_zz _ _ _) c4 ?_
    refine w_ic (p := 14) (q179 13) rfl ?_
    exact w_ret (q179 14) rfl w
set_option maxRecDepth 10000 in
theorem w179_31 {d : Nat} {B : aH} {Q : aR → Prop} (hB : a_Can B) (hd : 1 ≤ d) (x1 : Int) (s : Nat → Nat → Int32) (l : Nat → Nat → Int64) (w : (inR x1 ∧ (((z180 x1) = 0 → a_W d 179 142 [.ref 56, iv x1, iv 0, .retAddr 0, .retAddr 0] [] (mkH B s l) Q) ∧ ((z180 x1) ≠ 0 → a_W (d - 1) 166 0 [.ref 56, iv 5] [] (mkH B (zu s 56 31 ((zz s 56 31) + 2)) l) (fun r => ∃ (s3 : Nat → Nat → Int32) (l4 : Nat → Nat → Int64), r = (.inl none, mkH B s3 l4) ∧ a_W (d - 1) 172 0 [.ref 56, iv 1, iv (-1), iv x1, iv (-1), iv 1, iv 1] [] (mkH B s3 l4) (fun r => ∃ (v7 : Int) (s5 : Nat → Nat → Int32) (l6 : Nat → Nat → Int64), r = (.inl (some (iv v7)), mkH B s5 l6) ∧ Q (.inl (some (iv v7)), (mkH B s5 l6)))))))) : a_W d 179 31 [.ref 56, iv x1, .retAddr 0, .retAddr 0, .retAddr 0] [] (mkH B s l) Q := by
  refine w_ic (p := 32) (q179 31) rfl ?_
  refine w_isn (p := 33) (ls' := [.ref 56, iv x1, iv 0, .retAddr 0, .retAddr 0]) (q179 32) rfl (Nat.le_of_ble_eq_true rfl) rfl ?_
  refine w_iln (p := 34) (q179 33) rfl rfl ?_
  obtain ⟨h1, w⟩ := w
  refine w_call (st := []) (as := [iv x1]) (as' := [iv x1]) (p := 37) (q179 34) rfl m180 (by decide) (a_ok_s rfl rfl) rfl rfl (Nat.le_of_ble_eq_true rfl) (by omega) rfl rfl (a_W.imp (p180 hB x1 _ _ h1) ?_)
  rintro _ rfl
  refine ⟨_, _, rfl, ?_⟩
  show a_W _ 179 37 [.ref 56, iv x1, iv 0, .retAddr 0, .retAddr 0] [iv (z180 x1)] _ _
  by_cases c2 : (z180 x1) = 0
  · replace w := w.1 c2
    refine w_i1t (q179 37) (inR_z180 _) c2 ?_
    refine w_iln (p := 67) (q179 66) rfl rfl ?_
    refine w_i1t (q179 67) (by decide) (show zc _ _ _ by unfold zc; omega) ?_
    exact w
  · replace w := w.2 c2
    refine w_i1f (p := 40) (q179 37) rfl (inR_z180 _) c2 ?_
    refine w_aln (p := 41) (q179 40) rfl rfl ?_
    refine w_dupr (p := 42) (q179 41) rfl ?_
    refine w_gI (p := 45) (j := 31) (v := (zz s 56 31)) (q179 42) rfl (r56 hB) (by decide) (iv_zz s 56 31) ?_
    refine w_ic (p := 46) (q179 45) rfl ?_
    refine w_add (p := 47) (q179 46) rfl ?_
    refine w_pI (p := 50) (j := 31) (q179 47) rfl (r56 hB) (by decide) rfl ?_
    refine w_aln (p := 51) (q179 50) rfl rfl ?_
    refine w_ic (p := 52) (q179 51) rfl ?_
    refine w_call (st := []) (as := [.ref 56, iv 5]) (as' := [iv 5, .ref 56]) (p := 55) (q179 52) rfl m166 (by decide) (a_ok_i rfl (r56 hB) rfl) rfl rfl (Nat.le_of_ble_eq_true rfl) (by omega) rfl rfl (a_W.imp w ?_)
    rintro _ ⟨s3, l4, rfl, w⟩
    refine ⟨none, _, rfl, ?_⟩
    show a_W _ 179 55 [.ref 56, iv x1, iv 0, .retAddr 0, .retAddr 0] [] (mkH B s3 l4) _
    refine w_aln (p := 56) (q179 55) rfl rfl ?_
    refine w_ic (p := 57) (q179 56) rfl ?_
    refine w_ic (p := 58) (q179 57) rfl ?_
    refine w_iln (p := 59) (q179 58) rfl rfl ?_
    refine w_ic (p := 60) (q179 59) rfl ?_
    refine w_ic (p := 61) (q179 60) rfl ?_
    refine w_ic (p := 62) (q179 61) rfl ?_
    refine w_call (st := []) (as := [.ref 56, iv 1, iv (-1), iv x1, iv (-1), iv 1, iv 1]) (as' := [iv 1, iv 1, iv (-1), iv x1, iv (-1), iv 1, .ref 56]) (p := 65) (q179 62) rfl m172 (by decide) (a_ok_i rfl (r56 hB) rfl) rfl rfl (Nat.le_of_ble_eq_true rfl) (by omega) rfl rfl (a_W.imp w ?_)
    rintro _ ⟨v7, s5, l6, rfl, w⟩
    refine ⟨some (iv v7), _, rfl, ?_⟩
    show a_W _ 179 65 [.ref 56, iv x1, iv 0, .retAddr 0, .retAddr 0] [iv v7] (mkH B s5 l6) _
    exact w_ret (q179 65) rfl w
set_option maxRecDepth 10000 in
theorem w179_142 {d : Nat} {B : aH} {Q : aR → Prop} (hB : a_Can B) (hd : 1 ≤ d) (x1 x2 : Int) (s : Nat → Nat → Int32) (l : Nat → Nat → Int64) (w : a_W (d - 1) 164 0 [.ref 56] [] (mkH B (zu s 56 31 ((zz s 56 31) + 1)) l) (fun r => ∃ (s1 : Nat → Nat → Int32) (l2 : Nat → Nat → Int64), r = (.inl none, mkH B s1 l2) ∧ (((zz s1 56 22) ≤ 0 → a_W (d - 1) 146 0 [.ref 56, .retAddr 0, .retAddr 0, .retAddr 0, .retAddr 0] [] (mkH B s1 l2) (fun r => ∃ (v6 : Int) (s4 : Nat → Nat → Int32) (l5 : Nat → Nat → Int64), r = (.inl (some (iv v6)), mkH B s4 l5) ∧ a_W (d - 1) 148 0 [.ref 56, iv 0, .retAddr 0] [] (mkH B s4 l5) (fun r => ∃ (v9 : Int) (s7 : Nat → Nat → Int32) (l8 : Nat → Nat → Int64), r = (.inl (some (iv v9)), mkH B s7 l8) ∧ (inR v9 ∧ ((v9 ≠ 7 → a_W d 179 238 [.ref 56, iv x1, iv x2, iv v6, .retAddr 0] [] (mkH B s7 l8) Q) ∧ (v9 = 7 → (((zz s7 56 22) ≠ 0 → a_W d 179 238 [.ref 56, iv x1, iv x2, iv v6, .retAddr 0] [] (mkH B s7 l8) Q) ∧ ((zz s7 56 22) = 0 → a_W (d - 1) 167 0 [.ref 56, .retAddr 0, .retAddr 0, .retAddr 0, .retAddr 0, .retAddr 0, .retAddr 0, .retAddr 0, .retAddr 0] [] (mkH B (zu s7 56 31 ((zz s7 56 31) + 1)) l8) (fun r => ∃ (v15 : Int) (s13 : Nat → Nat → Int32) (l14 : Nat → Nat → Int64), r = (.inl (some (iv v15)), mkH B s13 l14) ∧ (((zz s13 56 22) ≤ 0 → ((0 ≤ v6 ∧ v6 < 30100) ∧ a_W (d - 1) 172 0 [.ref 56, iv 5, iv v6, iv v15, iv (-1), iv (zz s13 86 v6.toNat), iv (zz s13 87 v6.toNat)] [] (mkH B s13 l14) (fun r => ∃ (v20 : Int) (s18 : Nat → Nat → Int32) (l19 : Nat → Nat → Int64), r = (.inl (some (iv v20)), mkH B s18 l19) ∧ a_W d 179 238 [.ref 56, iv x1, iv x2, iv v20, iv v15] [] (mkH B s18 l19) Q))) ∧ (0 < (zz s13 56 22) → a_W d 179 238 [.ref 56, iv x1, iv x2, iv 0, iv v15] [] (mkH B s13 l14) Q))))))))))) ∧ (0 < (zz s1 56 22) → a_W (d - 1) 148 0 [.ref 56, iv 0, .retAddr 0] [] (mkH B s1 l2) (fun r => ∃ (v23 : Int) (s21 : Nat → Nat → Int32) (l22 : Nat → Nat → Int64), r = (.inl (some (iv v23)), mkH B s21 l22) ∧ (inR v23 ∧ ((v23 ≠ 7 → a_W d 179 238 [.ref 56, iv x1, iv x2, iv 0, .retAddr 0] [] (mkH B s21 l22) Q) ∧ (v23 = 7 → (((zz s21 56 22) ≠ 0 → a_W d 179 238 [.ref 56, iv x1, iv x2, iv 0, .retAddr 0] [] (mkH B s21 l22) Q) ∧ ((zz s21 56 22) = 0 → a_W (d - 1) 167 0 [.ref 56, .retAddr 0, .retAddr 0, .retAddr 0, .retAddr 0, .retAddr 0, .retAddr 0, .retAddr 0, .retAddr 0] [] (mkH B (zu s21 56 31 ((zz s21 56 31) + 1)) l22) (fun r => ∃ (v29 : Int) (s27 : Nat → Nat → Int32) (l28 : Nat → Nat → Int64), r = (.inl (some (iv v29)), mkH B s27 l28) ∧ (((zz s27 56 22) ≤ 0 → a_W (d - 1) 172 0 [.ref 56, iv 5, iv 0, iv v29, iv (-1), iv (zz s27 86 0), iv (zz s27 87 0)] [] (mkH B s27 l28) (fun r => ∃ (v33 : Int) (s31 : Nat → Nat → Int32) (l32 : Nat → Nat → Int64), r = (.inl (some (iv v33)), mkH B s31 l32) ∧ a_W d 179 238 [.ref 56, iv x1, iv x2, iv v33, iv v29] [] (mkH B s31 l32) Q)) ∧ (0 < (zz s27 56 22) → a_W d 179 238 [.ref 56, iv x1, iv x2, iv 0, iv v29] [] (mkH B s27 l28) Q))))))))))))) : a_W d 179 142 [.ref 56, iv x1, iv x2, .retAddr 0, .retAddr 0] [] (mkH B s l) Q := by
  refine w_aln (p := 143) (q179 142) rfl rfl ?_
  refine w_dupr (p := 144) (q179 143) rfl ?_
  refine w_gI (p := 147) (j := 31) (v := (zz s 56 31)) (q179 144) rfl (r56 hB) (by decide) (iv_zz s 56 31) ?_
  refine w_ic (p := 148) (q179 147) rfl ?_
  refine w_add (p := 149) (q179 148) rfl ?_
  refine w_pI (p := 152) (j := 31) (q179 149) rfl (r56 hB) (by decide) rfl ?_
  refine w_aln (p := 153) (q179 152) rfl rfl ?_
  refine w_call (st := []) (as := [.ref 56]) (as' := [.ref 56]) (p := 156) (q179 153) rfl m164 (by decide) (a_ok_i rfl (r56 hB) rfl) rfl rfl (Nat.le_of_ble_eq_true rfl) (by omega) rfl rfl (a_W.imp w ?_)
  rintro _ ⟨s1, l2, rfl, w⟩
  refine ⟨none, _, rfl, ?_⟩
  show a_W _ 179 156 [.ref 56, iv x1, iv x2, .retAddr 0, .retAddr 0] [] (mkH B s1 l2) _
  refine w_aln (p := 157) (q179 156) rfl rfl ?_
  refine w_gI (p := 160) (j := 22) (v := (zz s1 56 22)) (q179 157) rfl (r56 hB) (by decide) (iv_zz s1 56 22) ?_
  by_cases c3 : (zz s1 56 22) ≤ 0
  · replace w := w.1 c3
    refine w_i1t (q179 160) (inR_zz _ _ _) c3 ?_
    refine w_aln (p := 168) (q179 167) rfl rfl ?_
    refine w_call (st := []) (as := [.ref 56]) (as' := [.ref 56]) (p := 171) (q179 168) rfl m146 (by decide) (a_ok_i rfl (r56 hB) rfl) rfl rfl (Nat.le_of_ble_eq_true rfl) (by omega) rfl rfl (a_W.imp w ?_)
    rintro _ ⟨v6, s4, l5, rfl, w⟩
    refine ⟨some (iv v6), _, rfl, ?_⟩
    show a_W _ 179 171 [.ref 56, iv x1, iv x2, .retAddr 0, .retAddr 0] [iv v6] (mkH B s4 l5) _
    refine w_isn (p := 172) (ls' := [.ref 56, iv x1, iv x2, iv v6, .retAddr 0]) (q179 171) rfl (Nat.le_of_ble_eq_true rfl) rfl ?_
    refine w_aln (p := 173) (q179 172) rfl rfl ?_
    refine w_ic (p := 174) (q179 173) rfl ?_
    refine w_call (st := []) (as := [.ref 56, iv 0]) (as' := [iv 0, .ref 56]) (p := 177) (q179 174) rfl m148 (by decide) (a_ok_i rfl (r56 hB) rfl) rfl rfl (Nat.le_of_ble_eq_true rfl) (by omega) rfl rfl (a_W.imp w ?_)
    rintro _ ⟨v9, s7, l8, rfl, w⟩
    refine ⟨some (iv v9), _, rfl, ?_⟩
    show a_W _ 179 177 [.ref 56, iv x1, iv x2, iv v6, .retAddr 0] [iv v9] (mkH B s7 l8) _
    refine w_bp (p := 179) (q179 177) rfl (by decide) ?_
    obtain ⟨h10, w⟩ := w
    by_cases c11 : v9 ≠ 7
    · replace w := w.1 c11
      refine w_i2t (q179 179) h10 (by decide) c11 ?_
      exact w
    · replace w := w.2 (Decidable.not_not.mp c11)
      refine w_i2f (p := 182) (q179 179) rfl h10 (by decide) c11 ?_
      refine w_aln (p := 183) (q179 182) rfl rfl ?_
      refine w_gI (p := 186) (j := 22) (v := (zz s7 56 22)) (q179 183) rfl (r56 hB) (by decide) (iv_zz s7 56 22) ?_
      by_cases c12 : (zz s7 56 22) ≠ 0
      · replace w := w.1 c12
        refine w_i1t (q179 186) (inR_zz _ _ _) c12 ?_
        exact w
      · replace w := w.2 (Decidable.not_not.mp c12)
        refine w_i1f (p := 189) (q179 186) rfl (inR_zz _ _ _) c12 ?_
        refine w_aln (p := 190) (q179 189) rfl rfl ?_
        refine w_dupr (p := 191) (q179 190) rfl ?_
        refine w_gI (p := 194) (j := 31) (v := (zz s7 56 31)) (q179 191) rfl (r56 hB) (by decide) (iv_zz s7 56 31) ?_
        refine w_ic (p := 195) (q179 194) rfl ?_
        refine w_add (p := 196) (q179 195) rfl ?_
        refine w_pI (p := 199) (j := 31) (q179 196) rfl (r56 hB) (by decide) rfl ?_
        refine w_aln (p := 200) (q179 199) rfl rfl ?_
        refine w_call (st := []) (as := [.ref 56]) (as' := [.ref 56]) (p := 203) (q179 200) rfl m167 (by decide) (a_ok_i rfl (r56 hB) rfl) rfl rfl (Nat.le_of_ble_eq_true rfl) (by omega) rfl rfl (a_W.imp w ?_)
        rintro _ ⟨v15, s13, l14, rfl, w⟩
        refine ⟨some (iv v15), _, rfl, ?_⟩
        show a_W _ 179 203 [.ref 56, iv x1, iv x2, iv v6, .retAddr 0] [iv v15] (mkH B s13 l14) _
        refine w_is (p := 205) (ls' := [.ref 56, iv x1, iv x2, iv v6, iv v15]) (q179 203) rfl (Nat.le_of_ble_eq_true rfl) rfl ?_
        refine w_aln (p := 206) (q179 205) rfl rfl ?_
        refine w_gI (p := 209) (j := 22) (v := (zz s13 56 22)) (q179 206) rfl (r56 hB) (by decide) (iv_zz s13 56 22) ?_
        by_cases c16 : (zz s13 56 22) ≤ 0
        · replace w := w.1 c16
          refine w_i1t (q179 209) (inR_zz _ _ _) c16 ?_
          refine w_aln (p := 217) (q179 216) rfl rfl ?_
          refine w_ic (p := 218) (q179 217) rfl ?_
          refine w_iln (p := 219) (q179 218) rfl rfl ?_
          refine w_il (p := 221) (q179 219) rfl rfl ?_
          refine w_ic (p := 222) (q179 221) rfl ?_
          refine w_aln (p := 223) (q179 222) rfl rfl ?_
          refine w_gR (p := 226) (j := 46) (v := 86) (q179 223) rfl (r56 hB) (by decide) (f56_46 hB) ?_
          refine w_iln (p := 227) (q179 226) rfl rfl ?_
          obtain ⟨o17, w⟩ := w
          refine w_ia (p := 228) (v := (zz s13 86 v6.toNat)) (q179 227) rfl (r86 hB) (by decide) o17 (iv_zz s13 86 v6.toNat) ?_
          refine w_aln (p := 229) (q179 228) rfl rfl ?_
          refine w_gR (p := 232) (j := 47) (v := 87) (q179 229) rfl (r56 hB) (by decide) (f56_47 hB) ?_
          refine w_iln (p := 233) (q179 232) rfl rfl ?_
          refine w_ia (p := 234) (v := (zz s13 87 v6.toNat)) (q179 233) rfl (r87 hB) (by decide) o17 (iv_zz s13 87 v6.toNat) ?_
          refine w_call (st := []) (as := [.ref 56, iv 5, iv v6, iv v15, iv (-1), iv (zz s13 86 v6.toNat), iv (zz s13 87 v6.toNat)]) (as' := [iv (zz s13 87 v6.toNat), iv (zz s13 86 v6.toNat), iv (-1), iv v15, iv v6, iv 5, .ref 56]) (p := 237) (q179 234) rfl m172 (by decide) (a_ok_i rfl (r56 hB) rfl) rfl rfl (Nat.le_of_ble_eq_true rfl) (by omega) rfl rfl (a_W.imp w ?_)
          rintro _ ⟨v20, s18, l19, rfl, w⟩
          refine ⟨some (iv v20), _, rfl, ?_⟩
          show a_W _ 179 237 [.ref 56, iv x1, iv x2, iv v6, iv v15] [iv v20] (mkH B s18 l19) _
          refine w_isn (p := 238) (ls' := [.ref 56, iv x1, iv x2, iv v20, iv v15]) (q179 237) rfl (Nat.le_of_ble_eq_true rfl) rfl ?_
          exact w
        · replace w := w.2 (Int.not_le.mp c16)
          refine w_i1f (p := 212) (q179 209) rfl (inR_zz _ _ _) c16 ?_
          refine w_ic (p := 213) (q179 212) rfl ?_
          refine w_goto (q179 213) ?_
          refine w_isn (p := 238) (ls' := [.ref 56, iv x1, iv x2, iv 0, iv v15]) (q179 237) rfl (Nat.le_of_ble_eq_true rfl) rfl ?_
          exact w
  · replace w := w.2 (Int.not_le.mp c3)
    refine w_i1f (p := 163) (q179 160) rfl (inR_zz _ _ _) c3 ?_
    refine w_ic (p := 164) (q179 163) rfl ?_
    refine w_goto (q179 164) ?_
    refine w_isn (p := 172) (ls' := [.ref 56, iv x1, iv x2, iv 0, .retAddr 0]) (q179 171) rfl (Nat.le_of_ble_eq_true rfl) rfl ?_
    refine w_aln (p := 173) (q179 172) rfl rfl ?_
    refine w_ic (p := 174) (q179 173) rfl ?_
    refine w_call (st := []) (as := [.ref 56, iv 0]) (as' := [iv 0, .ref 56]) (p := 177) (q179 174) rfl m148 (by decide) (a_ok_i rfl (r56 hB) rfl) rfl rfl (Nat.le_of_ble_eq_true rfl) (by omega) rfl rfl (a_W.imp w ?_)
    rintro _ ⟨v23, s21, l22, rfl, w⟩
    refine ⟨some (iv v23), _, rfl, ?_⟩
    show a_W _ 179 177 [.ref 56, iv x1, iv x2, iv 0, .retAddr 0] [iv v23] (mkH B s21 l22) _
    refine w_bp (p := 179) (q179 177) rfl (by decide) ?_
    obtain ⟨h24, w⟩ := w
    by_cases c25 : v23 ≠ 7
    · replace w := w.1 c25
      refine w_i2t (q179 179) h24 (by decide) c25 ?_
      exact w
    · replace w := w.2 (Decidable.not_not.mp c25)
      refine w_i2f (p := 182) (q179 179) rfl h24 (by decide) c25 ?_
      refine w_aln (p := 183) (q179 182) rfl rfl ?_
      refine w_gI (p := 186) (j := 22) (v := (zz s21 56 22)) (q179 183) rfl (r56 hB) (by decide) (iv_zz s21 56 22) ?_
      by_cases c26 : (zz s21 56 22) ≠ 0
      · replace w := w.1 c26
        refine w_i1t (q179 186) (inR_zz _ _ _) c26 ?_
        exact w
      · replace w := w.2 (Decidable.not_not.mp c26)
        refine w_i1f (p := 189) (q179 186) rfl (inR_zz _ _ _) c26 ?_
        refine w_aln (p := 190) (q179 189) rfl rfl ?_
        refine w_dupr (p := 191) (q179 190) rfl ?_
        refine w_gI (p := 194) (j := 31) (v := (zz s21 56 31)) (q179 191) rfl (r56 hB) (by decide) (iv_zz s21 56 31) ?_
        refine w_ic (p := 195) (q179 194) rfl ?_
        refine w_add (p := 196) (q179 195) rfl ?_
        refine w_pI (p := 199) (j := 31) (q179 196) rfl (r56 hB) (by decide) rfl ?_
        refine w_aln (p := 200) (q179 199) rfl rfl ?_
        refine w_call (st := []) (as := [.ref 56]) (as' := [.ref 56]) (p := 203) (q179 200) rfl m167 (by decide) (a_ok_i rfl (r56 hB) rfl) rfl rfl (Nat.le_of_ble_eq_true rfl) (by omega) rfl rfl (a_W.imp w ?_)
        rintro _ ⟨v29, s27, l28, rfl, w⟩
        refine ⟨some (iv v29), _, rfl, ?_⟩
        show a_W _ 179 203 [.ref 56, iv x1, iv x2, iv 0, .retAddr 0] [iv v29] (mkH B s27 l28) _
        refine w_is (p := 205) (ls' := [.ref 56, iv x1, iv x2, iv 0, iv v29]) (q179 203) rfl (Nat.le_of_ble_eq_true rfl) rfl ?_
        refine w_aln (p := 206) (q179 205) rfl rfl ?_
        refine w_gI (p := 209) (j := 22) (v := (zz s27 56 22)) (q179 206) rfl (r56 hB) (by decide) (iv_zz s27 56 22) ?_
        by_cases c30 : (zz s27 56 22) ≤ 0
        · replace w := w.1 c30
          refine w_i1t (q179 209) (inR_zz _ _ _) c30 ?_
          refine w_aln (p := 217) (q179 216) rfl rfl ?_
          refine w_ic (p := 218) (q179 217) rfl ?_
          refine w_iln (p := 219) (q179 218) rfl rfl ?_
          refine w_il (p := 221) (q179 219) rfl rfl ?_
          refine w_ic (p := 222) (q179 221) rfl ?_
          refine w_aln (p := 223) (q179 222) rfl rfl ?_
          refine w_gR (p := 226) (j := 46) (v := 86) (q179 223) rfl (r56 hB) (by decide) (f56_46 hB) ?_
          refine w_iln (p := 227) (q179 226) rfl rfl ?_
          refine w_ia (p := 228) (v := (zz s27 86 0)) (q179 227) rfl (r86 hB) (by decide) (by decide) (iv_zz s27 86 0) ?_
          refine w_aln (p := 229) (q179 228) rfl rfl ?_
          refine w_gR (p := 232) (j := 47) (v := 87) (q179 229) rfl (r56 hB) (by decide) (f56_47 hB) ?_
          refine w_iln (p := 233) (q179 232) rfl rfl ?_
          refine w_ia (p := 234) (v := (zz s27 87 0)) (q179 233) rfl (r87 hB) (by decide) (by decide) (iv_zz s27 87 0) ?_
          refine w_call (st := []) (as := [.ref 56, iv 5, iv 0, iv v29, iv (-1), iv (zz s27 86 0), iv (zz s27 87 0)]) (as' := [iv (zz s27 87 0), iv (zz s27 86 0), iv (-1), iv v29, iv 0, iv 5, .ref 56]) (p := 237) (q179 234) rfl m172 (by decide) (a_ok_i rfl (r56 hB) rfl) rfl rfl (Nat.le_of_ble_eq_true rfl) (by omega) rfl rfl (a_W.imp w ?_)
          rintro _ ⟨v33, s31, l32, rfl, w⟩
          refine ⟨some (iv v33), _, rfl, ?_⟩
          show a_W _ 179 237 [.ref 56, iv x1, iv x2, iv 0, iv v29] [iv v33] (mkH B s31 l32) _
          refine w_isn (p := 238) (ls' := [.ref 56, iv x1, iv x2, iv v33, iv v29]) (q179 237) rfl (Nat.le_of_ble_eq_true rfl) rfl ?_
          exact w
        · replace w := w.2 (Int.not_le.mp c30)
          refine w_i1f (p := 212) (q179 209) rfl (inR_zz _ _ _) c30 ?_
          refine w_ic (p := 213) (q179 212) rfl ?_
          refine w_goto (q179 213) ?_
          refine w_isn (p := 238) (ls' := [.ref 56, iv x1, iv x2, iv 0, iv v29]) (q179 237) rfl (Nat.le_of_ble_eq_true rfl) rfl ?_
          exact w
set_option maxRecDepth 10000 in
theorem w179_238 {d : Nat} {B : aH} {Q : aR → Prop} (hB : a_Can B) (hd : 1 ≤ d) (x1 x2 x3 : Int) (u4 : Value) (s : Nat → Nat → Int32) (l : Nat → Nat → Int64) (w : a_W (d - 1) 166 0 [.ref 56, iv 5] [] (mkH B s l) (fun r => ∃ (s1 : Nat → Nat → Int32) (l2 : Nat → Nat → Int64), r = (.inl none, mkH B s1 l2) ∧ Q (.inl (some (iv x3)), (mkH B (zu s1 56 32 ((zz s1 56 32) - 1)) l2)))) : a_W d 179 238 [.ref 56, iv x1, iv x2, iv x3, u4] [] (mkH B s l) Q := by
  refine w_aln (p := 239) (q179 238) rfl rfl ?_
  refine w_ic (p := 240) (q179 239) rfl ?_
  refine w_call (st := []) (as := [.ref 56, iv 5]) (as' := [iv 5, .ref 56]) (p := 243) (q179 240) rfl m166 (by decide) (a_ok_i rfl (r56 hB) rfl) rfl rfl (Nat.le_of_ble_eq_true rfl) (by omega) rfl rfl (a_W.imp w ?_)
  rintro _ ⟨s1, l2, rfl, w⟩
  refine ⟨none, _, rfl, ?_⟩
  show a_W _ 179 243 [.ref 56, iv x1, iv x2, iv x3, u4] [] (mkH B s1 l2) _
  refine w_aln (p := 244) (q179 243) rfl rfl ?_
  refine w_dupr (p := 245) (q179 244) rfl ?_
  refine w_gI (p := 248) (j := 32) (v := (zz s1 56 32)) (q179 245) rfl (r56 hB) (by decide) (iv_zz s1 56 32) ?_
  refine w_ic (p := 249) (q179 248) rfl ?_
  refine w_sub (p := 250) (q179 249) rfl ?_
  refine w_pI (p := 253) (j := 32) (q179 250) rfl (r56 hB) (by decide) rfl ?_
  refine w_iln (p := 254) (q179 253) rfl rfl ?_
  exact w_ret (q179 254) rfl w
theorem w163_0 {d : Nat} {B : aH} {Q : aR → Prop} (hB : a_Can B) (hd : 1 ≤ d) (x1 : Int) (s : Nat → Nat → Int32) (l : Nat → Nat → Int64) (w : a_W (d - 1) 164 0 [.ref 56] [] (mkH B (zu s 56 31 ((zz s 56 31) + 1)) l) (fun r => ∃ (s1 : Nat → Nat → Int32) (l2 : Nat → Nat → Int64), r = (.inl none, mkH B s1 l2) ∧ a_W d 163 21 [.ref 56, iv x1, iv (zz s1 56 51), iv 1, .retAddr 0, .retAddr 0] [] (mkH B s1 l2) Q)) : a_W d 163 0 [.ref 56, iv x1, .retAddr 0, .retAddr 0, .retAddr 0, .retAddr 0] [] (mkH B s l) Q := by
  refine w_aln (p := 1) (q163 0) rfl rfl ?_
  refine w_dupr (p := 2) (q163 1) rfl ?_
  refine w_gI (p := 5) (j := 31) (v := (zz s 56 31)) (q163 2) rfl (r56 hB) (by decide) (iv_zz s 56 31) ?_
  refine w_ic (p := 6) (q163 5) rfl ?_
  refine w_add (p := 7) (q163 6) rfl ?_
  refine w_pI (p := 10) (j := 31) (q163 7) rfl (r56 hB) (by decide) rfl ?_
  refine w_aln (p := 11) (q163 10) rfl rfl ?_
  refine w_call (st := []) (as := [.ref 56]) (as' := [.ref 56]) (p := 14) (q163 11) rfl m164 (by decide) (a_ok_i rfl (r56 hB) rfl) rfl rfl (Nat.le_of_ble_eq_true rfl) (by omega) rfl rfl (a_W.imp w ?_)
  rintro _ ⟨s1, l2, rfl, w⟩
  refine ⟨none, _, rfl, ?_⟩
  show a_W _ 163 14 [.ref 56, iv x1, .retAddr 0, .retAddr 0, .retAddr 0, .retAddr 0] [] (mkH B s1 l2) _
  refine w_aln (p := 15) (q163 14) rfl rfl ?_
  refine w_gI (p := 18) (j := 51) (v := (zz s1 56 51)) (q163 15) rfl (r56 hB) (by decide) (iv_zz s1 56 51) ?_
  refine w_isn (p := 19) (ls' := [.ref 56, iv x1, iv (zz s1 56 51), .retAddr 0, .retAddr 0, .retAddr 0]) (q163 18) rfl (Nat.le_of_ble_eq_true rfl) rfl ?_
  refine w_ic (p := 20) (q163 19) rfl ?_
  refine w_isn (p := 21) (ls' := [.ref 56, iv x1, iv (zz s1 56 51), iv 1, .retAddr 0, .retAddr 0]) (q163 20) rfl (Nat.le_of_ble_eq_true rfl) rfl ?_
  exact w
theorem w163_21 {d : Nat} {B : aH} {Q : aR → Prop} (hB : a_Can B) (hd : 1 ≤ d) (x1 x2 x3 : Int) (u4 : Value) (s : Nat → Nat → Int32) (l : Nat → Nat → Int64) (w : (inR x3 ∧ ((x3 = 0 → a_W d 163 64 [.ref 56, iv x1, iv x2, iv x3, u4, .retAddr 0] [] (mkH B s l) Q) ∧ (x3 ≠ 0 → (((zz s 56 22) ≠ 0 → a_W d 163 64 [.ref 56, iv x1, iv x2, iv x3, u4, .retAddr 0] [] (mkH B s l) Q) ∧ ((zz s 56 22) = 0 → a_W (d - 1) 165 0 [.ref 56, .retAddr 0] [] (mkH B s l) (fun r => ∃ (s4 : Nat → Nat → Int32) (l5 : Nat → Nat → Int64), r = (.inl none, mkH B s4 l5) ∧ a_W (d - 1) 148 0 [.ref 56, iv 0, .retAddr 0] [] (mkH B s4 l5) (fun r => ∃ (v8 : Int) (s6 : Nat → Nat → Int32) (l7 : Nat → Nat → Int64), r = (.inl (some (iv v8)), mkH B s6 l7) ∧ (inR v8 ∧ ((v8 = 1 → a_W d 163 55 [.ref 56, iv x1, iv x2, iv x3, iv v8, .retAddr 0] [] (mkH B s6 l7) Q) ∧ (v8 ≠ 1 → ((v8 ≠ 4 → a_W d 163 21 [.ref 56, iv x1, iv x2, iv 0, iv v8, .retAddr 0] [] (mkH B s6 l7) Q) ∧ (v8 = 4 → a_W d 163 55 [.ref 56, iv x1, iv x2, iv x3, iv v8, .retAddr 0] [] (mkH B s6 l7) Q))))))))))))) : a_W d 163 21 [.ref 56, iv x1, iv x2, iv x3, u4, .retAddr 0] [] (mkH B s l) Q := by
  refine w_iln (p := 22) (q163 21) rfl rfl ?_
  obtain ⟨h1, w⟩ := w
  by_cases c2 : x3 = 0
  · replace w := w.1 c2
    refine w_i1t (q163 22) h1 c2 ?_
    exact w
  · replace w := w.2 c2
    refine w_i1f (p := 25) (q163 22) rfl h1 c2 ?_
    refine w_aln (p := 26) (q163 25) rfl rfl ?_
    refine w_gI (p := 29) (j := 22) (v := (zz s 56 22)) (q163 26) rfl (r56 hB) (by decide) (iv_zz s 56 22) ?_
    by_cases c3 : (zz s 56 22) ≠ 0
    · replace w := w.1 c3
      refine w_i1t (q163 29) (inR_zz _ _ _) c3 ?_
      exact w
    · replace w := w.2 (Decidable.not_not.mp c3)
      refine w_i1f (p := 32) (q163 29) rfl (inR_zz _ _ _) c3 ?_
      refine w_aln (p := 33) (q163 32) rfl rfl ?_
      refine w_call (st := []) (as := [.ref 56]) (as' := [.ref 56]) (p := 36) (q163 33) rfl m165 (by decide) (a_ok_i rfl (r56 hB) rfl) rfl rfl (Nat.le_of_ble_eq_true rfl) (by omega) rfl rfl (a_W.imp w ?_)
      rintro _ ⟨s4, l5, rfl, w⟩
      refine ⟨none, _, rfl, ?_⟩
      show a_W _ 163 36 [.ref 56, iv x1, iv x2, iv x3, u4, .retAddr 0] [] (mkH B s4 l5) _
      refine w_aln (p := 37) (q163 36) rfl rfl ?_
      refine w_ic (p := 38) (q163 37) rfl ?_
      refine w_call (st := []) (as := [.ref 56, iv 0]) (as' := [iv 0, .ref 56]) (p := 41) (q163 38) rfl m148 (by decide) (a_ok_i rfl (r56 hB) rfl) rfl rfl (Nat.le_of_ble_eq_true rfl) (by omega) rfl rfl (a_W.imp w ?_)
      rintro _ ⟨v8, s6, l7, rfl, w⟩
      refine ⟨some (iv v8), _, rfl, ?_⟩
      show a_W _ 163 41 [.ref 56, iv x1, iv x2, iv x3, u4, .retAddr 0] [iv v8] (mkH B s6 l7) _
      refine w_is (p := 43) (ls' := [.ref 56, iv x1, iv x2, iv x3, iv v8, .retAddr 0]) (q163 41) rfl (Nat.le_of_ble_eq_true rfl) rfl ?_
      refine w_il (p := 45) (q163 43) rfl rfl ?_
      refine w_ic (p := 46) (q163 45) rfl ?_
      obtain ⟨h9, w⟩ := w
      by_cases c10 : v8 = 1
      · replace w := w.1 c10
        refine w_i2t (q163 46) h9 (by decide) c10 ?_
        exact w
      · replace w := w.2 c10
        refine w_i2f (p := 49) (q163 46) rfl h9 (by decide) c10 ?_
        refine w_il (p := 51) (q163 49) rfl rfl ?_
        refine w_ic (p := 52) (q163 51) rfl ?_
        by_cases c11 : v8 ≠ 4
        · replace w := w.1 c11
          refine w_i2t (q163 52) h9 (by decide) c11 ?_
          refine w_ic (p := 60) (q163 59) rfl ?_
          refine w_isn (p := 61) (ls' := [.ref 56, iv x1, iv x2, iv 0, iv v8, .retAddr 0]) (q163 60) rfl (Nat.le_of_ble_eq_true rfl) rfl ?_
          refine w_goto (q163 61) ?_
          exact w
        · replace w := w.2 (Decidable.not_not.mp c11)
          refine w_i2f (p := 55) (q163 52) rfl h9 (by decide) c11 ?_
          exact w
theorem w163_55 {d : Nat} {B : aH} {Q : aR → Prop} (hB : a_Can B) (x1 x2 x3 x4 : Int) (s : Nat → Nat → Int32) (l : Nat → Nat → Int64) (w : a_W d 163 21 [.ref 56, iv x1, iv x2, iv 1, iv x4, .retAddr 0] [] (mkH B s l) Q) : a_W d 163 55 [.ref 56, iv x1, iv x2, iv x3, iv x4, .retAddr 0] [] (mkH B s l) Q := by
  refine w_ic (p := 56) (q163 55) rfl ?_
  refine w_goto (q163 56) ?_
  refine w_isn (p := 61) (ls' := [.ref 56, iv x1, iv x2, iv 1, iv x4, .retAddr 0]) (q163 60) rfl (Nat.le_of_ble_eq_true rfl) rfl ?_
  refine w_goto (q163 61) ?_
  exact w
theorem w163_64 {d : Nat} {B : aH} {Q : aR → Prop} (hB : a_Can B) (hd : 1 ≤ d) (x1 x2 x3 : Int) (u4 : Value) (s : Nat → Nat → Int32) (l : Nat → Nat → Int64) (w : a_W (d - 1) 166 0 [.ref 56, iv 6] [] (mkH B s l) (fun r => ∃ (s1 : Nat → Nat → Int32) (l2 : Nat → Nat → Int64), r = (.inl none, mkH B s1 l2) ∧ (((zz s1 56 22) ≤ 0 → a_W (d - 1) 146 0 [.ref 56, .retAddr 0, .retAddr 0, .retAddr 0, .retAddr 0] [] (mkH B s1 l2) (fun r => ∃ (v6 : Int) (s4 : Nat → Nat → Int32) (l5 : Nat → Nat → Int64), r = (.inl (some (iv v6)), mkH B s4 l5) ∧ a_W d 163 103 [.ref 56, iv x1, iv x2, iv x3, iv (zz s1 56 51), iv v6] [] (mkH B (zu s4 56 32 ((zz s4 56 32) - 1)) l5) Q)) ∧ (0 < (zz s1 56 22) → a_W d 163 103 [.ref 56, iv x1, iv x2, iv x3, iv (zz s1 56 51), iv 0] [] (mkH B (zu s1 56 32 ((zz s1 56 32) - 1)) l2) Q)))) : a_W d 163 64 [.ref 56, iv x1, iv x2, iv x3, u4, .retAddr 0] [] (mkH B s l) Q := by
  refine w_aln (p := 65) (q163 64) rfl rfl ?_
  refine w_bp (p := 67) (q163 65) rfl (by decide) ?_
  refine w_call (st := []) (as := [.ref 56, iv 6]) (as' := [iv 6, .ref 56]) (p := 70) (q163 67) rfl m166 (by decide) (a_ok_i rfl (r56 hB) rfl) rfl rfl (Nat.le_of_ble_eq_true rfl) (by omega) rfl rfl (a_W.imp w ?_)
  rintro _ ⟨s1, l2, rfl, w⟩
  refine ⟨none, _, rfl, ?_⟩
  show a_W _ 163 70 [.ref 56, iv x1, iv x2, iv x3, u4, .retAddr 0] [] (mkH B s1 l2) _
  refine w_aln (p := 71) (q163 70) rfl rfl ?_
  refine w_gI (p := 74) (j := 51) (v := (zz s1 56 51)) (q163 71) rfl (r56 hB) (by decide) (iv_zz s1 56 51) ?_
  refine w_is (p := 76) (ls' := [.ref 56, iv x1, iv x2, iv x3, iv (zz s1 56 51), .retAddr 0]) (q163 74) rfl (Nat.le_of_ble_eq_true rfl) rfl ?_
  refine w_aln (p := 77) (q163 76) rfl rfl ?_
  refine w_gI (p := 80) (j := 22) (v := (zz s1 56 22)) (q163 77) rfl (r56 hB) (by decide) (iv_zz s1 56 22) ?_
  by_cases c3 : (zz s1 56 22) ≤ 0
  · replace w := w.1 c3
    refine w_i1t (q163 80) (inR_zz _ _ _) c3 ?_
    refine w_aln (p := 88) (q163 87) rfl rfl ?_
    refine w_call (st := []) (as := [.ref 56]) (as' := [.ref 56]) (p := 91) (q163 88) rfl m146 (by decide) (a_ok_i rfl (r56 hB) rfl) rfl rfl (Nat.le_of_ble_eq_true rfl) (by omega) rfl rfl (a_W.imp w ?_)
    rintro _ ⟨v6, s4, l5, rfl, w⟩
    refine ⟨some (iv v6), _, rfl, ?_⟩
    show a_W _ 163 91 [.ref 56, iv x1, iv x2, iv x3, iv (zz s1 56 51), .retAddr 0] [iv v6] (mkH B s4 l5) _
    refine w_is (p := 93) (ls' := [.ref 56, iv x1, iv x2, iv x3, iv (zz s1 56 51), iv v6]) (q163 91) rfl (Nat.le_of_ble_eq_true rfl) rfl ?_
    refine w_aln (p := 94) (q163 93) rfl rfl ?_
    refine w_dupr (p := 95) (q163 94) rfl ?_
    refine w_gI (p := 98) (j := 32) (v := (zz s4 56 32)) (q163 95) rfl (r56 hB) (by decide) (iv_zz s4 56 32) ?_
    refine w_ic (p := 99) (q163 98) rfl ?_
    refine w_sub (p := 100) (q163 99) rfl ?_
    refine w_pI (p := 103) (j := 32) (q163 100) rfl (r56 hB) (by decide) rfl ?_
    exact w
  · replace w := w.2 (Int.not_le.mp c3)
    refine w_i1f (p := 83) (q163 80) rfl (inR_zz _ _ _) c3 ?_
    refine w_ic (p := 84) (q163 83) rfl ?_
    refine w_goto (q163 84) ?_
    refine w_is (p := 93) (ls' := [.ref 56, iv x1, iv x2, iv x3, iv (zz s1 56 51), iv 0]) (q163 91) rfl (Nat.le_of_ble_eq_true rfl) rfl ?_
    refine w_aln (p := 94) (q163 93) rfl rfl ?_
    refine w_dupr (p := 95) (q163 94) rfl ?_
    refine w_gI (p := 98) (j := 32) (v := (zz s1 56 32)) (q163 95) rfl (r56 hB) (by decide) (iv_zz s1 56 32) ?_
    refine w_ic (p := 99) (q163 98) rfl ?_
    refine w_sub (p := 100) (q163 99) rfl ?_
    refine w_pI (p := 103) (j := 32) (q163 100) rfl (r56 hB) (by decide) rfl ?_
    exact w
theorem w163_103 {d : Nat} {B : aH} {Q : aR → Prop} (hB : a_Can B) (hd : 1 ≤ d) (x1 x2 x3 x4 x5 : Int) (s : Nat → Nat → Int32) (l : Nat → Nat → Int64) (w : (inR x2 ∧ (((zz s 56 51) ≤ x2 → (inR x4 ∧ ((x4 ≤ x2 → Q (.inl (some (iv 0)), (mkH B s l))) ∧ (x2 < x4 → Q (.inl (some (iv x5)), (mkH B s l)))))) ∧ (x2 < (zz s 56 51) → (((zz s 56 22) ≤ 0 → ((0 ≤ ((zz s 56 51) - 1) ∧ ((zz s 56 51) - 1) < 6002) ∧ ((0 ≤ x5 ∧ x5 < 30100) ∧ a_W (d - 1) 172 0 [.ref 56, iv 4, iv (zz s 90 ((zz s 56 51) - 1).toNat), iv x5, iv (zz s 91 ((zz s 56 51) - 1).toNat), iv (1 + (zz s 86 x5.toNat)), iv (1 + (zz s 87 x5.toNat))] [] (mkH B (zu s 56 51 ((zz s 56 51) - 1)) l) (fun r => ∃ (v10 : Int) (s8 : Nat → Nat → Int32) (l9 : Nat → Nat → Int64), r = (.inl (some (iv v10)), mkH B s8 l9) ∧ (inR x1 ∧ ((x1 = 8 → a_W d 163 103 [.ref 56, iv x1, iv x2, iv x3, iv x4, iv v10] [] (mkH B s8 l9) Q) ∧ (x1 ≠ 8 → ((x1 ≠ 9 → ((x1 ≠ 10 → a_W (d - 1) 173 0 [.ref 56, iv 9, iv 0] [] (mkH B s8 l9) (fun r => ∃ (v17 : Int) (s15 : Nat → Nat → Int32) (l16 : Nat → Nat → Int64), r = (.inl (some (iv v17)), mkH B s15 l16) ∧ a_W (d - 1) 174 0 [.ref 56, iv v17, iv v10] [] (mkH B s15 l16) (fun r => ∃ (v20 : Int) (s18 : Nat → Nat → Int32) (l19 : Nat → Nat → Int64), r = (.inl (some (iv v20)), mkH B s18 l19) ∧ a_W d 163 103 [.ref 56, iv x1, iv x2, iv x3, iv x4, iv v20] [] (mkH B s18 l19) Q))) ∧ (x1 = 10 → a_W (d - 1) 173 0 [.ref 56, iv 8, iv 0] [] (mkH B s8 l9) (fun r => ∃ (v23 : Int) (s21 : Nat → Nat → Int32) (l22 : Nat → Nat → Int64), r = (.inl (some (iv v23)), mkH B s21 l22) ∧ a_W (d - 1) 174 0 [.ref 56, iv v23, iv v10] [] (mkH B s21 l22) (fun r => ∃ (v26 : Int) (s24 : Nat → Nat → Int32) (l25 : Nat → Nat → Int64), r = (.inl (some (iv v26)), mkH B s24 l25) ∧ a_W d 163 103 [.ref 56, iv x1, iv x2, iv x3, iv x4, iv v26] [] (mkH B s24 l25) Q))))) ∧ (x1 = 9 → a_W (d - 1) 173 0 [.ref 56, iv 7, iv 0] [] (mkH B s8 l9) (fun r => ∃ (v29 : Int) (s27 : Nat → Nat → Int32) (l28 : Nat → Nat → Int64), r = (.inl (some (iv v29)), mkH B s27 l28) ∧ a_W (d - 1) 174 0 [.ref 56, iv v29, iv v10] [] (mkH B s27 l28) (fun r => ∃ (v32 : Int) (s30 : Nat → Nat → Int32) (l31 : Nat → Nat → Int64), r = (.inl (some (iv v32)), mkH B s30 l31) ∧ a_W d 163 103 [.ref 56, iv x1, iv x2, iv x3, iv x4, iv v32] [] (mkH B s30 l31) Q))))))))))) ∧ (0 < (zz s 56 22) → a_W d 163 103 [.ref 56, iv x1, iv x2, iv x3, iv x4, iv x5] [] (mkH B (zu s 56 51 ((zz s 56 51) - 1)) l) Q)))))) : a_W d 163 103 [.ref 56, iv x1, iv x2, iv x3, iv x4, iv x5] [] (mkH B s l) Q := by
  refine w_aln (p := 104) (q163 103) rfl rfl ?_
  refine w_gI (p := 107) (j := 51) (v := (zz s 56 51)) (q163 104) rfl (r56 hB) (by decide) (iv_zz s 56 51) ?_
  refine w_iln (p := 108) (q163 107) rfl rfl ?_
  obtain ⟨h1, w⟩ := w
  by_cases c2 : (zz s 56 51) ≤ x2
  · replace w := w.1 c2
    refine w_i2t (q163 108) (inR_zz _ _ _) h1 c2 ?_
    refine w_il (p := 224) (q163 222) rfl rfl ?_
    refine w_iln (p := 225) (q163 224) rfl rfl ?_
    obtain ⟨h3, w⟩ := w
    by_cases c4 : x4 ≤ x2
    · replace w := w.1 c4
      refine w_i2t (q163 225) h3 h1 c4 ?_
      refine w_ic (p := 234) (q163 233) rfl ?_
      exact w_ret (q163 234) rfl w
    · replace w := w.2 (Int.not_le.mp c4)
      refine w_i2f (p := 228) (q163 225) rfl h3 h1 c4 ?_
      refine w_il (p := 230) (q163 228) rfl rfl ?_
      refine w_goto (q163 230) ?_
      exact w_ret (q163 234) rfl w
  · replace w := w.2 (Int.not_le.mp c2)
    refine w_i2f (p := 111) (q163 108) rfl (inR_zz _ _ _) h1 c2 ?_
    refine w_aln (p := 112) (q163 111) rfl rfl ?_
    refine w_dupr (p := 113) (q163 112) rfl ?_
    refine w_gI (p := 116) (j := 51) (v := (zz s 56 51)) (q163 113) rfl (r56 hB) (by decide) (iv_zz s 56 51) ?_
    refine w_ic (p := 117) (q163 116) rfl ?_
    refine w_sub (p := 118) (q163 117) rfl ?_
    refine w_pI (p := 121) (j := 51) (q163 118) rfl (r56 hB) (by decide) rfl ?_
    refine w_aln (p := 122) (q163 121) rfl rfl ?_
    refine w_gI (p := 125) (j := 22) (v := (zz s 56 22)) (q163 122) rfl (r56 hB) (by decide) (iv_zz s 56 22) ?_
    by_cases c5 : (zz s 56 22) ≤ 0
    · replace w := w.1 c5
      refine w_i1t (q163 125) (inR_zz _ _ _) c5 ?_
      refine w_aln (p := 132) (q163 131) rfl rfl ?_
      refine w_ic (p := 133) (q163 132) rfl ?_
      refine w_aln (p := 134) (q163 133) rfl rfl ?_
      refine w_gR (p := 137) (j := 52) (v := 90) (q163 134) rfl (r56 hB) (by decide) (f56_52 hB) ?_
      refine w_aln (p := 138) (q163 137) rfl rfl ?_
      refine w_gI (p := 141) (j := 51) (v := ((zz s 56 51) - 1)) (q163 138) rfl (r56 hB) (by decide) rfl ?_
      obtain ⟨o6, w⟩ := w
      refine w_ia (p := 142) (v := (zz s 90 ((zz s 56 51) - 1).toNat)) (q163 141) rfl (r90 hB) (by decide) o6 (iv_zz s 90 ((zz s 56 51) - 1).toNat) ?_
      refine w_il (p := 144) (q163 142) rfl rfl ?_
      refine w_aln (p := 145) (q163 144) rfl rfl ?_
      refine w_gR (p := 148) (j := 53) (v := 91) (q163 145) rfl (r56 hB) (by decide) (f56_53 hB) ?_
      refine w_aln (p := 149) (q163 148) rfl rfl ?_
      refine w_gI (p := 152) (j := 51) (v := ((zz s 56 51) - 1)) (q163 149) rfl (r56 hB) (by decide) rfl ?_
      refine w_ia (p := 153) (v := (zz s 91 ((zz s 56 51) - 1).toNat)) (q163 152) rfl (r91 hB) (by decide) o6 (iv_zz s 91 ((zz s 56 51) - 1).toNat) ?_
      refine w_ic (p := 154) (q163 153) rfl ?_
      refine w_aln (p := 155) (q163 154) rfl rfl ?_
      refine w_gR (p := 158) (j := 46) (v := 86) (q163 155) rfl (r56 hB) (by decide) (f56_46 hB) ?_
      refine w_il (p := 160) (q163 158) rfl rfl ?_
      obtain ⟨o7, w⟩ := w
      refine w_ia (p := 161) (v := (zz s 86 x5.toNat)) (q163 160) rfl (r86 hB) (by decide) o7 (iv_zz s 86 x5.toNat) ?_
      refine w_add (p := 162) (q163 161) rfl ?_
      refine w_ic (p := 163) (q163 162) rfl ?_
      refine w_aln (p := 164) (q163 163) rfl rfl ?_
      refine w_gR (p := 167) (j := 47) (v := 87) (q163 164) rfl (r56 hB) (by decide) (f56_47 hB) ?_
      refine w_il (p := 169) (q163 167) rfl rfl ?_
      refine w_ia (p := 170) (v := (zz s 87 x5.toNat)) (q163 169) rfl (r87 hB) (by decide) o7 (iv_zz s 87 x5.toNat) ?_
      refine w_add (p := 171) (q163 170) rfl ?_
      refine w_call (st := []) (as := [.ref 56, iv 4, iv (zz s 90 ((zz s 56 51) - 1).toNat), iv x5, iv (zz s 91 ((zz s 56 51) - 1).toNat), iv (1 + (zz s 86 x5.toNat)), iv (1 + (zz s 87 x5.toNat))]) (as' := [iv (1 + (zz s 87 x5.toNat)), iv (1 + (zz s 86 x5.toNat)), iv (zz s 91 ((zz s 56 51) - 1).toNat), iv x5, iv (zz s 90 ((zz s 56 51) - 1).toNat), iv 4, .ref 56]) (p := 174) (q163 171) rfl m172 (by decide) (a_ok_i rfl (r56 hB) rfl) rfl rfl (Nat.le_of_ble_eq_true rfl) (by omega) rfl rfl (a_W.imp w ?_)
      rintro _ ⟨v10, s8, l9, rfl, w⟩
      refine ⟨some (iv v10), _, rfl, ?_⟩
      show a_W _ 163 174 [.ref 56, iv x1, iv x2, iv x3, iv x4, iv x5] [iv v10] (mkH B s8 l9) _
      refine w_is (p := 176) (ls' := [.ref 56, iv x1, iv x2, iv x3, iv x4, iv v10]) (q163 174) rfl (Nat.le_of_ble_eq_true rfl) rfl ?_
      refine w_iln (p := 177) (q163 176) rfl rfl ?_
      refine w_bp (p := 179) (q163 177) rfl (by decide) ?_
      obtain ⟨h11, w⟩ := w
      by_cases c12 : x1 = 8
      · replace w := w.1 c12
        refine w_i2t (q163 179) h11 (by decide) c12 ?_
        exact w
      · replace w := w.2 c12
        refine w_i2f (p := 182) (q163 179) rfl h11 (by decide) c12 ?_
        refine w_aln (p := 183) (q163 182) rfl rfl ?_
        refine w_aln (p := 184) (q163 183) rfl rfl ?_
        refine w_iln (p := 185) (q163 184) rfl rfl ?_
        refine w_bp (p := 187) (q163 185) rfl (by decide) ?_
        by_cases c13 : x1 ≠ 9
        · replace w := w.1 c13
          refine w_i2t (q163 187) h11 (by decide) c13 ?_
          refine w_iln (p := 196) (q163 195) rfl rfl ?_
          refine w_bp (p := 198) (q163 196) rfl (by decide) ?_
          by_cases c14 : x1 ≠ 10
          · replace w := w.1 c14
            refine w_i2t (q163 198) h11 (by decide) c14 ?_
            refine w_bp (p := 208) (q163 206) rfl (by decide) ?_
            refine w_ic (p := 209) (q163 208) rfl ?_
            refine w_call (st := [.ref 56]) (as := [.ref 56, iv 9, iv 0]) (as' := [iv 0, iv 9, .ref 56]) (p := 212) (q163 209) rfl m173 (by decide) (a_ok_i rfl (r56 hB) rfl) rfl rfl (Nat.le_of_ble_eq_true rfl) (by omega) rfl rfl (a_W.imp w ?_)
            rintro _ ⟨v17, s15, l16, rfl, w⟩
            refine ⟨some (iv v17), _, rfl, ?_⟩
            show a_W _ 163 212 [.ref 56, iv x1, iv x2, iv x3, iv x4, iv v10] [iv v17, .ref 56] (mkH B s15 l16) _
            refine w_il (p := 214) (q163 212) rfl rfl ?_
            refine w_call (st := []) (as := [.ref 56, iv v17, iv v10]) (as' := [iv v10, iv v17, .ref 56]) (p := 217) (q163 214) rfl m174 (by decide) (a_ok_i rfl (r56 hB) rfl) rfl rfl (Nat.le_of_ble_eq_true rfl) (by omega) rfl rfl (a_W.imp w ?_)
            rintro _ ⟨v20, s18, l19, rfl, w⟩
            refine ⟨some (iv v20), _, rfl, ?_⟩
            show a_W _ 163 217 [.ref 56, iv x1, iv x2, iv x3, iv x4, iv v10] [iv v20] (mkH B s18 l19) _
            refine w_is (p := 219) (ls' := [.ref 56, iv x1, iv x2, iv x3, iv x4, iv v20]) (q163 217) rfl (Nat.le_of_ble_eq_true rfl) rfl ?_
            refine w_goto (q163 219) ?_
            exact w
          · replace w := w.2 (Decidable.not_not.mp c14)
            refine w_i2f (p := 201) (q163 198) rfl h11 (by decide) c14 ?_
            refine w_bp (p := 203) (q163 201) rfl (by decide) ?_
            refine w_goto (q163 203) ?_
            refine w_ic (p := 209) (q163 208) rfl ?_
            refine w_call (st := [.ref 56]) (as := [.ref 56, iv 8, iv 0]) (as' := [iv 0, iv 8, .ref 56]) (p := 212) (q163 209) rfl m173 (by decide) (a_ok_i rfl (r56 hB) rfl) rfl rfl (Nat.le_of_ble_eq_true rfl) (by omega) rfl rfl (a_W.imp w ?_)
            rintro _ ⟨v23, s21, l22, rfl, w⟩
            refine ⟨some (iv v23), _, rfl, ?_⟩
            show a_W _ 163 212 [.ref 56, iv x1, iv x2, iv x3, iv x4, iv v10] [iv v23, .ref 56] (mkH B s21 l22) _
            refine w_il (p := 214) (q163 212) rfl rfl ?_
            refine w_call (st := []) (as := [.ref 56, iv v23, iv v10]) (as' := [iv v10, iv v23, .ref 56]) (p := 217) (q163 214) rfl m174 (by decide) (a_ok_i rfl (r56 hB) rfl) rfl rfl (Nat.le_of_ble_eq_true rfl) (by omega) rfl rfl (a_W.imp w ?_)
            rintro _ ⟨v26, s24, l25, rfl, w⟩
            refine ⟨some (iv v26), _, rfl, ?_⟩
            show a_W _ 163 217 [.ref 56, iv x1, iv x2, iv x3, iv x4, iv v10] [iv v26] (mkH B s24 l25) _
            refine w_is (p := 219) (ls' := [.ref 56, iv x1, iv x2, iv x3, iv x4, iv v26]) (q163 217) rfl (Nat.le_of_ble_eq_true rfl) rfl ?_
            refine w_goto (q163 219) ?_
            exact w
        · replace w := w.2 (Decidable.not_not.mp c13)
          refine w_i2f (p := 190) (q163 187) rfl h11 (by decide) c13 ?_
          refine w_bp (p := 192) (q163 190) rfl (by decide) ?_
          refine w_goto (q163 192) ?_
          refine w_ic (p := 209) (q163 208) rfl ?_
          refine w_call (st := [.ref 56]) (as := [.ref 56, iv 7, iv 0]) (as' := [iv 0, iv 7, .ref 56]) (p := 212) (q163 209) rfl m173 (by decide) (a_ok_i rfl (r56 hB) rfl) rfl rfl (Nat.le_of_ble_eq_true rfl) (by omega) rfl rfl (a_W.imp w ?_)
          rintro _ ⟨v29, s27, l28, rfl, w⟩
          refine ⟨some (iv v29), _, rfl, ?_⟩
          show a_W _ 163 212 [.ref 56, iv x1, iv x2, iv x3, iv x4, iv v10] [iv v29, .ref 56] (mkH B s27 l28) _
          refine w_il (p := 214) (q163 212) rfl rfl ?_
          refine w_call (st := []) (as := [.ref 56, iv v29, iv v10]) (as' := [iv v10, iv v29, .ref 56]) (p := 217) (q163 214) rfl m174 (by decide) (a_ok_i rfl (r56 hB) rfl) rfl rfl (Nat.le_of_ble_eq_true rfl) (by omega) rfl rfl (a_W.imp w ?_)
          rintro _ ⟨v32, s30, l31, rfl, w⟩
          refine ⟨some (iv v32), _, rfl, ?_⟩
          show a_W _ 163 217 [.ref 56, iv x1, iv x2, iv x3, iv x4, iv v10] [iv v32] (mkH B s30 l31) _
          refine w_is (p := 219) (ls' := [.ref 56, iv x1, iv x2, iv x3, iv x4, iv v32]) (q163 217) rfl (Nat.le_of_ble_eq_true rfl) rfl ?_
          refine w_goto (q163 219) ?_
          exact w
    · replace w := w.2 (Int.not_le.mp c5)
      refine w_i1f (p := 128) (q163 125) rfl (inR_zz _ _ _) c5 ?_
      refine w_goto (q163 128) ?_
      exact w
theorem w165_0 {d : Nat} {B : aH} {Q : aR → Prop} (hB : a_Can B) (hd : 1 ≤ d) (s : Nat → Nat → Int32) (l : Nat → Nat → Int64) (w : a_W (d - 1) 148 0 [.ref 56, iv 0, .retAddr 0] [] (mkH B s l) (fun r => ∃ (v3 : Int) (s1 : Nat → Nat → Int32) (l2 : Nat → Nat → Int64), r = (.inl (some (iv v3)), mkH B s1 l2) ∧ (inR v3 ∧ ((v3 ≠ 4 → (((zz s1 56 22) ≤ 0 → a_W d 165 37 [.ref 56, iv 0] [] (mkH B s1 l2) Q) ∧ (0 < (zz s1 56 22) → Q (.inl none, (mkH B s1 l2))))) ∧ (v3 = 4 → (((zz s1 56 22) ≤ 0 → a_W d 165 37 [.ref 56, iv 1] [] (mkH B (zu s1 56 31 ((zz s1 56 31) + 1)) l2) Q) ∧ (0 < (zz s1 56 22) → Q (.inl none, (mkH B s1 l2))))))))) : a_W d 165 0 [.ref 56, .retAddr 0] [] (mkH B s l) Q := by
  refine w_aln (p := 1) (q165 0) rfl rfl ?_
  refine w_ic (p := 2) (q165 1) rfl ?_
  refine w_call (st := []) (as := [.ref 56, iv 0]) (as' := [iv 0, .ref 56]) (p := 5) (q165 2) rfl m148 (by decide) (a_ok_i rfl (r56 hB) rfl) rfl rfl (Nat.le_of_ble_eq_true rfl) (by omega) rfl rfl (a_W.imp w ?_)
  rintro _ ⟨v3, s1, l2, rfl, w⟩
  refine ⟨some (iv v3), _, rfl, ?_⟩
  show a_W _ 165 5 [.ref 56, .retAddr 0] [iv v3] (mkH B s1 l2) _
  refine w_ic (p := 6) (q165 5) rfl ?_
  obtain ⟨h4, w⟩ := w
  by_cases c5 : v3 ≠ 4
  · replace w := w.1 c5
    refine w_i2t (q165 6) h4 (by decide) c5 ?_
    refine w_ic (p := 14) (q165 13) rfl ?_
    refine w_isn (p := 15) (ls' := [.ref 56, iv 0]) (q165 14) rfl (Nat.le_of_ble_eq_true rfl) rfl ?_
    refine w_aln (p := 16) (q165 15) rfl rfl ?_
    refine w_gI (p := 19) (j := 22) (v := (zz s1 56 22)) (q165 16) rfl (r56 hB) (by decide) (iv_zz s1 56 22) ?_
    by_cases c6 : (zz s1 56 22) ≤ 0
    · replace w := w.1 c6
      refine w_i1t (q165 19) (inR_zz _ _ _) c6 ?_
      refine w_iln (p := 24) (q165 23) rfl rfl ?_
      refine w_i1t (q165 24) (by decide) (show zc _ _ _ by unfold zc; omega) ?_
      exact w
    · replace w := w.2 (Int.not_le.mp c6)
      refine w_i1f (p := 22) (q165 19) rfl (inR_zz _ _ _) c6 ?_
      exact w_rv (q165 22) rfl w
  · replace w := w.2 (Decidable.not_not.mp c5)
    refine w_i2f (p := 9) (q165 6) rfl h4 (by decide) c5 ?_
    refine w_ic (p := 10) (q165 9) rfl ?_
    refine w_goto (q165 10) ?_
    refine w_isn (p := 15) (ls' := [.ref 56, iv 1]) (q165 14) rfl (Nat.le_of_ble_eq_true rfl) rfl ?_
    refine w_aln (p := 16) (q165 15) rfl rfl ?_
    refine w_gI (p := 19) (j := 22) (v := (zz s1 56 22)) (q165 16) rfl (r56 hB) (by decide) (iv_zz s1 56 22) ?_
    by_cases c7 : (zz s1 56 22) ≤ 0
    · replace w := w.1 c7
      refine w_i1t (q165 19) (inR_zz _ _ _) c7 ?_
      refine w_iln (p := 24) (q165 23) rfl rfl ?_
      refine w_i1f (p := 27) (q165 24) rfl (by decide) (show ¬ zc _ _ _ by unfold zc; omega) ?_
      refine w_aln (p := 28) (q165 27) rfl rfl ?_
      refine w_dupr (p := 29) (q165 28) rfl ?_
      refine w_gI (p := 32) (j := 31) (v := (zz s1 56 31)) (q165 29) rfl (r56 hB) (by decide) (iv_zz s1 56 31) ?_
      refine w_ic (p := 33) (q165 32) rfl ?_
      refine w_add (p := 34) (q165 33) rfl ?_
      refine w_pI (p := 37) (j := 31) (q165 34) rfl (r56 hB) (by decide) rfl ?_
      exact w
    · replace w := w.2 (Int.not_le.mp c7)
      refine w_i1f (p := 22) (q165 19) rfl (inR_zz _ _ _) c7 ?_
      exact w_rv (q165 22) rfl w
theorem w165_37 {d : Nat} {B : aH} {Q : aR → Prop} (hB : a_Can B) (hd : 1 ≤ d) (x1 : Int) (s : Nat → Nat → Int32) (l : Nat → Nat → Int64) (w : ((0 ≤ (zz s 56 51) ∧ (zz s 56 51) < 6002) ∧ a_W (d - 1) 166 0 [.ref 56, iv 1] [] (mkH B (zu s 90 (zz s 56 51).toNat (zz s 56 31)) l) (fun r => ∃ (s2 : Nat → Nat → Int32) (l3 : Nat → Nat → Int64), r = (.inl none, mkH B s2 l3) ∧ ((0 ≤ (zz s2 56 51) ∧ (zz s2 56 51) < 6002) ∧ (inR x1 ∧ ((x1 = 0 → a_W d 165 86 [.ref 56, iv x1] [] (mkH B (zu (zu s2 91 (zz s2 56 51).toNat (-1)) 56 51 ((zz s2 56 51) + 1)) l3) Q) ∧ (x1 ≠ 0 → (((zz s2 56 22) ≤ 0 → a_W (d - 1) 166 0 [.ref 56, iv 7] [] (mkH B (zu (zu s2 91 (zz s2 56 51).toNat (-1)) 56 51 ((zz s2 56 51) + 1)) l3) (fun r => ∃ (s8 : Nat → Nat → Int32) (l9 : Nat → Nat → Int64), r = (.inl none, mkH B s8 l9) ∧ (((zz s8 56 22) ≤ 0 → a_W (d - 1) 167 0 [.ref 56, .retAddr 0, .retAddr 0, .retAddr 0, .retAddr 0, .retAddr 0, .retAddr 0, .retAddr 0, .retAddr 0] [] (mkH B s8 l9) (fun r => ∃ (v13 : Int) (s11 : Nat → Nat → Int32) (l12 : Nat → Nat → Int64), r = (.inl (some (iv v13)), mkH B s11 l12) ∧ ((0 ≤ ((zz s8 56 51) - 1) ∧ ((zz s8 56 51) - 1) < 6002) ∧ a_W (d - 1) 166 0 [.ref 56, iv 5] [] (mkH B (zu s11 91 ((zz s8 56 51) - 1).toNat v13) l12) (fun r => ∃ (s15 : Nat → Nat → Int32) (l16 : Nat → Nat → Int64), r = (.inl none, mkH B s15 l16) ∧ Q (.inl none, (mkH B s15 l16)))))) ∧ (0 < (zz s8 56 22) → ((0 ≤ ((zz s8 56 51) - 1) ∧ ((zz s8 56 51) - 1) < 6002) ∧ a_W (d - 1) 166 0 [.ref 56, iv 5] [] (mkH B (zu s8 91 ((zz s8 56 51) - 1).toNat (-1)) l9) (fun r => ∃ (s18 : Nat → Nat → Int32) (l19 : Nat → Nat → Int64), r = (.inl none, mkH B s18 l19) ∧ Q (.inl none, (mkH B s18 l19)))))))) ∧ (0 < (zz s2 56 22) → a_W d 165 86 [.ref 56, iv x1] [] (mkH B (zu (zu s2 91 (zz s2 56 51).toNat (-1)) 56 51 ((zz s2 56 51) + 1)) l3) Q))))))))) : a_W d 165 37 [.ref 56, iv x1] [] (mkH B s l) Q := by
  refine w_aln (p := 38) (q165 37) rfl rfl ?_
  refine w_gR (p := 41) (j := 52) (v := 90) (q165 38) rfl (r56 hB) (by decide) (f56_52 hB) ?_
  refine w_aln (p := 42) (q165 41) rfl rfl ?_
  refine w_gI (p := 45) (j := 51) (v := (zz s 56 51)) (q165 42) rfl (r56 hB) (by decide) (iv_zz s 56 51) ?_
  refine w_aln (p := 46) (q165 45) rfl rfl ?_
  refine w_gI (p := 49) (j := 31) (v := (zz s 56 31)) (q165 46) rfl (r56 hB) (by decide) (iv_zz s 56 31) ?_
  obtain ⟨o1, w⟩ := w
  refine w_ias (p := 50) (q165 49) rfl (r90 hB) (by decide) o1 ?_
  refine w_aln (p := 51) (q165 50) rfl rfl ?_
  refine w_ic (p := 52) (q165 51) rfl ?_
  refine w_call (st := []) (as := [.ref 56, iv 1]) (as' := [iv 1, .ref 56]) (p := 55) (q165 52) rfl m166 (by decide) (a_ok_i rfl (r56 hB) rfl) rfl rfl (Nat.le_of_ble_eq_true rfl) (by omega) rfl rfl (a_W.imp w ?_)
  rintro _ ⟨s2, l3, rfl, w⟩
  refine ⟨none, _, rfl, ?_⟩
  show a_W _ 165 55 [.ref 56, iv x1] [] (mkH B s2 l3) _
  refine w_aln (p := 56) (q165 55) rfl rfl ?_
  refine w_gR (p := 59) (j := 53) (v := 91) (q165 56) rfl (r56 hB) (by decide) (f56_53 hB) ?_
  refine w_aln (p := 60) (q165 59) rfl rfl ?_
  refine w_gI (p := 63) (j := 51) (v := (zz s2 56 51)) (q165 60) rfl (r56 hB) (by decide) (iv_zz s2 56 51) ?_
  refine w_ic (p := 64) (q165 63) rfl ?_
  obtain ⟨o4, w⟩ := w
  refine w_ias (p := 65) (q165 64) rfl (r91 hB) (by decide) o4 ?_
  refine w_aln (p := 66) (q165 65) rfl rfl ?_
  refine w_dupr (p := 67) (q165 66) rfl ?_
  refine w_gI (p := 70) (j := 51) (v := (zz s2 56 51)) (q165 67) rfl (r56 hB) (by decide) (iv_zz s2 56 51) ?_
  refine w_ic (p := 71) (q165 70) rfl ?_
  refine w_add (p := 72) (q165 71) rfl ?_
  refine w_pI (p := 75) (j := 51) (q165 72) rfl (r56 hB) (by decide) rfl ?_
  refine w_iln (p := 76) (q165 75) rfl rfl ?_
  obtain ⟨h5, w⟩ := w
  by_cases c6 : x1 = 0
  · replace w := w.1 c6
    refine w_i1t (q165 76) h5 c6 ?_
    exact w
  · replace w := w.2 c6
    refine w_i1f (p := 79) (q165 76) rfl h5 c6 ?_
    refine w_aln (p := 80) (q165 79) rfl rfl ?_
    refine w_gI (p := 83) (j := 22) (v := (zz s2 56 22)) (q165 80) rfl (r56 hB) (by decide) (iv_zz s2 56 22) ?_
    by_cases c7 : (zz s2 56 22) ≤ 0
    · replace w := w.1 c7
      refine w_i1t (q165 83) (inR_zz _ _ _) c7 ?_
      refine w_aln (p := 88) (q165 87) rfl rfl ?_
      refine w_bp (p := 90) (q165 88) rfl (by decide) ?_
      refine w_call (st := []) (as := [.ref 56, iv 7]) (as' := [iv 7, .ref 56]) (p := 93) (q165 90) rfl m166 (by decide) (a_ok_i rfl (r56 hB) rfl) rfl rfl (Nat.le_of_ble_eq_true rfl) (by omega) rfl rfl (a_W.imp w ?_)
      rintro _ ⟨s8, l9, rfl, w⟩
      refine ⟨none, _, rfl, ?_⟩
      show a_W _ 165 93 [.ref 56, iv x1] [] (mkH B s8 l9) _
      refine w_aln (p := 94) (q165 93) rfl rfl ?_
      refine w_gR (p := 97) (j := 53) (v := 91) (q165 94) rfl (r56 hB) (by decide) (f56_53 hB) ?_
      refine w_aln (p := 98) (q165 97) rfl rfl ?_
      refine w_gI (p := 101) (j := 51) (v := (zz s8 56 51)) (q165 98) rfl (r56 hB) (by decide) (iv_zz s8 56 51) ?_
      refine w_ic (p := 102) (q165 101) rfl ?_
      refine w_sub (p := 103) (q165 102) rfl ?_
      refine w_aln (p := 104) (q165 103) rfl rfl ?_
      refine w_gI (p := 107) (j := 22) (v := (zz s8 56 22)) (q165 104) rfl (r56 hB) (by decide) (iv_zz s8 56 22) ?_
      by_cases c10 : (zz s8 56 22) ≤ 0
      · replace w := w.1 c10
        refine w_i1t (q165 107) (inR_zz _ _ _) c10 ?_
        refine w_aln (p := 115) (q165 114) rfl rfl ?_
        refine w_call (st := [iv ((zz s8 56 51) - 1), .ref 91]) (as := [.ref 56]) (as' := [.ref 56]) (p := 118) (q165 115) rfl m167 (by decide) (a_ok_i rfl (r56 hB) rfl) rfl rfl (Nat.le_of_ble_eq_true rfl) (by omega) rfl rfl (a_W.imp w ?_)
        rintro _ ⟨v13, s11, l12, rfl, w⟩
        refine ⟨some (iv v13), _, rfl, ?_⟩
        show a_W _ 165 118 [.ref 56, iv x1] [iv v13, iv ((zz s8 56 51) - 1), .ref 91] (mkH B s11 l12) _
        obtain ⟨o14, w⟩ := w
        refine w_ias (p := 119) (q165 118) rfl (r91 hB) (by decide) o14 ?_
        refine w_aln (p := 120) (q165 119) rfl rfl ?_
        refine w_ic (p := 121) (q165 120) rfl ?_
        refine w_call (st := []) (as := [.ref 56, iv 5]) (as' := [iv 5, .ref 56]) (p := 124) (q165 121) rfl m166 (by decide) (a_ok_i rfl (r56 hB) rfl) rfl rfl (Nat.le_of_ble_eq_true rfl) (by omega) rfl rfl (a_W.imp w ?_)
        rintro _ ⟨s15, l16, rfl, w⟩
        refine ⟨none, _, rfl, ?_⟩
        show a_W _ 165 124 [.ref 56, iv x1] [] (mkH B s15 l16) _
        exact w_rv (q165 124) rfl w
      · replace w := w.2 (Int.not_le.mp c10)
        refine w_i1f (p := 110) (q165 107) rfl (inR_zz _ _ _) c10 ?_
        refine w_ic (p := 111) (q165 110) rfl ?_
        refine w_goto (q165 111) ?_
        obtain ⟨o17, w⟩ := w
        refine w_ias (p := 119) (q165 118) rfl (r91 hB) (by decide) o17 ?_
        refine w_aln (p := 120) (q165 119) rfl rfl ?_
        refine w_ic (p := 121) (q165 120) rfl ?_
        refine w_call (st := []) (as := [.ref 56, iv 5]) (as' := [iv 5, .ref 56]) (p := 124) (q165 121) rfl m166 (by decide) (a_ok_i rfl (r56 hB) rfl) rfl rfl (Nat.le_of_ble_eq_true rfl) (by omega) rfl rfl (a_W.imp w ?_)
        rintro _ ⟨s18, l19, rfl, w⟩
        refine ⟨none, _, rfl, ?_⟩
        show a_W _ 165 124 [.ref 56, iv x1] [] (mkH B s18 l19) _
        exact w_rv (q165 124) rfl w
    · replace w := w.2 (Int.not_le.mp c7)
      refine w_i1f (p := 86) (q165 83) rfl (inR_zz _ _ _) c7 ?_
      exact w
theorem w165_86 {d : Nat} {B : aH} {Q : aR → Prop} (hB : a_Can B) (x1 : Int) (s : Nat → Nat → Int32) (l : Nat → Nat → Int64) (w : Q (.inl none, (mkH B s l))) : a_W d 165 86 [.ref 56, iv x1] [] (mkH B s l) Q := by
  exact w_rv (q165 86) rfl w
