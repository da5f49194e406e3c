/-! printed by wip/am/mkcs.py: the reference judges and shows a term -/
theorem w184_0 {d : Nat} {B : aH} {Q : aR → Prop} (hB : a_Can B) (hd : 1 ≤ d) (x1 : Int) (s : Nat → Nat → Int32) (l : Nat → Nat → Int64) (w : ((0 ≤ x1 ∧ x1 < 30100) ∧ (((zz s 82 x1.toNat) = 0 → a_W (d - 1) 185 0 [.ref 56, iv (zz s 83 x1.toNat), .retAddr 0] [] (mkH B s l) (fun r => ∃ (v5 : Int) (s3 : Nat → Nat → Int32) (l4 : Nat → Nat → Int64), r = (.inl (some (iv v5)), mkH B s3 l4) ∧ (inR v5 ∧ ((v5 ≠ (-1) → a_W d 184 63 [.ref 56, iv x1, .retAddr 0] [] (mkH B s3 l4) Q) ∧ (v5 = (-1) → a_W (d - 1) 186 0 [.ref 56, iv x1] [] (mkH B s3 l4) (fun r => ∃ (v10 : Int) (s8 : Nat → Nat → Int32) (l9 : Nat → Nat → Int64), r = (.inl (some (iv v10)), mkH B s8 l9) ∧ (inR v10 ∧ ((v10 = (-1) → Q (.inl (some (iv 0)), (mkH B s8 l9))) ∧ (v10 ≠ (-1) → a_W d 184 63 [.ref 56, iv x1, .retAddr 0] [] (mkH B s8 l9) Q))))))))) ∧ ((zz s 82 x1.toNat) = 1 → a_W (d - 1) 186 0 [.ref 56, iv x1] [] (mkH B s l) (fun r => ∃ (v16 : Int) (s14 : Nat → Nat → Int32) (l15 : Nat → Nat → Int64), r = (.inl (some (iv v16)), mkH B s14 l15) ∧ (inR v16 ∧ ((v16 = (-1) → Q (.inl (some (iv 0)), (mkH B s14 l15))) ∧ (v16 ≠ (-1) → Q (.inl (some (iv 1)), (mkH B s14 l15))))))) ∧ ((zz s 82 x1.toNat) = 2 → Q (.inl (some (iv 1)), (mkH B s l))) ∧ ((zz s 82 x1.toNat) = 3 → a_W (d - 1) 184 0 [.ref 56, iv (zz s 83 x1.toNat), .retAddr 0] [] (mkH B s l) (fun r => ∃ (v23 : Int) (s21 : Nat → Nat → Int32) (l22 : Nat → Nat → Int64), r = (.inl (some (iv v23)), mkH B s21 l22) ∧ (inR v23 ∧ ((v23 = 0 → a_W d 184 116 [.ref 56, iv x1, .retAddr 0] [] (mkH B s21 l22) Q) ∧ (v23 ≠ 0 → a_W (d - 1) 184 0 [.ref 56, iv (zz s21 84 x1.toNat), .retAddr 0] [] (mkH B s21 l22) (fun r => ∃ (v28 : Int) (s26 : Nat → Nat → Int32) (l27 : Nat → Nat → Int64), r = (.inl (some (iv v28)), mkH B s26 l27) ∧ (inR v28 ∧ ((v28 = 0 → a_W d 184 116 [.ref 56, iv x1, .retAddr 0] [] (mkH B s26 l27) Q) ∧ (v28 ≠ 0 → Q (.inl (some (iv 1)), (mkH B s26 l27))))))))))) ∧ ((zz s 82 x1.toNat) = 4 → ((0 ≤ (zz s 56 59) ∧ (zz s 56 59) < 600) ∧ a_W (d - 1) 184 0 [.ref 56, iv (zz s 84 x1.toNat), .retAddr 0] [] (mkH B (zu (zu s 96 (zz s 56 59).toNat (zz s 83 x1.toNat)) 56 59 ((zz s 56 59) + 1)) l) (fun r => ∃ (v35 : Int) (s33 : Nat → Nat → Int32) (l34 : Nat → Nat → Int64), r = (.inl (some (iv v35)), mkH B s33 l34) ∧ ((v35 = 0 ∨ v35 = 1) ∧ Q (.inl (some (iv v35)), (mkH B (zu s33 56 59 ((zz s33 56 59) - 1)) l34)))))) ∧ ((zz s 82 x1.toNat) ≠ 0 ∧ (zz s 82 x1.toNat) ≠ 1 ∧ (zz s 82 x1.toNat) ≠ 2 ∧ (zz s 82 x1.toNat) ≠ 3 ∧ (zz s 82 x1.toNat) ≠ 4 → a_W (d - 1) 184 0 [.ref 56, iv (zz s 83 x1.toNat), .retAddr 0] [] (mkH B s l) (fun r => ∃ (v39 : Int) (s37 : Nat → Nat → Int32) (l38 : Nat → Nat → Int64), r = (.inl (some (iv v39)), mkH B s37 l38) ∧ ((v39 = 0 ∨ v39 = 1) ∧ Q (.inl (some (iv v39)), (mkH B s37 l38)))))))) : a_W d 184 0 [.ref 56, iv x1, .retAddr 0] [] (mkH B s l) Q := by
  refine w_aln (p := 1) (q184 0) rfl rfl ?_
  refine w_gR (p := 4) (j := 42) (v := 82) (q184 1) rfl (r56 hB) (by decide) (f56_42 hB) ?_
  refine w_iln (p := 5) (q184 4) rfl rfl ?_
  obtain ⟨o1, w⟩ := w
  refine w_ia (p := 6) (v := (zz s 82 x1.toNat)) (q184 5) rfl (r82 hB) (by decide) o1 (iv_zz s 82 x1.toNat) ?_
  by_cases c2 : (zz s 82 x1.toNat) = 0
  · replace w := w.1 c2
    refine w_sw (p := 40) (q184 6) (inR_zz _ _ _) (by intro g; rw [c2]; rfl) ?_
    refine w_aln (p := 41) (q184 40) rfl rfl ?_
    refine w_aln (p := 42) (q184 41) rfl rfl ?_
    refine w_gR (p := 45) (j := 43) (v := 83) (q184 42) rfl (r56 hB) (by decide) (f56_43 hB) ?_
    refine w_iln (p := 46) (q184 45) rfl rfl ?_
    refine w_ia (p := 47) (v := (zz s 83 x1.toNat)) (q184 46) rfl (r83 hB) (by decide) o1 (iv_zz s 83 x1.toNat) ?_
    refine w_call (st := []) (as := [.ref 56, iv (zz s 83 x1.toNat)]) (as' := [iv (zz s 83 x1.toNat), .ref 56]) (p := 50) (q184 47) rfl m185 (by decide) (a_ok_i rfl (r56 hB) rfl) rfl rfl (Nat.le_of_ble_eq_true rfl) (by omega) rfl rfl (a_W.imp w ?_)
    rintro _ ⟨v5, s3, l4, rfl, w⟩
    refine ⟨some (iv v5), _, rfl, ?_⟩
    show a_W _ 184 50 [.ref 56, iv x1, .retAddr 0] [iv v5] (mkH B s3 l4) _
    refine w_ic (p := 51) (q184 50) rfl ?_
    obtain ⟨h6, w⟩ := w
    by_cases c7 : v5 ≠ (-1)
    · replace w := w.1 c7
      refine w_i2t (q184 51) h6 (by decide) c7 ?_
      exact w
    · replace w := w.2 (Decidable.not_not.mp c7)
      refine w_i2f (p := 54) (q184 51) rfl h6 (by decide) c7 ?_
      refine w_aln (p := 55) (q184 54) rfl rfl ?_
      refine w_iln (p := 56) (q184 55) rfl rfl ?_
      refine w_call (st := []) (as := [.ref 56, iv x1]) (as' := [iv x1, .ref 56]) (p := 59) (q184 56) rfl m186 (by decide) (a_ok_i rfl (r56 hB) rfl) rfl rfl (Nat.le_of_ble_eq_true rfl) (by omega) rfl rfl (a_W.imp w ?_)
      rintro _ ⟨v10, s8, l9, rfl, w⟩
      refine ⟨some (iv v10), _, rfl, ?_⟩
      show a_W _ 184 59 [.ref 56, iv x1, .retAddr 0] [iv v10] (mkH B s8 l9) _
      refine w_ic (p := 60) (q184 59) rfl ?_
      obtain ⟨h11, w⟩ := w
      by_cases c12 : v10 = (-1)
      · replace w := w.1 c12
        refine w_i2t (q184 60) h11 (by decide) c12 ?_
        refine w_ic (p := 68) (q184 67) rfl ?_
        exact w_ret (q184 68) rfl w
      · replace w := w.2 c12
        refine w_i2f (p := 63) (q184 60) rfl h11 (by decide) c12 ?_
        exact w
  by_cases c13 : (zz s 82 x1.toNat) = 1
  · replace w := w.2.1 c13
    refine w_sw (p := 69) (q184 6) (inR_zz _ _ _) (by intro g; rw [c13]; rfl) ?_
    refine w_aln (p := 70) (q184 69) rfl rfl ?_
    refine w_iln (p := 71) (q184 70) rfl rfl ?_
    refine w_call (st := []) (as := [.ref 56, iv x1]) (as' := [iv x1, .ref 56]) (p := 74) (q184 71) rfl m186 (by decide) (a_ok_i rfl (r56 hB) rfl) rfl rfl (Nat.le_of_ble_eq_true rfl) (by omega) rfl rfl (a_W.imp w ?_)
    rintro _ ⟨v16, s14, l15, rfl, w⟩
    refine ⟨some (iv v16), _, rfl, ?_⟩
    show a_W _ 184 74 [.ref 56, iv x1, .retAddr 0] [iv v16] (mkH B s14 l15) _
    refine w_ic (p := 75) (q184 74) rfl ?_
    obtain ⟨h17, w⟩ := w
    by_cases c18 : v16 = (-1)
    · replace w := w.1 c18
      refine w_i2t (q184 75) h17 (by decide) c18 ?_
      refine w_ic (p := 83) (q184 82) rfl ?_
      exact w_ret (q184 83) rfl w
    · replace w := w.2 c18
      refine w_i2f (p := 78) (q184 75) rfl h17 (by decide) c18 ?_
      refine w_ic (p := 79) (q184 78) rfl ?_
      refine w_goto (q184 79) ?_
      exact w_ret (q184 83) rfl w
  by_cases c19 : (zz s 82 x1.toNat) = 2
  · replace w := w.2.2.1 c19
    refine w_sw (p := 84) (q184 6) (inR_zz _ _ _) (by intro g; rw [c19]; rfl) ?_
    refine w_ic (p := 85) (q184 84) rfl ?_
    exact w_ret (q184 85) rfl w
  by_cases c20 : (zz s 82 x1.toNat) = 3
  · replace w := w.2.2.2.1 c20
    refine w_sw (p := 86) (q184 6) (inR_zz _ _ _) (by intro g; rw [c20]; rfl) ?_
    refine w_aln (p := 87) (q184 86) rfl rfl ?_
    refine w_aln (p := 88) (q184 87) rfl rfl ?_
    refine w_gR (p := 91) (j := 43) (v := 83) (q184 88) rfl (r56 hB) (by decide) (f56_43 hB) ?_
    refine w_iln (p := 92) (q184 91) rfl rfl ?_
    refine w_ia (p := 93) (v := (zz s 83 x1.toNat)) (q184 92) rfl (r83 hB) (by decide) o1 (iv_zz s 83 x1.toNat) ?_
    refine w_call (st := []) (as := [.ref 56, iv (zz s 83 x1.toNat)]) (as' := [iv (zz s 83 x1.toNat), .ref 56]) (p := 96) (q184 93) rfl m184 (by decide) (a_ok_i rfl (r56 hB) rfl) rfl rfl (Nat.le_of_ble_eq_true rfl) (by omega) rfl rfl (a_W.imp w ?_)
    rintro _ ⟨v23, s21, l22, rfl, w⟩
    refine ⟨some (iv v23), _, rfl, ?_⟩
    show a_W _ 184 96 [.ref 56, iv x1, .retAddr 0] [iv v23] (mkH B s21 l22) _
    obtain ⟨h24, w⟩ := w
    by_cases c25 : v23 = 0
    · replace w := w.1 c25
      refine w_i1t (q184 96) h24 c25 ?_
      exact w
    · replace w := w.2 c25
      refine w_i1f (p := 99) (q184 96) rfl h24 c25 ?_
      refine w_aln (p := 100) (q184 99) rfl rfl ?_
      refine w_aln (p := 101) (q184 100) rfl rfl ?_
      refine w_gR (p := 104) (j := 44) (v := 84) (q184 101) rfl (r56 hB) (by decide) (f56_44 hB) ?_
      refine w_iln (p := 105) (q184 104) rfl rfl ?_
      refine w_ia (p := 106) (v := (zz s21 84 x1.toNat)) (q184 105) rfl (r84 hB) (by decide) o1 (iv_zz s21 84 x1.toNat) ?_
      refine w_call (st := []) (as := [.ref 56, iv (zz s21 84 x1.toNat)]) (as' := [iv (zz s21 84 x1.toNat), .ref 56]) (p := 109) (q184 106) rfl m184 (by decide) (a_ok_i rfl (r56 hB) rfl) rfl rfl (Nat.le_of_ble_eq_true rfl) (by omega) rfl rfl (a_W.imp w ?_)
      rintro _ ⟨v28, s26, l27, rfl, w⟩
      refine ⟨some (iv v28), _, rfl, ?_⟩
      show a_W _ 184 109 [.ref 56, iv x1, .retAddr 0] [iv v28] (mkH B s26 l27) _
      obtain ⟨h29, w⟩ := w
      by_cases c30 : v28 = 0
      · replace w := w.1 c30
        refine w_i1t (q184 109) h29 c30 ?_
        exact w
      · replace w := w.2 c30
        refine w_i1f (p := 112) (q184 109) rfl h29 c30 ?_
        refine w_ic (p := 113) (q184 112) rfl ?_
        refine w_goto (q184 113) ?_
        exact w_ret (q184 117) rfl w
  by_cases c31 : (zz s 82 x1.toNat) = 4
  · replace w := w.2.2.2.2.1 c31
    refine w_sw (p := 118) (q184 6) (inR_zz _ _ _) (by intro g; rw [c31]; rfl) ?_
    refine w_aln (p := 119) (q184 118) rfl rfl ?_
    refine w_gR (p := 122) (j := 60) (v := 96) (q184 119) rfl (r56 hB) (by decide) (f56_60 hB) ?_
    refine w_aln (p := 123) (q184 122) rfl rfl ?_
    refine w_gI (p := 126) (j := 59) (v := (zz s 56 59)) (q184 123) rfl (r56 hB) (by decide) (iv_zz s 56 59) ?_
    refine w_aln (p := 127) (q184 126) rfl rfl ?_
    refine w_gR (p := 130) (j := 43) (v := 83) (q184 127) rfl (r56 hB) (by decide) (f56_43 hB) ?_
    refine w_iln (p := 131) (q184 130) rfl rfl ?_
    refine w_ia (p := 132) (v := (zz s 83 x1.toNat)) (q184 131) rfl (r83 hB) (by decide) o1 (iv_zz s 83 x1.toNat) ?_
    obtain ⟨o32, w⟩ := w
    refine w_ias (p := 133) (q184 132) rfl (r96 hB) (by decide) o32 ?_
    refine w_aln (p := 134) (q184 133) rfl rfl ?_
    refine w_dupr (p := 135) (q184 134) rfl ?_
    refine w_gI (p := 138) (j := 59) (v := (zz s 56 59)) (q184 135) rfl (r56 hB) (by decide) (iv_zz s 56 59) ?_
    refine w_ic (p := 139) (q184 138) rfl ?_
    refine w_add (p := 140) (q184 139) rfl ?_
    refine w_pI (p := 143) (j := 59) (q184 140) rfl (r56 hB) (by decide) rfl ?_
    refine w_aln (p := 144) (q184 143) rfl rfl ?_
    refine w_aln (p := 145) (q184 144) rfl rfl ?_
    refine w_gR (p := 148) (j := 44) (v := 84) (q184 145) rfl (r56 hB) (by decide) (f56_44 hB) ?_
    refine w_iln (p := 149) (q184 148) rfl rfl ?_
    refine w_ia (p := 150) (v := (zz s 84 x1.toNat)) (q184 149) rfl (r84 hB) (by decide) o1 (iv_zz s 84 x1.toNat) ?_
    refine w_call (st := []) (as := [.ref 56, iv (zz s 84 x1.toNat)]) (as' := [iv (zz s 84 x1.toNat), .ref 56]) (p := 153) (q184 150) rfl m184 (by decide) (a_ok_i rfl (r56 hB) rfl) rfl rfl (Nat.le_of_ble_eq_true rfl) (by omega) rfl rfl (a_W.imp w ?_)
    rintro _ ⟨v35, s33, l34, rfl, w⟩
    refine ⟨some (iv v35), _, rfl, ?_⟩
    show a_W _ 184 153 [.ref 56, iv x1, .retAddr 0] [iv v35] (mkH B s33 l34) _
    refine w_isn (p := 154) (ls' := [.ref 56, iv x1, iv v35]) (q184 153) rfl (Nat.le_of_ble_eq_true rfl) rfl ?_
    refine w_aln (p := 155) (q184 154) rfl rfl ?_
    refine w_dupr (p := 156) (q184 155) rfl ?_
    refine w_gI (p := 159) (j := 59) (v := (zz s33 56 59)) (q184 156) rfl (r56 hB) (by decide) (iv_zz s33 56 59) ?_
    refine w_ic (p := 160) (q184 159) rfl ?_
    refine w_sub (p := 161) (q184 160) rfl ?_
    refine w_pI (p := 164) (j := 59) (q184 161) rfl (r56 hB) (by decide) rfl ?_
    refine w_iln (p := 165) (q184 164) rfl rfl ?_
    obtain ⟨o36, w⟩ := w
    exact w_ret (q184 165) (rok_b m184 rfl o36) w
  replace w := w.2.2.2.2.2 ⟨c2, c13, c19, c20, c31⟩
  refine w_sw (p := 166) (q184 6) (inR_zz _ _ _) (sw_t (inR_zz _ _ _) (by omega) rfl) ?_
  refine w_aln (p := 167) (q184 166) rfl rfl ?_
  refine w_aln (p := 168) (q184 167) rfl rfl ?_
  refine w_gR (p := 171) (j := 43) (v := 83) (q184 168) rfl (r56 hB) (by decide) (f56_43 hB) ?_
  refine w_iln (p := 172) (q184 171) rfl rfl ?_
  refine w_ia (p := 173) (v := (zz s 83 x1.toNat)) (q184 172) rfl (r83 hB) (by decide) o1 (iv_zz s 83 x1.toNat) ?_
  refine w_call (st := []) (as := [.ref 56, iv (zz s 83 x1.toNat)]) (as' := [iv (zz s 83 x1.toNat), .ref 56]) (p := 176) (q184 173) rfl m184 (by decide) (a_ok_i rfl (r56 hB) rfl) rfl rfl (Nat.le_of_ble_eq_true rfl) (by omega) rfl rfl (a_W.imp w ?_)
  rintro _ ⟨v39, s37, l38, rfl, w⟩
  refine ⟨some (iv v39), _, rfl, ?_⟩
  show a_W _ 184 176 [.ref 56, iv x1, .retAddr 0] [iv v39] (mkH B s37 l38) _
  obtain ⟨o40, w⟩ := w
  exact w_ret (q184 176) (rok_b m184 rfl o40) w
theorem w184_63 {d : Nat} {B : aH} {Q : aR → Prop} (hB : a_Can B) (x1 : Int) (s : Nat → Nat → Int32) (l : Nat → Nat → Int64) (w : Q (.inl (some (iv 1)), (mkH B s l))) : a_W d 184 63 [.ref 56, iv x1, .retAddr 0] [] (mkH B s l) Q := by
  refine w_ic (p := 64) (q184 63) rfl ?_
  refine w_goto (q184 64) ?_
  exact w_ret (q184 68) rfl w
theorem w184_116 {d : Nat} {B : aH} {Q : aR → Prop} (hB : a_Can B) (x1 : Int) (s : Nat → Nat → Int32) (l : Nat → Nat → Int64) (w : Q (.inl (some (iv 0)), (mkH B s l))) : a_W d 184 116 [.ref 56, iv x1, .retAddr 0] [] (mkH B s l) Q := by
  refine w_ic (p := 117) (q184 116) rfl ?_
  exact w_ret (q184 117) rfl w
theorem w185_0 {d : Nat} {B : aH} {Q : aR → Prop} (hB : a_Can B) (x1 : Int) (s : Nat → Nat → Int32) (l : Nat → Nat → Int64) (w : a_W d 185 7 [.ref 56, iv x1, iv ((zz s 56 59) - 1)] [] (mkH B s l) Q) : a_W d 185 0 [.ref 56, iv x1, .retAddr 0] [] (mkH B s l) Q := by
  refine w_aln (p := 1) (q185 0) rfl rfl ?_
  refine w_gI (p := 4) (j := 59) (v := (zz s 56 59)) (q185 1) rfl (r56 hB) (by decide) (iv_zz s 56 59) ?_
  refine w_ic (p := 5) (q185 4) rfl ?_
  refine w_sub (p := 6) (q185 5) rfl ?_
  refine w_isn (p := 7) (ls' := [.ref 56, iv x1, iv ((zz s 56 59) - 1)]) (q185 6) rfl (Nat.le_of_ble_eq_true rfl) rfl ?_
  exact w
theorem w185_7 {d : Nat} {B : aH} {Q : aR → Prop} (hB : a_Can B) (hd : 1 ≤ d) (x1 x2 : Int) (s : Nat → Nat → Int32) (l : Nat → Nat → Int64) (w : (inR x2 ∧ ((x2 < 0 → a_W d 185 38 [.ref 56, iv x1, iv x2] [] (mkH B s l) Q) ∧ (0 ≤ x2 → ((0 ≤ x2 ∧ x2 < 600) ∧ a_W (d - 1) 159 0 [.ref 74, iv (zz s 96 x2.toNat), .ref 74, iv x1] [] (mkH B s l) (fun r => ∃ (v6 : Int) (s4 : Nat → Nat → Int32) (l5 : Nat → Nat → Int64), r = (.inl (some (iv v6)), mkH B s4 l5) ∧ (inR v6 ∧ ((v6 ≠ 0 → a_W d 185 38 [.ref 56, iv x1, iv x2] [] (mkH B s4 l5) Q) ∧ (v6 = 0 → a_W d 185 7 [.ref 56, iv x1, iv (x2 + (-1))] [] (mkH B s4 l5) Q))))))))) : a_W d 185 7 [.ref 56, iv x1, iv x2] [] (mkH B s l) Q := by
  refine w_iln (p := 8) (q185 7) rfl rfl ?_
  obtain ⟨h1, w⟩ := w
  by_cases c2 : x2 < 0
  · replace w := w.1 c2
    refine w_i1t (q185 8) h1 c2 ?_
    exact w
  · replace w := w.2 (Int.not_lt.mp c2)
    refine w_i1f (p := 11) (q185 8) rfl h1 c2 ?_
    refine w_aln (p := 12) (q185 11) rfl rfl ?_
    refine w_gR (p := 15) (j := 30) (v := 74) (q185 12) rfl (r56 hB) (by decide) (f56_30 hB) ?_
    refine w_aln (p := 16) (q185 15) rfl rfl ?_
    refine w_gR (p := 19) (j := 60) (v := 96) (q185 16) rfl (r56 hB) (by decide) (f56_60 hB) ?_
    refine w_iln (p := 20) (q185 19) rfl rfl ?_
    obtain ⟨o3, w⟩ := w
    refine w_ia (p := 21) (v := (zz s 96 x2.toNat)) (q185 20) rfl (r96 hB) (by decide) o3 (iv_zz s 96 x2.toNat) ?_
    refine w_aln (p := 22) (q185 21) rfl rfl ?_
    refine w_gR (p := 25) (j := 30) (v := 74) (q185 22) rfl (r56 hB) (by decide) (f56_30 hB) ?_
    refine w_iln (p := 26) (q185 25) rfl rfl ?_
    refine w_call (st := []) (as := [.ref 74, iv (zz s 96 x2.toNat), .ref 74, iv x1]) (as' := [iv x1, .ref 74, iv (zz s 96 x2.toNat), .ref 74]) (p := 29) (q185 26) rfl m159 (by decide) (a_ok_s rfl rfl) rfl rfl (Nat.le_of_ble_eq_true rfl) (by omega) rfl rfl (a_W.imp w ?_)
    rintro _ ⟨v6, s4, l5, rfl, w⟩
    refine ⟨some (iv v6), _, rfl, ?_⟩
    show a_W _ 185 29 [.ref 56, iv x1, iv x2] [iv v6] (mkH B s4 l5) _
    obtain ⟨h7, w⟩ := w
    by_cases c8 : v6 ≠ 0
    · replace w := w.1 c8
      refine w_i1t (q185 29) h7 c8 ?_
      exact w
    · replace w := w.2 (Decidable.not_not.mp c8)
      refine w_i1f (p := 32) (q185 29) rfl h7 c8 ?_
      refine w_inc (p := 35) (ls' := [.ref 56, iv x1, iv (x2 + (-1))]) (q185 32) rfl rfl rfl ?_
      refine w_goto (q185 35) ?_
      exact w
theorem w185_38 {d : Nat} {B : aH} {Q : aR → Prop} (hB : a_Can B) (x1 x2 : Int) (s : Nat → Nat → Int32) (l : Nat → Nat → Int64) (w : Q (.inl (some (iv x2)), (mkH B s l))) : a_W d 185 38 [.ref 56, iv x1, iv x2] [] (mkH B s l) Q := by
  refine w_iln (p := 39) (q185 38) rfl rfl ?_
  exact w_ret (q185 39) rfl w
theorem w186_0 {d : Nat} {B : aH} {Q : aR → Prop} (hB : a_Can B) (hd : 1 ≤ d) (x1 : Int) (s : Nat → Nat → Int32) (l : Nat → Nat → Int64) (w : ((0 ≤ x1 ∧ x1 < 30100) ∧ (((zz s 82 x1.toNat) ≠ 0 → (((zz s 83 x1.toNat) ≠ (-1) → Q (.inl (some (iv (zz s 83 x1.toNat))), (mkH B s l))) ∧ ((zz s 83 x1.toNat) = (-1) → ((0 ≤ (zz s 84 x1.toNat) ∧ (zz s 84 x1.toNat) < 29) ∧ Q (.inl (some (iv (zz s 60 (zz s 84 x1.toNat).toNat))), (mkH B s l)))))) ∧ ((zz s 82 x1.toNat) = 0 → a_W (d - 1) 158 0 [.ref 58, iv (zz s 56 3), .ref 74, iv (zz s 83 x1.toNat), .retAddr 0] [] (mkH B s l) (fun r => ∃ (v7 : Int) (s5 : Nat → Nat → Int32) (l6 : Nat → Nat → Int64), r = (.inl (some (iv v7)), mkH B s5 l6) ∧ Q (.inl (some (iv v7)), (mkH B s5 l6))))))) : a_W d 186 0 [.ref 56, iv x1] [] (mkH B s l) Q := by
  refine w_aln (p := 1) (q186 0) rfl rfl ?_
  refine w_gR (p := 4) (j := 42) (v := 82) (q186 1) rfl (r56 hB) (by decide) (f56_42 hB) ?_
  refine w_iln (p := 5) (q186 4) rfl rfl ?_
  obtain ⟨o1, w⟩ := w
  refine w_ia (p := 6) (v := (zz s 82 x1.toNat)) (q186 5) rfl (r82 hB) (by decide) o1 (iv_zz s 82 x1.toNat) ?_
  by_cases c2 : (zz s 82 x1.toNat) ≠ 0
  · replace w := w.1 c2
    refine w_i1t (q186 6) (inR_zz _ _ _) c2 ?_
    refine w_aln (p := 34) (q186 33) rfl rfl ?_
    refine w_gR (p := 37) (j := 43) (v := 83) (q186 34) rfl (r56 hB) (by decide) (f56_43 hB) ?_
    refine w_iln (p := 38) (q186 37) rfl rfl ?_
    refine w_ia (p := 39) (v := (zz s 83 x1.toNat)) (q186 38) rfl (r83 hB) (by decide) o1 (iv_zz s 83 x1.toNat) ?_
    refine w_ic (p := 40) (q186 39) rfl ?_
    by_cases c3 : (zz s 83 x1.toNat) ≠ (-1)
    · replace w := w.1 c3
      refine w_i2t (q186 40) (inR_zz _ _ _) (by decide) c3 ?_
      refine w_aln (p := 58) (q186 57) rfl rfl ?_
      refine w_gR (p := 61) (j := 43) (v := 83) (q186 58) rfl (r56 hB) (by decide) (f56_43 hB) ?_
      refine w_iln (p := 62) (q186 61) rfl rfl ?_
      refine w_ia (p := 63) (v := (zz s 83 x1.toNat)) (q186 62) rfl (r83 hB) (by decide) o1 (iv_zz s 83 x1.toNat) ?_
      exact w_ret (q186 63) rfl w
    · replace w := w.2 (Decidable.not_not.mp c3)
      refine w_i2f (p := 43) (q186 40) rfl (inR_zz _ _ _) (by decide) c3 ?_
      refine w_aln (p := 44) (q186 43) rfl rfl ?_
      refine w_gR (p := 47) (j := 8) (v := 60) (q186 44) rfl (r56 hB) (by decide) (f56_8 hB) ?_
      refine w_aln (p := 48) (q186 47) rfl rfl ?_
      refine w_gR (p := 51) (j := 44) (v := 84) (q186 48) rfl (r56 hB) (by decide) (f56_44 hB) ?_
      refine w_iln (p := 52) (q186 51) rfl rfl ?_
      refine w_ia (p := 53) (v := (zz s 84 x1.toNat)) (q186 52) rfl (r84 hB) (by decide) o1 (iv_zz s 84 x1.toNat) ?_
      obtain ⟨o4, w⟩ := w
      refine w_ia (p := 54) (v := (zz s 60 (zz s 84 x1.toNat).toNat)) (q186 53) rfl (r60 hB) (by decide) o4 (iv_zz s 60 (zz s 84 x1.toNat).toNat) ?_
      refine w_goto (q186 54) ?_
      exact w_ret (q186 63) rfl w
  · replace w := w.2 (Decidable.not_not.mp c2)
    refine w_i1f (p := 9) (q186 6) rfl (inR_zz _ _ _) c2 ?_
    refine w_aln (p := 10) (q186 9) rfl rfl ?_
    refine w_gR (p := 13) (j := 6) (v := 58) (q186 10) rfl (r56 hB) (by decide) (f56_6 hB) ?_
    refine w_aln (p := 14) (q186 13) rfl rfl ?_
    refine w_gI (p := 17) (j := 3) (v := (zz s 56 3)) (q186 14) rfl (r56 hB) (by decide) (iv_zz s 56 3) ?_
    refine w_aln (p := 18) (q186 17) rfl rfl ?_
    refine w_gR (p := 21) (j := 30) (v := 74) (q186 18) rfl (r56 hB) (by decide) (f56_30 hB) ?_
    refine w_aln (p := 22) (q186 21) rfl rfl ?_
    refine w_gR (p := 25) (j := 43) (v := 83) (q186 22) rfl (r56 hB) (by decide) (f56_43 hB) ?_
    refine w_iln (p := 26) (q186 25) rfl rfl ?_
    refine w_ia (p := 27) (v := (zz s 83 x1.toNat)) (q186 26) rfl (r83 hB) (by decide) o1 (iv_zz s 83 x1.toNat) ?_
    refine w_call (st := []) (as := [.ref 58, iv (zz s 56 3), .ref 74, iv (zz s 83 x1.toNat)]) (as' := [iv (zz s 83 x1.toNat), .ref 74, iv (zz s 56 3), .ref 58]) (p := 30) (q186 27) rfl m158 (by decide) (a_ok_s rfl rfl) rfl rfl (Nat.le_of_ble_eq_true rfl) (by omega) rfl rfl (a_W.imp w ?_)
    rintro _ ⟨v7, s5, l6, rfl, w⟩
    refine ⟨some (iv v7), _, rfl, ?_⟩
    show a_W _ 186 30 [.ref 56, iv x1] [iv v7] (mkH B s5 l6) _
    refine w_goto (q186 30) ?_
    exact w_ret (q186 63) rfl w
theorem w188_0 {d : Nat} {B : aH} {Q : aR → Prop} (hB : a_Can B) (x1 x2 : Int) (s : Nat → Nat → Int32) (l : Nat → Nat → Int64) (w : ((0 ≤ (zz s 56 62) ∧ (zz s 56 62) < 520) ∧ Q (.inl (some (iv x2)), (mkH B (zu (zu (zu s 98 (zz s 56 62).toNat x1) 99 (zz s 56 62).toNat x2) 56 62 ((zz s 56 62) + 1)) l)))) : a_W d 188 0 [.ref 56, iv x1, iv x2] [] (mkH B s l) Q := by
  refine w_aln (p := 1) (q188 0) rfl rfl ?_
  refine w_gR (p := 4) (j := 63) (v := 98) (q188 1) rfl (r56 hB) (by decide) (f56_63 hB) ?_
  refine w_aln (p := 5) (q188 4) rfl rfl ?_
  refine w_gI (p := 8) (j := 62) (v := (zz s 56 62)) (q188 5) rfl (r56 hB) (by decide) (iv_zz s 56 62) ?_
  refine w_iln (p := 9) (q188 8) rfl rfl ?_
  obtain ⟨o1, w⟩ := w
  refine w_ias (p := 10) (q188 9) rfl (r98 hB) (by decide) o1 ?_
  refine w_aln (p := 11) (q188 10) rfl rfl ?_
  refine w_gR (p := 14) (j := 64) (v := 99) (q188 11) rfl (r56 hB) (by decide) (f56_64 hB) ?_
  refine w_aln (p := 15) (q188 14) rfl rfl ?_
  refine w_gI (p := 18) (j := 62) (v := (zz s 56 62)) (q188 15) rfl (r56 hB) (by decide) (iv_zz s 56 62) ?_
  refine w_iln (p := 19) (q188 18) rfl rfl ?_
  refine w_ias (p := 20) (q188 19) rfl (r99 hB) (by decide) o1 ?_
  refine w_aln (p := 21) (q188 20) rfl rfl ?_
  refine w_dupr (p := 22) (q188 21) rfl ?_
  refine w_gI (p := 25) (j := 62) (v := (zz s 56 62)) (q188 22) rfl (r56 hB) (by decide) (iv_zz s 56 62) ?_
  refine w_ic (p := 26) (q188 25) rfl ?_
  refine w_add (p := 27) (q188 26) rfl ?_
  refine w_pI (p := 30) (j := 62) (q188 27) rfl (r56 hB) (by decide) rfl ?_
  refine w_iln (p := 31) (q188 30) rfl rfl ?_
  exact w_ret (q188 31) rfl w
theorem w191_0 {d : Nat} {B : aH} {Q : aR → Prop} (hB : a_Can B) (hd : 1 ≤ d) (s : Nat → Nat → Int32) (l : Nat → Nat → Int64) (w : ((0 ≤ (zz s 56 16) ∧ (zz s 56 16) < 60000) ∧ Q (.inl (some (iv (((zz s 56 16) + 1) - 1))), (mkH B (zu (zu (zu (zu (zu s 64 (zz s 56 16).toNat (-1)) 65 (zz s 56 16).toNat (-1)) 66 (zz s 56 16).toNat (-1)) 67 (zz s 56 16).toNat (-1)) 56 16 ((zz s 56 16) + 1)) l)))) : a_W d 191 0 [.ref 56] [] (mkH B s l) Q := by
  refine w_aln (p := 1) (q191 0) rfl rfl ?_
  refine w_ic (p := 2) (q191 1) rfl ?_
  refine w_ic (p := 3) (q191 2) rfl ?_
  refine w_ic (p := 4) (q191 3) rfl ?_
  refine w_call (st := []) (as := [.ref 56, iv (-1), iv (-1), iv (-1)]) (as' := [iv (-1), iv (-1), iv (-1), .ref 56]) (p := 7) (q191 4) rfl m137 (by decide) (a_ok_i rfl (r56 hB) rfl) rfl rfl (Nat.le_of_ble_eq_true rfl) (by omega) rfl rfl ?_
  refine w_aln (p := 1) (q137 0) rfl rfl ?_
  refine w_gR (p := 4) (j := 12) (v := 64) (q137 1) rfl (r56 hB) (by decide) (f56_12 hB) ?_
  refine w_aln (p := 5) (q137 4) rfl rfl ?_
  refine w_gI (p := 8) (j := 16) (v := (zz s 56 16)) (q137 5) rfl (r56 hB) (by decide) (iv_zz s 56 16) ?_
  refine w_iln (p := 9) (q137 8) rfl rfl ?_
  obtain ⟨o1, w⟩ := w
  refine w_ias (p := 10) (q137 9) rfl (r64 hB) (by decide) o1 ?_
  refine w_aln (p := 11) (q137 10) rfl rfl ?_
  refine w_gR (p := 14) (j := 13) (v := 65) (q137 11) rfl (r56 hB) (by decide) (f56_13 hB) ?_
  refine w_aln (p := 15) (q137 14) rfl rfl ?_
  refine w_gI (p := 18) (j := 16) (v := (zz s 56 16)) (q137 15) rfl (r56 hB) (by decide) (iv_zz s 56 16) ?_
  refine w_iln (p := 19) (q137 18) rfl rfl ?_
  refine w_ias (p := 20) (q137 19) rfl (r65 hB) (by decide) o1 ?_
  refine w_aln (p := 21) (q137 20) rfl rfl ?_
  refine w_gR (p := 24) (j := 14) (v := 66) (q137 21) rfl (r56 hB) (by decide) (f56_14 hB) ?_
  refine w_aln (p := 25) (q137 24) rfl rfl ?_
  refine w_gI (p := 28) (j := 16) (v := (zz s 56 16)) (q137 25) rfl (r56 hB) (by decide) (iv_zz s 56 16) ?_
  refine w_iln (p := 29) (q137 28) rfl rfl ?_
  refine w_ias (p := 30) (q137 29) rfl (r66 hB) (by decide) o1 ?_
  refine w_aln (p := 31) (q137 30) rfl rfl ?_
  refine w_gR (p := 34) (j := 15) (v := 67) (q137 31) rfl (r56 hB) (by decide) (f56_15 hB) ?_
  refine w_aln (p := 35) (q137 34) rfl rfl ?_
  refine w_gI (p := 38) (j := 16) (v := (zz s 56 16)) (q137 35) rfl (r56 hB) (by decide) (iv_zz s 56 16) ?_
  refine w_ic (p := 39) (q137 38) rfl ?_
  refine w_ias (p := 40) (q137 39) rfl (r67 hB) (by decide) o1 ?_
  refine w_aln (p := 41) (q137 40) rfl rfl ?_
  refine w_dupr (p := 42) (q137 41) rfl ?_
  refine w_gI (p := 45) (j := 16) (v := (zz s 56 16)) (q137 42) rfl (r56 hB) (by decide) (iv_zz s 56 16) ?_
  refine w_ic (p := 46) (q137 45) rfl ?_
  refine w_add (p := 47) (q137 46) rfl ?_
  refine w_pI (p := 50) (j := 16) (q137 47) rfl (r56 hB) (by decide) rfl ?_
  refine w_aln (p := 51) (q137 50) rfl rfl ?_
  refine w_gI (p := 54) (j := 16) (v := ((zz s 56 16) + 1)) (q137 51) rfl (r56 hB) (by decide) rfl ?_
  refine w_ic (p := 55) (q137 54) rfl ?_
  refine w_sub (p := 56) (q137 55) rfl ?_
  refine w_ret (q137 56) rfl ⟨_, _, rfl, ?_⟩
  show a_W _ 191 7 [.ref 56] [iv (((zz s 56 16) + 1) - 1)] _ _
  exact w_ret (q191 7) rfl w
theorem w189_0 {d : Nat} {B : aH} {Q : aR → Prop} (hB : a_Can B) (hd : 1 ≤ d) (x1 : Int) (s : Nat → Nat → Int32) (l : Nat → Nat → Int64) (w : ((0 ≤ x1 ∧ x1 < 112) ∧ a_W (d - 1) 190 0 [.ref 56, iv (zz s 59 x1.toNat), .retAddr 0, .retAddr 0] [] (mkH B (zu s 56 58 0) l) (fun r => ∃ (v4 : Int) (s2 : Nat → Nat → Int32) (l3 : Nat → Nat → Int64), r = (.inl (some (iv v4)), mkH B s2 l3) ∧ Q (.inl (some (iv v4)), (mkH B s2 l3))))) : a_W d 189 0 [.ref 56, iv x1] [] (mkH B s l) Q := by
  refine w_aln (p := 1) (q189 0) rfl rfl ?_
  refine w_ic (p := 2) (q189 1) rfl ?_
  refine w_pI (p := 5) (j := 58) (q189 2) rfl (r56 hB) (by decide) rfl ?_
  refine w_aln (p := 6) (q189 5) rfl rfl ?_
  refine w_aln (p := 7) (q189 6) rfl rfl ?_
  refine w_gR (p := 10) (j := 7) (v := 59) (q189 7) rfl (r56 hB) (by decide) (f56_7 hB) ?_
  refine w_iln (p := 11) (q189 10) rfl rfl ?_
  obtain ⟨o1, w⟩ := w
  refine w_ia (p := 12) (v := (zz s 59 x1.toNat)) (q189 11) rfl (r59 hB) (by decide) o1 (iv_zz s 59 x1.toNat) ?_
  refine w_call (st := []) (as := [.ref 56, iv (zz s 59 x1.toNat)]) (as' := [iv (zz s 59 x1.toNat), .ref 56]) (p := 15) (q189 12) rfl m190 (by decide) (a_ok_i rfl (r56 hB) rfl) rfl rfl (Nat.le_of_ble_eq_true rfl) (by omega) rfl rfl (a_W.imp w ?_)
  rintro _ ⟨v4, s2, l3, rfl, w⟩
  refine ⟨some (iv v4), _, rfl, ?_⟩
  show a_W _ 189 15 [.ref 56, iv x1] [iv v4] (mkH B s2 l3) _
  exact w_ret (q189 15) rfl w
theorem w190_0 {d : Nat} {B : aH} {Q : aR → Prop} (hB : a_Can B) (hd : 1 ≤ d) (x1 : Int) (s : Nat → Nat → Int32) (l : Nat → Nat → Int64) (w : ((0 ≤ x1 ∧ x1 < 60000) ∧ (((-1000) < (zz s 64 x1.toNat) → (((zz s 65 x1.toNat) ≠ (-1) → a_W (d - 1) 190 0 [.ref 56, iv (zz s 65 x1.toNat), .retAddr 0, .retAddr 0] [] (mkH B s l) (fun r => ∃ (v6 : Int) (s4 : Nat → Nat → Int32) (l5 : Nat → Nat → Int64), r = (.inl (some (iv v6)), mkH B s4 l5) ∧ (((zz s4 66 x1.toNat) ≠ (-1) → a_W (d - 1) 190 0 [.ref 56, iv (zz s4 66 x1.toNat), .retAddr 0, .retAddr 0] [] (mkH B s4 l5) (fun r => ∃ (v10 : Int) (s8 : Nat → Nat → Int32) (l9 : Nat → Nat → Int64), r = (.inl (some (iv v10)), mkH B s8 l9) ∧ ((0 ≤ (zz s8 56 16) ∧ (zz s8 56 16) < 60000) ∧ Q (.inl (some (iv (((zz s8 56 16) + 1) - 1))), (mkH B (zu (zu (zu (zu (zu s8 64 (zz s8 56 16).toNat (zz s8 64 x1.toNat)) 65 (zz s8 56 16).toNat v6) 66 (zz s8 56 16).toNat v10) 67 (zz s8 56 16).toNat (-1)) 56 16 ((zz s8 56 16) + 1)) l9))))) ∧ ((zz s4 66 x1.toNat) = (-1) → ((0 ≤ (zz s4 56 16) ∧ (zz s4 56 16) < 60000) ∧ Q (.inl (some (iv (((zz s4 56 16) + 1) - 1))), (mkH B (zu (zu (zu (zu (zu s4 64 (zz s4 56 16).toNat (zz s4 64 x1.toNat)) 65 (zz s4 56 16).toNat v6) 66 (zz s4 56 16).toNat (-1)) 67 (zz s4 56 16).toNat (-1)) 56 16 ((zz s4 56 16) + 1)) l5))))))) ∧ ((zz s 65 x1.toNat) = (-1) → Q (.inl (some (iv x1)), (mkH B s l))))) ∧ ((zz s 64 x1.toNat) ≤ (-1000) → a_W d 190 14 [.ref 56, iv x1, iv 0, .retAddr 0] [] (mkH B s l) Q)))) : a_W d 190 0 [.ref 56, iv x1, .retAddr 0, .retAddr 0] [] (mkH B s l) Q := by
  refine w_aln (p := 1) (q190 0) rfl rfl ?_
  refine w_gR (p := 4) (j := 12) (v := 64) (q190 1) rfl (r56 hB) (by decide) (f56_12 hB) ?_
  refine w_iln (p := 5) (q190 4) rfl rfl ?_
  obtain ⟨o1, w⟩ := w
  refine w_ia (p := 6) (v := (zz s 64 x1.toNat)) (q190 5) rfl (r64 hB) (by decide) o1 (iv_zz s 64 x1.toNat) ?_
  refine w_sp (p := 9) (q190 6) rfl (by decide) ?_
  by_cases c2 : (-1000) < (zz s 64 x1.toNat)
  · replace w := w.1 c2
    refine w_i2t (q190 9) (inR_zz _ _ _) (by decide) c2 ?_
    refine w_aln (p := 101) (q190 100) rfl rfl ?_
    refine w_gR (p := 104) (j := 13) (v := 65) (q190 101) rfl (r56 hB) (by decide) (f56_13 hB) ?_
    refine w_iln (p := 105) (q190 104) rfl rfl ?_
    refine w_ia (p := 106) (v := (zz s 65 x1.toNat)) (q190 105) rfl (r65 hB) (by decide) o1 (iv_zz s 65 x1.toNat) ?_
    refine w_ic (p := 107) (q190 106) rfl ?_
    by_cases c3 : (zz s 65 x1.toNat) ≠ (-1)
    · replace w := w.1 c3
      refine w_i2t (q190 107) (inR_zz _ _ _) (by decide) c3 ?_
      refine w_aln (p := 113) (q190 112) rfl rfl ?_
      refine w_aln (p := 114) (q190 113) rfl rfl ?_
      refine w_gR (p := 117) (j := 13) (v := 65) (q190 114) rfl (r56 hB) (by decide) (f56_13 hB) ?_
      refine w_iln (p := 118) (q190 117) rfl rfl ?_
      refine w_ia (p := 119) (v := (zz s 65 x1.toNat)) (q190 118) rfl (r65 hB) (by decide) o1 (iv_zz s 65 x1.toNat) ?_
      refine w_call (st := []) (as := [.ref 56, iv (zz s 65 x1.toNat)]) (as' := [iv (zz s 65 x1.toNat), .ref 56]) (p := 122) (q190 119) rfl m190 (by decide) (a_ok_i rfl (r56 hB) rfl) rfl rfl (Nat.le_of_ble_eq_true rfl) (by omega) rfl rfl (a_W.imp w ?_)
      rintro _ ⟨v6, s4, l5, rfl, w⟩
      refine ⟨some (iv v6), _, rfl, ?_⟩
      show a_W _ 190 122 [.ref 56, iv x1, .retAddr 0, .retAddr 0] [iv v6] (mkH B s4 l5) _
      refine w_isn (p := 123) (ls' := [.ref 56, iv x1, iv v6, .retAddr 0]) (q190 122) rfl (Nat.le_of_ble_eq_true rfl) rfl ?_
      refine w_aln (p := 124) (q190 123) rfl rfl ?_
      refine w_gR (p := 127) (j := 14) (v := 66) (q190 124) rfl (r56 hB) (by decide) (f56_14 hB) ?_
      refine w_iln (p := 128) (q190 127) rfl rfl ?_
      refine w_ia (p := 129) (v := (zz s4 66 x1.toNat)) (q190 128) rfl (r66 hB) (by decide) o1 (iv_zz s4 66 x1.toNat) ?_
      refine w_ic (p := 130) (q190 129) rfl ?_
      by_cases c7 : (zz s4 66 x1.toNat) ≠ (-1)
      · replace w := w.1 c7
        refine w_i2t (q190 130) (inR_zz _ _ _) (by decide) c7 ?_
        refine w_aln (p := 138) (q190 137) rfl rfl ?_
        refine w_aln (p := 139) (q190 138) rfl rfl ?_
        refine w_gR (p := 142) (j := 14) (v := 66) (q190 139) rfl (r56 hB) (by decide) (f56_14 hB) ?_
        refine w_iln (p := 143) (q190 142) rfl rfl ?_
        refine w_ia (p := 144) (v := (zz s4 66 x1.toNat)) (q190 143) rfl (r66 hB) (by decide) o1 (iv_zz s4 66 x1.toNat) ?_
        refine w_call (st := []) (as := [.ref 56, iv (zz s4 66 x1.toNat)]) (as' := [iv (zz s4 66 x1.toNat), .ref 56]) (p := 147) (q190 144) rfl m190 (by decide) (a_ok_i rfl (r56 hB) rfl) rfl rfl (Nat.le_of_ble_eq_true rfl) (by omega) rfl rfl (a_W.imp w ?_)
        rintro _ ⟨v10, s8, l9, rfl, w⟩
        refine ⟨some (iv v10), _, rfl, ?_⟩
        show a_W _ 190 147 [.ref 56, iv x1, iv v6, .retAddr 0] [iv v10] (mkH B s8 l9) _
        refine w_isn (p := 148) (ls' := [.ref 56, iv x1, iv v6, iv v10]) (q190 147) rfl (Nat.le_of_ble_eq_true rfl) rfl ?_
        refine w_aln (p := 149) (q190 148) rfl rfl ?_
        refine w_aln (p := 150) (q190 149) rfl rfl ?_
        refine w_gR (p := 153) (j := 12) (v := 64) (q190 150) rfl (r56 hB) (by decide) (f56_12 hB) ?_
        refine w_iln (p := 154) (q190 153) rfl rfl ?_
        refine w_ia (p := 155) (v := (zz s8 64 x1.toNat)) (q190 154) rfl (r64 hB) (by decide) o1 (iv_zz s8 64 x1.toNat) ?_
        refine w_iln (p := 156) (q190 155) rfl rfl ?_
        refine w_iln (p := 157) (q190 156) rfl rfl ?_
        refine w_call (st := []) (as := [.ref 56, iv (zz s8 64 x1.toNat), iv v6, iv v10]) (as' := [iv v10, iv v6, iv (zz s8 64 x1.toNat), .ref 56]) (p := 160) (q190 157) rfl m137 (by decide) (a_ok_i rfl (r56 hB) rfl) rfl rfl (Nat.le_of_ble_eq_true rfl) (by omega) rfl rfl ?_
        refine w_aln (p := 1) (q137 0) rfl rfl ?_
        refine w_gR (p := 4) (j := 12) (v := 64) (q137 1) rfl (r56 hB) (by decide) (f56_12 hB) ?_
        refine w_aln (p := 5) (q137 4) rfl rfl ?_
        refine w_gI (p := 8) (j := 16) (v := (zz s8 56 16)) (q137 5) rfl (r56 hB) (by decide) (iv_zz s8 56 16) ?_
        refine w_iln (p := 9) (q137 8) rfl rfl ?_
        obtain ⟨o11, w⟩ := w
        refine w_ias (p := 10) (q137 9) rfl (r64 hB) (by decide) o11 ?_
        refine w_aln (p := 11) (q137 10) rfl rfl ?_
        refine w_gR (p := 14) (j := 13) (v := 65) (q137 11) rfl (r56 hB) (by decide) (f56_13 hB) ?_
        refine w_aln (p := 15) (q137 14) rfl rfl ?_
        refine w_gI (p := 18) (j := 16) (v := (zz s8 56 16)) (q137 15) rfl (r56 hB) (by decide) (iv_zz s8 56 16) ?_
        refine w_iln (p := 19) (q137 18) rfl rfl ?_
        refine w_ias (p := 20) (q137 19) rfl (r65 hB) (by decide) o11 ?_
        refine w_aln (p := 21) (q137 20) rfl rfl ?_
        refine w_gR (p := 24) (j := 14) (v := 66) (q137 21) rfl (r56 hB) (by decide) (f56_14 hB) ?_
        refine w_aln (p := 25) (q137 24) rfl rfl ?_
        refine w_gI (p := 28) (j := 16) (v := (zz s8 56 16)) (q137 25) rfl (r56 hB) (by decide) (iv_zz s8 56 16) ?_
        refine w_iln (p := 29) (q137 28) rfl rfl ?_
        refine w_ias (p := 30) (q137 29) rfl (r66 hB) (by decide) o11 ?_
        refine w_aln (p := 31) (q137 30) rfl rfl ?_
        refine w_gR (p := 34) (j := 15) (v := 67) (q137 31) rfl (r56 hB) (by decide) (f56_15 hB) ?_
        refine w_aln (p := 35) (q137 34) rfl rfl ?_
        refine w_gI (p := 38) (j := 16) (v := (zz s8 56 16)) (q137 35) rfl (r56 hB) (by decide) (iv_zz s8 56 16) ?_
        refine w_ic (p := 39) (q137 38) rfl ?_
        refine w_ias (p := 40) (q137 39) rfl (r67 hB) (by decide) o11 ?_
        refine w_aln (p := 41) (q137 40) rfl rfl ?_
        refine w_dupr (p := 42) (q137 41) rfl ?_
        refine w_gI (p := 45) (j := 16) (v := (zz s8 56 16)) (q137 42) rfl (r56 hB) (by decide) (iv_zz s8 56 16) ?_
        refine w_ic (p := 46) (q137 45) rfl ?_
        refine w_add (p := 47) (q137 46) rfl ?_
        refine w_pI (p := 50) (j := 16) (q137 47) rfl (r56 hB) (by decide) rfl ?_
        refine w_aln (p := 51) (q137 50) rfl rfl ?_
        refine w_gI (p := 54) (j := 16) (v := ((zz s8 56 16) + 1)) (q137 51) rfl (r56 hB) (by decide) rfl ?_
        refine w_ic (p := 55) (q137 54) rfl ?_
        refine w_sub (p := 56) (q137 55) rfl ?_
        refine w_ret (q137 56) rfl ⟨_, _, rfl, ?_⟩
        show a_W _ 190 160 [.ref 56, iv x1, iv v6, iv v10] [iv (((zz s8 56 16) + 1) - 1)] _ _
        exact w_ret (q190 160) rfl w
      · replace w := w.2 (Decidable.not_not.mp c7)
        refine w_i2f (p := 133) (q190 130) rfl (inR_zz _ _ _) (by decide) c7 ?_
        refine w_ic (p := 134) (q190 133) rfl ?_
        refine w_goto (q190 134) ?_
        refine w_isn (p := 148) (ls' := [.ref 56, iv x1, iv v6, iv (-1)]) (q190 147) rfl (Nat.le_of_ble_eq_true rfl) rfl ?_
        refine w_aln (p := 149) (q190 148) rfl rfl ?_
        refine w_aln (p := 150) (q190 149) rfl rfl ?_
        refine w_gR (p := 153) (j := 12) (v := 64) (q190 150) rfl (r56 hB) (by decide) (f56_12 hB) ?_
        refine w_iln (p := 154) (q190 153) rfl rfl ?_
        refine w_ia (p := 155) (v := (zz s4 64 x1.toNat)) (q190 154) rfl (r64 hB) (by decide) o1 (iv_zz s4 64 x1.toNat) ?_
        refine w_iln (p := 156) (q190 155) rfl rfl ?_
        refine w_iln (p := 157) (q190 156) rfl rfl ?_
        refine w_call (st := []) (as := [.ref 56, iv (zz s4 64 x1.toNat), iv v6, iv (-1)]) (as' := [iv (-1), iv v6, iv (zz s4 64 x1.toNat), .ref 56]) (p := 160) (q190 157) rfl m137 (by decide) (a_ok_i rfl (r56 hB) rfl) rfl rfl (Nat.le_of_ble_eq_true rfl) (by omega) rfl rfl ?_
        refine w_aln (p := 1) (q137 0) rfl rfl ?_
        refine w_gR (p := 4) (j := 12) (v := 64) (q137 1) rfl (r56 hB) (by decide) (f56_12 hB) ?_
        refine w_aln (p := 5) (q137 4) rfl rfl ?_
        refine w_gI (p := 8) (j := 16) (v := (zz s4 56 16)) (q137 5) rfl (r56 hB) (by decide) (iv_zz s4 56 16) ?_
        refine w_iln (p := 9) (q137 8) rfl rfl ?_
        obtain ⟨o12, w⟩ := w
        refine w_ias (p := 10) (q137 9) rfl (r64 hB) (by decide) o12 ?_
        refine w_aln (p := 11) (q137 10) rfl rfl ?_
        refine w_gR (p := 14) (j := 13) (v := 65) (q137 11) rfl (r56 hB) (by decide) (f56_13 hB) ?_
        refine w_aln (p := 15) (q137 14) rfl rfl ?_
        refine w_gI (p := 18) (j := 16) (v := (zz s4 56 16)) (q137 15) rfl (r56 hB) (by decide) (iv_zz s4 56 16) ?_
        refine w_iln (p := 19) (q137 18) rfl rfl ?_
        refine w_ias (p := 20) (q137 19) rfl (r65 hB) (by decide) o12 ?_
        refine w_aln (p := 21) (q137 20) rfl rfl ?_
        refine w_gR (p := 24) (j := 14) (v := 66) (q137 21) rfl (r56 hB) (by decide) (f56_14 hB) ?_
        refine w_aln (p := 25) (q137 24) rfl rfl ?_
        refine w_gI (p := 28) (j := 16) (v := (zz s4 56 16)) (q137 25) rfl (r56 hB) (by decide) (iv_zz s4 56 16) ?_
        refine w_iln (p := 29) (q137 28) rfl rfl ?_
        refine w_ias (p := 30) (q137 29) rfl (r66 hB) (by decide) o12 ?_
        refine w_aln (p := 31) (q137 30) rfl rfl ?_
        refine w_gR (p := 34) (j := 15) (v := 67) (q137 31) rfl (r56 hB) (by decide) (f56_15 hB) ?_
        refine w_aln (p := 35) (q137 34) rfl rfl ?_
        refine w_gI (p := 38) (j := 16) (v := (zz s4 56 16)) (q137 35) rfl (r56 hB) (by decide) (iv_zz s4 56 16) ?_
        refine w_ic (p := 39) (q137 38) rfl ?_
        refine w_ias (p := 40) (q137 39) rfl (r67 hB) (by decide) o12 ?_
        refine w_aln (p := 41) (q137 40) rfl rfl ?_
        refine w_dupr (p := 42) (q137 41) rfl ?_
        refine w_gI (p := 45) (j := 16) (v := (zz s4 56 16)) (q137 42) rfl (r56 hB) (by decide) (iv_zz s4 56 16) ?_
        refine w_ic (p := 46) (q137 45) rfl ?_
        refine w_add (p := 47) (q137 46) rfl ?_
        refine w_pI (p := 50) (j := 16) (q137 47) rfl (r56 hB) (by decide) rfl ?_
        refine w_aln (p := 51) (q137 50) rfl rfl ?_
        refine w_gI (p := 54) (j := 16) (v := ((zz s4 56 16) + 1)) (q137 51) rfl (r56 hB) (by decide) rfl ?_
        refine w_ic (p := 55) (q137 54) rfl ?_
        refine w_sub (p := 56) (q137 55) rfl ?_
        refine w_ret (q137 56) rfl ⟨_, _, rfl, ?_⟩
        show a_W _ 190 160 [.ref 56, iv x1, iv v6, iv (-1)] [iv (((zz s4 56 16) + 1) - 1)] _ _
        exact w_ret (q190 160) rfl w
    · replace w := w.2 (Decidable.not_not.mp c3)
      refine w_i2f (p := 110) (q190 107) rfl (inR_zz _ _ _) (by decide) c3 ?_
      refine w_iln (p := 111) (q190 110) rfl rfl ?_
      exact w_ret (q190 111) rfl w
  · replace w := w.2 (Int.not_lt.mp c2)
    refine w_i2f (p := 12) (q190 9) rfl (inR_zz _ _ _) (by decide) c2 ?_
    refine w_ic (p := 13) (q190 12) rfl ?_
    refine w_isn (p := 14) (ls' := [.ref 56, iv x1, iv 0, .retAddr 0]) (q190 13) rfl (Nat.le_of_ble_eq_true rfl) rfl ?_
    exact w
theorem w190_14 {d : Nat} {B : aH} {Q : aR → Prop} (hB : a_Can B) (hd : 1 ≤ d) (x1 x2 : Int) (s : Nat → Nat → Int32) (l : Nat → Nat → Int64) (w : (inR x2 ∧ (((zz s 56 58) ≤ x2 → ((0 ≤ x1 ∧ x1 < 60000) ∧ ((0 ≤ (zz s 56 58) ∧ (zz s 56 58) < 48) ∧ a_W (d - 1) 191 0 [.ref 56] [] (mkH B (zu s 94 (zz s 56 58).toNat (zz s 64 x1.toNat)) l) (fun r => ∃ (v7 : Int) (s5 : Nat → Nat → Int32) (l6 : Nat → Nat → Int64), r = (.inl (some (iv v7)), mkH B s5 l6) ∧ ((0 ≤ (((zz s5 56 58) + 1) - 1) ∧ (((zz s5 56 58) + 1) - 1) < 48) ∧ Q (.inl (some (iv (zz (zu s5 95 (zz s 56 58).toNat v7) 95 (((zz s5 56 58) + 1) - 1).toNat))), (mkH B (zu (zu s5 95 (zz s 56 58).toNat v7) 56 58 ((zz s5 56 58) + 1)) l6))))))) ∧ (x2 < (zz s 56 58) → ((0 ≤ x2 ∧ x2 < 48) ∧ ((0 ≤ x1 ∧ x1 < 60000) ∧ (((zz s 94 x2.toNat) ≠ (zz s 64 x1.toNat) → a_W d 190 14 [.ref 56, iv x1, iv (x2 + 1), .retAddr 0] [] (mkH B s l) Q) ∧ ((zz s 94 x2.toNat) = (zz s 64 x1.toNat) → Q (.inl (some (iv (zz s 95 x2.toNat))), (mkH B s l)))))))))) : a_W d 190 14 [.ref 56, iv x1, iv x2, .retAddr 0] [] (mkH B s l) Q := by
  refine w_iln (p := 15) (q190 14) rfl rfl ?_
  refine w_aln (p := 16) (q190 15) rfl rfl ?_
  refine w_gI (p := 19) (j := 58) (v := (zz s 56 58)) (q190 16) rfl (r56 hB) (by decide) (iv_zz s 56 58) ?_
  obtain ⟨h1, w⟩ := w
  by_cases c2 : (zz s 56 58) ≤ x2
  · replace w := w.1 c2
    refine w_i2t (q190 19) h1 (inR_zz _ _ _) c2 ?_
    refine w_aln (p := 51) (q190 50) rfl rfl ?_
    refine w_gR (p := 54) (j := 56) (v := 94) (q190 51) rfl (r56 hB) (by decide) (f56_56 hB) ?_
    refine w_aln (p := 55) (q190 54) rfl rfl ?_
    refine w_gI (p := 58) (j := 58) (v := (zz s 56 58)) (q190 55) rfl (r56 hB) (by decide) (iv_zz s 56 58) ?_
    refine w_aln (p := 59) (q190 58) rfl rfl ?_
    refine w_gR (p := 62) (j := 12) (v := 64) (q190 59) rfl (r56 hB) (by decide) (f56_12 hB) ?_
    refine w_iln (p := 63) (q190 62) rfl rfl ?_
    obtain ⟨o3, w⟩ := w
    refine w_ia (p := 64) (v := (zz s 64 x1.toNat)) (q190 63) rfl (r64 hB) (by decide) o3 (iv_zz s 64 x1.toNat) ?_
    obtain ⟨o4, w⟩ := w
    refine w_ias (p := 65) (q190 64) rfl (r94 hB) (by decide) o4 ?_
    refine w_aln (p := 66) (q190 65) rfl rfl ?_
    refine w_gR (p := 69) (j := 57) (v := 95) (q190 66) rfl (r56 hB) (by decide) (f56_57 hB) ?_
    refine w_aln (p := 70) (q190 69) rfl rfl ?_
    refine w_gI (p := 73) (j := 58) (v := (zz s 56 58)) (q190 70) rfl (r56 hB) (by decide) (iv_zz s 56 58) ?_
    refine w_aln (p := 74) (q190 73) rfl rfl ?_
    refine w_call (st := [iv (zz s 56 58), .ref 95]) (as := [.ref 56]) (as' := [.ref 56]) (p := 77) (q190 74) rfl m191 (by decide) (a_ok_i rfl (r56 hB) rfl) rfl rfl (Nat.le_of_ble_eq_true rfl) (by omega) rfl rfl (a_W.imp w ?_)
    rintro _ ⟨v7, s5, l6, rfl, w⟩
    refine ⟨some (iv v7), _, rfl, ?_⟩
    show a_W _ 190 77 [.ref 56, iv x1, iv x2, .retAddr 0] [iv v7, iv (zz s 56 58), .ref 95] (mkH B s5 l6) _
    refine w_ias (p := 78) (q190 77) rfl (r95 hB) (by decide) o4 ?_
    refine w_aln (p := 79) (q190 78) rfl rfl ?_
    refine w_dupr (p := 80) (q190 79) rfl ?_
    refine w_gI (p := 83) (j := 58) (v := (zz s5 56 58)) (q190 80) rfl (r56 hB) (by decide) (iv_zz s5 56 58) ?_
    refine w_ic (p := 84) (q190 83) rfl ?_
    refine w_add (p := 85) (q190 84) rfl ?_
    refine w_pI (p := 88) (j := 58) (q190 85) rfl (r56 hB) (by decide) rfl ?_
    refine w_aln (p := 89) (q190 88) rfl rfl ?_
    refine w_gR (p := 92) (j := 57) (v := 95) (q190 89) rfl (r56 hB) (by decide) (f56_57 hB) ?_
    refine w_aln (p := 93) (q190 92) rfl rfl ?_
    refine w_gI (p := 96) (j := 58) (v := ((zz s5 56 58) + 1)) (q190 93) rfl (r56 hB) (by decide) rfl ?_
    refine w_ic (p := 97) (q190 96) rfl ?_
    refine w_sub (p := 98) (q190 97) rfl ?_
    obtain ⟨o8, w⟩ := w
    refine w_ia (p := 99) (v := (zz (zu s5 95 (zz s 56 58).toNat v7) 95 (((zz s5 56 58) + 1) - 1).toNat)) (q190 98) rfl (r95 hB) (by decide) o8 (iv_zz (zu s5 95 (zz s 56 58).toNat v7) 95 (((zz s5 56 58) + 1) - 1).toNat) ?_
    exact w_ret (q190 99) rfl w
  · replace w := w.2 (Int.not_le.mp c2)
    refine w_i2f (p := 22) (q190 19) rfl h1 (inR_zz _ _ _) c2 ?_
    refine w_aln (p := 23) (q190 22) rfl rfl ?_
    refine w_gR (p := 26) (j := 56) (v := 94) (q190 23) rfl (r56 hB) (by decide) (f56_56 hB) ?_
    refine w_iln (p := 27) (q190 26) rfl rfl ?_
    obtain ⟨o9, w⟩ := w
    refine w_ia (p := 28) (v := (zz s 94 x2.toNat)) (q190 27) rfl (r94 hB) (by decide) o9 (iv_zz s 94 x2.toNat) ?_
    refine w_aln (p := 29) (q190 28) rfl rfl ?_
    refine w_gR (p := 32) (j := 12) (v := 64) (q190 29) rfl (r56 hB) (by decide) (f56_12 hB) ?_
    refine w_iln (p := 33) (q190 32) rfl rfl ?_
    obtain ⟨o10, w⟩ := w
    refine w_ia (p := 34) (v := (zz s 64 x1.toNat)) (q190 33) rfl (r64 hB) (by decide) o10 (iv_zz s 64 x1.toNat) ?_
    by_cases c11 : (zz s 94 x2.toNat) ≠ (zz s 64 x1.toNat)
    · replace w := w.1 c11
      refine w_i2t (q190 34) (inR_zz _ _ _) (inR_zz _ _ _) c11 ?_
      refine w_inc (p := 47) (ls' := [.ref 56, iv x1, iv (x2 + 1), .retAddr 0]) (q190 44) rfl rfl rfl ?_
      refine w_goto (q190 47) ?_
      exact w
    · replace w := w.2 (Decidable.not_not.mp c11)
      refine w_i2f (p := 37) (q190 34) rfl (inR_zz _ _ _) (inR_zz _ _ _) c11 ?_
      refine w_aln (p := 38) (q190 37) rfl rfl ?_
      refine w_gR (p := 41) (j := 57) (v := 95) (q190 38) rfl (r56 hB) (by decide) (f56_57 hB) ?_
      refine w_iln (p := 42) (q190 41) rfl rfl ?_
      refine w_ia (p := 43) (v := (zz s 95 x2.toNat)) (q190 42) rfl (r95 hB) (by decide) o9 (iv_zz s 95 x2.toNat) ?_
      exact w_ret (q190 43) rfl w
theorem w194_0 {d : Nat} {B : aH} {Q : aR → Prop} (hB : a_Can B) (x1 : Int) (s : Nat → Nat → Int32) (l : Nat → Nat → Int64) (w : a_W d 194 2 [.ref 56, iv x1, iv x1] [] (mkH B s l) Q) : a_W d 194 0 [.ref 56, iv x1, .retAddr 0] [] (mkH B s l) Q := by
  refine w_iln (p := 1) (q194 0) rfl rfl ?_
  refine w_isn (p := 2) (ls' := [.ref 56, iv x1, iv x1]) (q194 1) rfl (Nat.le_of_ble_eq_true rfl) rfl ?_
  exact w
theorem w194_2 {d : Nat} {B : aH} {Q : aR → Prop} (hB : a_Can B) (x1 x2 : Int) (s : Nat → Nat → Int32) (l : Nat → Nat → Int64) (w : ((0 ≤ x2 ∧ x2 < 60000) ∧ (((zz s 67 x2.toNat) = (-1) → Q (.inl (some (iv x2)), (mkH B s l))) ∧ ((zz s 67 x2.toNat) ≠ (-1) → a_W d 194 2 [.ref 56, iv x1, iv (zz s 67 x2.toNat)] [] (mkH B s l) Q)))) : a_W d 194 2 [.ref 56, iv x1, iv x2] [] (mkH B s l) Q := by
  refine w_aln (p := 3) (q194 2) rfl rfl ?_
  refine w_gR (p := 6) (j := 15) (v := 67) (q194 3) rfl (r56 hB) (by decide) (f56_15 hB) ?_
  refine w_iln (p := 7) (q194 6) rfl rfl ?_
  obtain ⟨o1, w⟩ := w
  refine w_ia (p := 8) (v := (zz s 67 x2.toNat)) (q194 7) rfl (r67 hB) (by decide) o1 (iv_zz s 67 x2.toNat) ?_
  refine w_ic (p := 9) (q194 8) rfl ?_
  by_cases c2 : (zz s 67 x2.toNat) = (-1)
  · replace w := w.1 c2
    refine w_i2t (q194 9) (inR_zz _ _ _) (by decide) c2 ?_
    refine w_iln (p := 23) (q194 22) rfl rfl ?_
    exact w_ret (q194 23) rfl w
  · replace w := w.2 c2
    refine w_i2f (p := 12) (q194 9) rfl (inR_zz _ _ _) (by decide) c2 ?_
    refine w_aln (p := 13) (q194 12) rfl rfl ?_
    refine w_gR (p := 16) (j := 15) (v := 67) (q194 13) rfl (r56 hB) (by decide) (f56_15 hB) ?_
    refine w_iln (p := 17) (q194 16) rfl rfl ?_
    refine w_ia (p := 18) (v := (zz s 67 x2.toNat)) (q194 17) rfl (r67 hB) (by decide) o1 (iv_zz s 67 x2.toNat) ?_
    refine w_isn (p := 19) (ls' := [.ref 56, iv x1, iv (zz s 67 x2.toNat)]) (q194 18) rfl (Nat.le_of_ble_eq_true rfl) rfl ?_
    refine w_goto (q194 19) ?_
    exact w
set_option maxRecDepth 10000 in
theorem w193_0 {d : Nat} {B : aH} {Q : aR → Prop} (hB : a_Can B) (x1 x2 : Int) (s : Nat → Nat → Int32) (l : Nat → Nat → Int64) (w : a_W d 193 16 [.ref 56, iv x1, iv x2, iv 1, .retAddr 0, .retAddr 0, .retAddr 0] [] (mkH B (zu (zu s 92 0 x1) 93 0 x2) l) Q) : a_W d 193 0 [.ref 56, iv x1, iv x2, .retAddr 0, .retAddr 0, .retAddr 0, .retAddr 0] [] (mkH B s l) Q := by
  refine w_ic (p := 1) (q193 0) rfl ?_
  refine w_isn (p := 2) (ls' := [.ref 56, iv x1, iv x2, iv 1, .retAddr 0, .retAddr 0, .retAddr 0]) (q193 1) rfl (Nat.le_of_ble_eq_true rfl) rfl ?_
  refine w_aln (p := 3) (q193 2) rfl rfl ?_
  refine w_gR (p := 6) (j := 54) (v := 92) (q193 3) rfl (r56 hB) (by decide) (f56_54 hB) ?_
  refine w_ic (p := 7) (q193 6) rfl ?_
  refine w_iln (p := 8) (q193 7) rfl rfl ?_
  refine w_ias (p := 9) (q193 8) rfl (r92 hB) (by decide) (by decide) ?_
  refine w_aln (p := 10) (q193 9) rfl rfl ?_
  refine w_gR (p := 13) (j := 55) (v := 93) (q193 10) rfl (r56 hB) (by decide) (f56_55 hB) ?_
  refine w_ic (p := 14) (q193 13) rfl ?_
  refine w_iln (p := 15) (q193 14) rfl rfl ?_
  refine w_ias (p := 16) (q193 15) rfl (r93 hB) (by decide) (by decide) ?_
  exact w
set_option maxRecDepth 10000 in
theorem w193_16 {d : Nat} {B : aH} {Q : aR → Prop} (hB : a_Can B) (hd : 1 ≤ d) (x1 x2 x3 : Int) (u4 u5 u6 : Value) (s : Nat → Nat → Int32) (l : Nat → Nat → Int64) (w : (inR x3 ∧ ((x3 ≤ 0 → a_W d 193 269 [.ref 56, iv x1, iv x2, iv x3, u4, u5, u6] [] (mkH B s l) Q) ∧ (0 < x3 → (((zz s 56 22) ≠ 0 → a_W d 193 269 [.ref 56, iv x1, iv x2, iv x3, u4, u5, u6] [] (mkH B s l) Q) ∧ ((zz s 56 22) = 0 → ((0 ≤ (x3 + (-1)) ∧ (x3 + (-1)) < 60000) ∧ a_W (d - 1) 194 0 [.ref 56, iv (zz s 92 (x3 + (-1)).toNat), .retAddr 0] [] (mkH B s l) (fun r => ∃ (v7 : Int) (s5 : Nat → Nat → Int32) (l6 : Nat → Nat → Int64), r = (.inl (some (iv v7)), mkH B s5 l6) ∧ a_W (d - 1) 194 0 [.ref 56, iv (zz s5 93 (x3 + (-1)).toNat), .retAddr 0] [] (mkH B s5 l6) (fun r => ∃ (v10 : Int) (s8 : Nat → Nat → Int32) (l9 : Nat → Nat → Int64), r = (.inl (some (iv v10)), mkH B s8 l9) ∧ (inR v7 ∧ inR v10 ∧ ((v7 ≠ v10 → ((0 ≤ v7 ∧ v7 < 60000) ∧ (((zz s8 64 v7.toNat) = (-1) → a_W d 193 114 [.ref 56, iv x1, iv x2, iv (x3 + (-1)), iv v7, iv v10, u6] [] (mkH B s8 l9) Q) ∧ ((zz s8 64 v7.toNat) ≠ (-1) → ((0 ≤ v10 ∧ v10 < 60000) ∧ (((zz s8 64 v10.toNat) = (-1) → a_W d 193 114 [.ref 56, iv x1, iv x2, iv (x3 + (-1)), iv v7, iv v10, u6] [] (mkH B s8 l9) Q) ∧ ((zz s8 64 v10.toNat) ≠ (-1) → (((zz s8 64 v7.toNat) = (zz s8 64 v10.toNat) → a_W d 193 114 [.ref 56, iv x1, iv x2, iv (x3 + (-1)), iv v7, iv v10, u6] [] (mkH B s8 l9) Q) ∧ ((zz s8 64 v7.toNat) ≠ (zz s8 64 v10.toNat) → (((zz s8 56 22) ≤ 0 → a_W d 193 114 [.ref 56, iv x1, iv x2, iv (x3 + (-1)), iv v7, iv v10, u6] [] (mkH B (zu (zu s8 56 22 3) 56 23 (zz s8 72 0)) l9) Q) ∧ (0 < (zz s8 56 22) → a_W d 193 114 [.ref 56, iv x1, iv x2, iv (x3 + (-1)), iv v7, iv v10, u6] [] (mkH B s8 l9) Q))))))))))) ∧ (v7 = v10 → a_W d 193 16 [.ref 56, iv x1, iv x2, iv (x3 + (-1)), iv v7, iv v10, u6] [] (mkH B s8 l9) Q)))))))))))) : a_W d 193 16 [.ref 56, iv x1, iv x2, iv x3, u4, u5, u6] [] (mkH B s l) Q := by
  refine w_iln (p := 17) (q193 16) rfl rfl ?_
  obtain ⟨h1, w⟩ := w
  by_cases c2 : x3 ≤ 0
  · replace w := w.1 c2
    refine w_i1t (q193 17) h1 c2 ?_
    exact w
  · replace w := w.2 (Int.not_le.mp c2)
    refine w_i1f (p := 20) (q193 17) rfl h1 c2 ?_
    refine w_aln (p := 21) (q193 20) rfl rfl ?_
    refine w_gI (p := 24) (j := 22) (v := (zz s 56 22)) (q193 21) rfl (r56 hB) (by decide) (iv_zz s 56 22) ?_
    by_cases c3 : (zz s 56 22) ≠ 0
    · replace w := w.1 c3
      refine w_i1t (q193 24) (inR_zz _ _ _) c3 ?_
      exact w
    · replace w := w.2 (Decidable.not_not.mp c3)
      refine w_i1f (p := 27) (q193 24) rfl (inR_zz _ _ _) c3 ?_
      refine w_inc (p := 30) (ls' := [.ref 56, iv x1, iv x2, iv (x3 + (-1)), u4, u5, u6]) (q193 27) rfl rfl rfl ?_
      refine w_aln (p := 31) (q193 30) rfl rfl ?_
      refine w_aln (p := 32) (q193 31) rfl rfl ?_
      refine w_gR (p := 35) (j := 54) (v := 92) (q193 32) rfl (r56 hB) (by decide) (f56_54 hB) ?_
      refine w_iln (p := 36) (q193 35) rfl rfl ?_
      obtain ⟨o4, w⟩ := w
      refine w_ia (p := 37) (v := (zz s 92 (x3 + (-1)).toNat)) (q193 36) rfl (r92 hB) (by decide) o4 (iv_zz s 92 (x3 + (-1)).toNat) ?_
      refine w_call (st := []) (as := [.ref 56, iv (zz s 92 (x3 + (-1)).toNat)]) (as' := [iv (zz s 92 (x3 + (-1)).toNat), .ref 56]) (p := 40) (q193 37) rfl m194 (by decide) (a_ok_i rfl (r56 hB) rfl) rfl rfl (Nat.le_of_ble_eq_true rfl) (by omega) rfl rfl (a_W.imp w ?_)
      rintro _ ⟨v7, s5, l6, rfl, w⟩
      refine ⟨some (iv v7), _, rfl, ?_⟩
      show a_W _ 193 40 [.ref 56, iv x1, iv x2, iv (x3 + (-1)), u4, u5, u6] [iv v7] (mkH B s5 l6) _
      refine w_is (p := 42) (ls' := [.ref 56, iv x1, iv x2, iv (x3 + (-1)), iv v7, u5, u6]) (q193 40) rfl (Nat.le_of_ble_eq_true rfl) rfl ?_
      refine w_aln (p := 43) (q193 42) rfl rfl ?_
      refine w_aln (p := 44) (q193 43) rfl rfl ?_
      refine w_gR (p := 47) (j := 55) (v := 93) (q193 44) rfl (r56 hB) (by decide) (f56_55 hB) ?_
      refine w_iln (p := 48) (q193 47) rfl rfl ?_
      refine w_ia (p := 49) (v := (zz s5 93 (x3 + (-1)).toNat)) (q193 48) rfl (r93 hB) (by decide) o4 (iv_zz s5 93 (x3 + (-1)).toNat) ?_
      refine w_call (st := []) (as := [.ref 56, iv (zz s5 93 (x3 + (-1)).toNat)]) (as' := [iv (zz s5 93 (x3 + (-1)).toNat), .ref 56]) (p := 52) (q193 49) rfl m194 (by decide) (a_ok_i rfl (r56 hB) rfl) rfl rfl (Nat.le_of_ble_eq_true rfl) (by omega) rfl rfl (a_W.imp w ?_)
      rintro _ ⟨v10, s8, l9, rfl, w⟩
      refine ⟨some (iv v10), _, rfl, ?_⟩
      show a_W _ 193 52 [.ref 56, iv x1, iv x2, iv (x3 + (-1)), iv v7, u5, u6] [iv v10] (mkH B s8 l9) _
      refine w_is (p := 54) (ls' := [.ref 56, iv x1, iv x2, iv (x3 + (-1)), iv v7, iv v10, u6]) (q193 52) rfl (Nat.le_of_ble_eq_true rfl) rfl ?_
      refine w_il (p := 56) (q193 54) rfl rfl ?_
      refine w_il (p := 58) (q193 56) rfl rfl ?_
      obtain ⟨h11, w⟩ := w
      obtain ⟨h12, w⟩ := w
      by_cases c13 : v7 ≠ v10
      · replace w := w.1 c13
        refine w_i2t (q193 58) h11 h12 c13 ?_
        refine w_aln (p := 65) (q193 64) rfl rfl ?_
        refine w_gR (p := 68) (j := 12) (v := 64) (q193 65) rfl (r56 hB) (by decide) (f56_12 hB) ?_
        refine w_il (p := 70) (q193 68) rfl rfl ?_
        obtain ⟨o14, w⟩ := w
        refine w_ia (p := 71) (v := (zz s8 64 v7.toNat)) (q193 70) rfl (r64 hB) (by decide) o14 (iv_zz s8 64 v7.toNat) ?_
        refine w_ic (p := 72) (q193 71) rfl ?_
        by_cases c15 : (zz s8 64 v7.toNat) = (-1)
        · replace w := w.1 c15
          refine w_i2t (q193 72) (inR_zz _ _ _) (by decide) c15 ?_
          exact w
        · replace w := w.2 c15
          refine w_i2f (p := 75) (q193 72) rfl (inR_zz _ _ _) (by decide) c15 ?_
          refine w_aln (p := 76) (q193 75) rfl rfl ?_
          refine w_gR (p := 79) (j := 12) (v := 64) (q193 76) rfl (r56 hB) (by decide) (f56_12 hB) ?_
          refine w_il (p := 81) (q193 79) rfl rfl ?_
          obtain ⟨o16, w⟩ := w
          refine w_ia (p := 82) (v := (zz s8 64 v10.toNat)) (q193 81) rfl (r64 hB) (by decide) o16 (iv_zz s8 64 v10.toNat) ?_
          refine w_ic (p := 83) (q193 82) rfl ?_
          by_cases c17 : (zz s8 64 v10.toNat) = (-1)
          · replace w := w.1 c17
            refine w_i2t (q193 83) (inR_zz _ _ _) (by decide) c17 ?_
            exact w
          · replace w := w.2 c17
            refine w_i2f (p := 86) (q193 83) rfl (inR_zz _ _ _) (by decide) c17 ?_
            refine w_aln (p := 87) (q193 86) rfl rfl ?_
            refine w_gR (p := 90) (j := 12) (v := 64) (q193 87) rfl (r56 hB) (by decide) (f56_12 hB) ?_
            refine w_il (p := 92) (q193 90) rfl rfl ?_
            refine w_ia (p := 93) (v := (zz s8 64 v7.toNat)) (q193 92) rfl (r64 hB) (by decide) o14 (iv_zz s8 64 v7.toNat) ?_
            refine w_aln (p := 94) (q193 93) rfl rfl ?_
            refine w_gR (p := 97) (j := 12) (v := 64) (q193 94) rfl (r56 hB) (by decide) (f56_12 hB) ?_
            refine w_il (p := 99) (q193 97) rfl rfl ?_
            refine w_ia (p := 100) (v := (zz s8 64 v10.toNat)) (q193 99) rfl (r64 hB) (by decide) o16 (iv_zz s8 64 v10.toNat) ?_
            by_cases c18 : (zz s8 64 v7.toNat) = (zz s8 64 v10.toNat)
            · replace w := w.1 c18
              refine w_i2t (q193 100) (inR_zz _ _ _) (inR_zz _ _ _) c18 ?_
              exact w
            · replace w := w.2 c18
              refine w_i2f (p := 103) (q193 100) rfl (inR_zz _ _ _) (inR_zz _ _ _) c18 ?_
              refine w_aln (p := 104) (q193 103) rfl rfl ?_
              refine w_ic (p := 105) (q193 104) rfl ?_
              refine w_aln (p := 106) (q193 105) rfl rfl ?_
              refine w_gR (p := 109) (j := 28) (v := 72) (q193 106) rfl (r56 hB) (by decide) (f56_28 hB) ?_
              refine w_ic (p := 110) (q193 109) rfl ?_
              refine w_ia (p := 111) (v := (zz s8 72 0)) (q193 110) rfl (r72 hB) (by decide) (by decide) (iv_zz s8 72 0) ?_
              refine w_call (st := []) (as := [.ref 56, iv 3, iv (zz s8 72 0)]) (as' := [iv (zz s8 72 0), iv 3, .ref 56]) (p := 114) (q193 111) rfl m152 (by decide) (a_ok_i rfl (r56 hB) rfl) rfl rfl (Nat.le_of_ble_eq_true rfl) (by omega) rfl rfl ?_
              refine w_aln (p := 1) (q152 0) rfl rfl ?_
              refine w_gI (p := 4) (j := 22) (v := (zz s8 56 22)) (q152 1) rfl (r56 hB) (by decide) (iv_zz s8 56 22) ?_
              by_cases c19 : (zz s8 56 22) ≤ 0
              · replace w := w.1 c19
                refine w_i1t (q152 4) (inR_zz _ _ _) c19 ?_
                refine w_aln (p := 9) (q152 8) rfl rfl ?_
                refine w_iln (p := 10) (q152 9) rfl rfl ?_
                refine w_pI (p := 13) (j := 22) (q152 10) rfl (r56 hB) (by decide) rfl ?_
                refine w_aln (p := 14) (q152 13) rfl rfl ?_
                refine w_iln (p := 15) (q152 14) rfl rfl ?_
                refine w_pI (p := 18) (j := 23) (q152 15) rfl (r56 hB) (by decide) rfl ?_
                refine w_rv (q152 18) rfl ⟨_, _, rfl, ?_⟩
                show a_W _ 193 114 [.ref 56, iv x1, iv x2, iv (x3 + (-1)), iv v7, iv v10, u6] [] _ _
                exact w
              · replace w := w.2 (Int.not_le.mp c19)
                refine w_i1f (p := 7) (q152 4) rfl (inR_zz _ _ _) c19 ?_
                refine w_rv (q152 7) rfl ⟨_, _, rfl, ?_⟩
                show a_W _ 193 114 [.ref 56, iv x1, iv x2, iv (x3 + (-1)), iv v7, iv v10, u6] [] _ _
                exact w
      · replace w := w.2 (Decidable.not_not.mp c13)
        refine w_i2f (p := 61) (q193 58) rfl h11 h12 c13 ?_
        refine w_goto (q193 61) ?_
        exact w
set_option maxRecDepth 10000 in
theorem w193_114 {d : Nat} {B : aH} {Q : aR → Prop} (hB : a_Can B) (x1 x2 x3 x4 x5 : Int) (u6 : Value) (s : Nat → Nat → Int32) (l : Nat → Nat → Int64) (w : ((0 ≤ x4 ∧ x4 < 60000) ∧ (((zz s 64 x4.toNat) = (-1) → a_W d 193 140 [.ref 56, iv x1, iv x2, iv x3, iv x4, iv x5, u6] [] (mkH B s l) Q) ∧ ((zz s 64 x4.toNat) ≠ (-1) → ((0 ≤ x5 ∧ x5 < 60000) ∧ (((zz s 64 x5.toNat) = (-1) → a_W d 193 140 [.ref 56, iv x1, iv x2, iv x3, iv x4, iv x5, u6] [] (mkH B s l) Q) ∧ ((zz s 64 x5.toNat) ≠ (-1) → a_W d 193 175 [.ref 56, iv x1, iv x2, iv x3, iv x4, iv x5, iv 1] [] (mkH B (zu s 67 x5.toNat x4) l) Q))))))) : a_W d 193 114 [.ref 56, iv x1, iv x2, iv x3, iv x4, iv x5, u6] [] (mkH B s l) Q := by
  refine w_aln (p := 115) (q193 114) rfl rfl ?_
  refine w_gR (p := 118) (j := 12) (v := 64) (q193 115) rfl (r56 hB) (by decide) (f56_12 hB) ?_
  refine w_il (p := 120) (q193 118) rfl rfl ?_
  obtain ⟨o1, w⟩ := w
  refine w_ia (p := 121) (v := (zz s 64 x4.toNat)) (q193 120) rfl (r64 hB) (by decide) o1 (iv_zz s 64 x4.toNat) ?_
  refine w_ic (p := 122) (q193 121) rfl ?_
  by_cases c2 : (zz s 64 x4.toNat) = (-1)
  · replace w := w.1 c2
    refine w_i2t (q193 122) (inR_zz _ _ _) (by decide) c2 ?_
    exact w
  · replace w := w.2 c2
    refine w_i2f (p := 125) (q193 122) rfl (inR_zz _ _ _) (by decide) c2 ?_
    refine w_aln (p := 126) (q193 125) rfl rfl ?_
    refine w_gR (p := 129) (j := 12) (v := 64) (q193 126) rfl (r56 hB) (by decide) (f56_12 hB) ?_
    refine w_il (p := 131) (q193 129) rfl rfl ?_
    obtain ⟨o3, w⟩ := w
    refine w_ia (p := 132) (v := (zz s 64 x5.toNat)) (q193 131) rfl (r64 hB) (by decide) o3 (iv_zz s 64 x5.toNat) ?_
    refine w_ic (p := 133) (q193 132) rfl ?_
    by_cases c4 : (zz s 64 x5.toNat) = (-1)
    · replace w := w.1 c4
      refine w_i2t (q193 133) (inR_zz _ _ _) (by decide) c4 ?_
      exact w
    · replace w := w.2 c4
      refine w_i2f (p := 136) (q193 133) rfl (inR_zz _ _ _) (by decide) c4 ?_
      refine w_ic (p := 137) (q193 136) rfl ?_
      refine w_goto (q193 137) ?_
      refine w_is (p := 143) (ls' := [.ref 56, iv x1, iv x2, iv x3, iv x4, iv x5, iv 1]) (q193 141) rfl (Nat.le_of_ble_eq_true rfl) rfl ?_
      refine w_aln (p := 144) (q193 143) rfl rfl ?_
      refine w_gR (p := 147) (j := 12) (v := 64) (q193 144) rfl (r56 hB) (by decide) (f56_12 hB) ?_
      refine w_il (p := 149) (q193 147) rfl rfl ?_
      refine w_ia (p := 150) (v := (zz s 64 x4.toNat)) (q193 149) rfl (r64 hB) (by decide) o1 (iv_zz s 64 x4.toNat) ?_
      refine w_ic (p := 151) (q193 150) rfl ?_
      refine w_i2t (q193 151) (inR_zz _ _ _) (by decide) (show zc _ _ _ by unfold zc; omega) ?_
      refine w_aln (p := 167) (q193 166) rfl rfl ?_
      refine w_gR (p := 170) (j := 15) (v := 67) (q193 167) rfl (r56 hB) (by decide) (f56_15 hB) ?_
      refine w_il (p := 172) (q193 170) rfl rfl ?_
      refine w_il (p := 174) (q193 172) rfl rfl ?_
      refine w_ias (p := 175) (q193 174) rfl (r67 hB) (by decide) o3 ?_
      exact w
set_option maxRecDepth 10000 in
theorem w193_140 {d : Nat} {B : aH} {Q : aR → Prop} (hB : a_Can B) (x1 x2 x3 x4 x5 : Int) (u6 : Value) (s : Nat → Nat → Int32) (l : Nat → Nat → Int64) (w : ((0 ≤ x4 ∧ x4 < 60000) ∧ (((zz s 64 x4.toNat) ≠ (-1) → ((0 ≤ x5 ∧ x5 < 60000) ∧ a_W d 193 175 [.ref 56, iv x1, iv x2, iv x3, iv x4, iv x5, iv 0] [] (mkH B (zu s 67 x5.toNat x4) l) Q)) ∧ ((zz s 64 x4.toNat) = (-1) → a_W d 193 175 [.ref 56, iv x1, iv x2, iv x3, iv x4, iv x5, iv 0] [] (mkH B (zu s 67 x4.toNat x5) l) Q)))) : a_W d 193 140 [.ref 56, iv x1, iv x2, iv x3, iv x4, iv x5, u6] [] (mkH B s l) Q := by
  refine w_ic (p := 141) (q193 140) rfl ?_
  refine w_is (p := 143) (ls' := [.ref 56, iv x1, iv x2, iv x3, iv x4, iv x5, iv 0]) (q193 141) rfl (Nat.le_of_ble_eq_true rfl) rfl ?_
  refine w_aln (p := 144) (q193 143) rfl rfl ?_
  refine w_gR (p := 147) (j := 12) (v := 64) (q193 144) rfl (r56 hB) (by decide) (f56_12 hB) ?_
  refine w_il (p := 149) (q193 147) rfl rfl ?_
  obtain ⟨o1, w⟩ := w
  refine w_ia (p := 150) (v := (zz s 64 x4.toNat)) (q193 149) rfl (r64 hB) (by decide) o1 (iv_zz s 64 x4.toNat) ?_
  refine w_ic (p := 151) (q193 150) rfl ?_
  by_cases c2 : (zz s 64 x4.toNat) ≠ (-1)
  · replace w := w.1 c2
    refine w_i2t (q193 151) (inR_zz _ _ _) (by decide) c2 ?_
    refine w_aln (p := 167) (q193 166) rfl rfl ?_
    refine w_gR (p := 170) (j := 15) (v := 67) (q193 167) rfl (r56 hB) (by decide) (f56_15 hB) ?_
    refine w_il (p := 172) (q193 170) rfl rfl ?_
    refine w_il (p := 174) (q193 172) rfl rfl ?_
    obtain ⟨o3, w⟩ := w
    refine w_ias (p := 175) (q193 174) rfl (r67 hB) (by decide) o3 ?_
    exact w
  · replace w := w.2 (Decidable.not_not.mp c2)
    refine w_i2f (p := 154) (q193 151) rfl (inR_zz _ _ _) (by decide) c2 ?_
    refine w_aln (p := 155) (q193 154) rfl rfl ?_
    refine w_gR (p := 158) (j := 15) (v := 67) (q193 155) rfl (r56 hB) (by decide) (f56_15 hB) ?_
    refine w_il (p := 160) (q193 158) rfl rfl ?_
    refine w_il (p := 162) (q193 160) rfl rfl ?_
    refine w_ias (p := 163) (q193 162) rfl (r67 hB) (by decide) o1 ?_
    refine w_goto (q193 163) ?_
    exact w
set_option maxRecDepth 10000 in
theorem w193_175 {d : Nat} {B : aH} {Q : aR → Prop} (hB : a_Can B) (x1 x2 x3 x4 x5 x6 : Int) (s : Nat → Nat → Int32) (l : Nat → Nat → Int64) (w : (inR x6 ∧ ((x6 = 0 → a_W d 193 16 [.ref 56, iv x1, iv x2, iv x3, iv x4, iv x5, iv x6] [] (mkH B s l) Q) ∧ (x6 ≠ 0 → ((0 ≤ x4 ∧ x4 < 60000) ∧ (((zz s 65 x4.toNat) ≠ (-1) → ((0 ≤ x3 ∧ x3 < 60000) ∧ ((0 ≤ x5 ∧ x5 < 60000) ∧ (((zz s 66 x4.toNat) ≠ (-1) → ((0 ≤ (x3 + 1) ∧ (x3 + 1) < 60000) ∧ a_W d 193 16 [.ref 56, iv x1, iv x2, iv ((x3 + 1) + 1), iv x4, iv x5, iv x6] [] (mkH B (zu (zu (zu (zu s 92 x3.toNat (zz s 65 x4.toNat)) 93 x3.toNat (zz s 65 x5.toNat)) 92 (x3 + 1).toNat (zz s 66 x4.toNat)) 93 (x3 + 1).toNat (zz s 66 x5.toNat)) l) Q)) ∧ ((zz s 66 x4.toNat) = (-1) → a_W d 193 16 [.ref 56, iv x1, iv x2, iv (x3 + 1), iv x4, iv x5, iv x6] [] (mkH B (zu (zu s 92 x3.toNat (zz s 65 x4.toNat)) 93 x3.toNat (zz s 65 x5.toNat)) l) Q))))) ∧ ((zz s 65 x4.toNat) = (-1) → a_W d 193 16 [.ref 56, iv x1, iv x2, iv x3, iv x4, iv x5, iv x6] [] (mkH B s l) Q))))))) : a_W d 193 175 [.ref 56, iv x1, iv x2, iv x3, iv x4, iv x5, iv x6] [] (mkH B s l) Q := by
  refine w_il (p := 177) (q193 175) rfl rfl ?_
  obtain ⟨h1, w⟩ := w
  by_cases c2 : x6 = 0
  · replace w := w.1 c2
    refine w_i1t (q193 177) h1 c2 ?_
    exact w
  · replace w := w.2 c2
    refine w_i1f (p := 180) (q193 177) rfl h1 c2 ?_
    refine w_aln (p := 181) (q193 180) rfl rfl ?_
    refine w_gR (p := 184) (j := 13) (v := 65) (q193 181) rfl (r56 hB) (by decide) (f56_13 hB) ?_
    refine w_il (p := 186) (q193 184) rfl rfl ?_
    obtain ⟨o3, w⟩ := w
    refine w_ia (p := 187) (v := (zz s 65 x4.toNat)) (q193 186) rfl (r65 hB) (by decide) o3 (iv_zz s 65 x4.toNat) ?_
    refine w_ic (p := 188) (q193 187) rfl ?_
    by_cases c4 : (zz s 65 x4.toNat) ≠ (-1)
    · replace w := w.1 c4
      refine w_i2t (q193 188) (inR_zz _ _ _) (by decide) c4 ?_
      refine w_aln (p := 195) (q193 194) rfl rfl ?_
      refine w_gR (p := 198) (j := 54) (v := 92) (q193 195) rfl (r56 hB) (by decide) (f56_54 hB) ?_
      refine w_iln (p := 199) (q193 198) rfl rfl ?_
      refine w_aln (p := 200) (q193 199) rfl rfl ?_
      refine w_gR (p := 203) (j := 13) (v := 65) (q193 200) rfl (r56 hB) (by decide) (f56_13 hB) ?_
      refine w_il (p := 205) (q193 203) rfl rfl ?_
      refine w_ia (p := 206) (v := (zz s 65 x4.toNat)) (q193 205) rfl (r65 hB) (by decide) o3 (iv_zz s 65 x4.toNat) ?_
      obtain ⟨o5, w⟩ := w
      refine w_ias (p := 207) (q193 206) rfl (r92 hB) (by decide) o5 ?_
      refine w_aln (p := 208) (q193 207) rfl rfl ?_
      refine w_gR (p := 211) (j := 55) (v := 93) (q193 208) rfl (r56 hB) (by decide) (f56_55 hB) ?_
      refine w_iln (p := 212) (q193 211) rfl rfl ?_
      refine w_aln (p := 213) (q193 212) rfl rfl ?_
      refine w_gR (p := 216) (j := 13) (v := 65) (q193 213) rfl (r56 hB) (by decide) (f56_13 hB) ?_
      refine w_il (p := 218) (q193 216) rfl rfl ?_
      obtain ⟨o6, w⟩ := w
      refine w_ia (p := 219) (v := (zz s 65 x5.toNat)) (q193 218) rfl (r65 hB) (by decide) o6 (iv_zz s 65 x5.toNat) ?_
      refine w_ias (p := 220) (q193 219) rfl (r93 hB) (by decide) o5 ?_
      refine w_inc (p := 223) (ls' := [.ref 56, iv x1, iv x2, iv (x3 + 1), iv x4, iv x5, iv x6]) (q193 220) rfl rfl rfl ?_
      refine w_aln (p := 224) (q193 223) rfl rfl ?_
      refine w_gR (p := 227) (j := 14) (v := 66) (q193 224) rfl (r56 hB) (by decide) (f56_14 hB) ?_
      refine w_il (p := 229) (q193 227) rfl rfl ?_
      refine w_ia (p := 230) (v := (zz s 66 x4.toNat)) (q193 229) rfl (r66 hB) (by decide) o3 (iv_zz s 66 x4.toNat) ?_
      refine w_ic (p := 231) (q193 230) rfl ?_
      by_cases c7 : (zz s 66 x4.toNat) ≠ (-1)
      · replace w := w.1 c7
        refine w_i2t (q193 231) (inR_zz _ _ _) (by decide) c7 ?_
        refine w_aln (p := 238) (q193 237) rfl rfl ?_
        refine w_gR (p := 241) (j := 54) (v := 92) (q193 238) rfl (r56 hB) (by decide) (f56_54 hB) ?_
        refine w_iln (p := 242) (q193 241) rfl rfl ?_
        refine w_aln (p := 243) (q193 242) rfl rfl ?_
        refine w_gR (p := 246) (j := 14) (v := 66) (q193 243) rfl (r56 hB) (by decide) (f56_14 hB) ?_
        refine w_il (p := 248) (q193 246) rfl rfl ?_
        refine w_ia (p := 249) (v := (zz s 66 x4.toNat)) (q193 248) rfl (r66 hB) (by decide) o3 (iv_zz s 66 x4.toNat) ?_
        obtain ⟨o8, w⟩ := w
        refine w_ias (p := 250) (q193 249) rfl (r92 hB) (by decide) o8 ?_
        refine w_aln (p := 251) (q193 250) rfl rfl ?_
        refine w_gR (p := 254) (j := 55) (v := 93) (q193 251) rfl (r56 hB) (by decide) (f56_55 hB) ?_
        refine w_iln (p := 255) (q193 254) rfl rfl ?_
        refine w_aln (p := 256) (q193 255) rfl rfl ?_
        refine w_gR (p := 259) (j := 14) (v := 66) (q193 256) rfl (r56 hB) (by decide) (f56_14 hB) ?_
        refine w_il (p := 261) (q193 259) rfl rfl ?_
        refine w_ia (p := 262) (v := (zz s 66 x5.toNat)) (q193 261) rfl (r66 hB) (by decide) o6 (iv_zz s 66 x5.toNat) ?_
        refine w_ias (p := 263) (q193 262) rfl (r93 hB) (by decide) o8 ?_
        refine w_inc (p := 266) (ls' := [.ref 56, iv x1, iv x2, iv ((x3 + 1) + 1), iv x4, iv x5, iv x6]) (q193 263) rfl rfl rfl ?_
        refine w_goto (q193 266) ?_
        exact w
      · replace w := w.2 (Decidable.not_not.mp c7)
        refine w_i2f (p := 234) (q193 231) rfl (inR_zz _ _ _) (by decide) c7 ?_
        refine w_goto (q193 234) ?_
        exact w
    · replace w := w.2 (Decidable.not_not.mp c4)
      refine w_i2f (p := 191) (q193 188) rfl (inR_zz _ _ _) (by decide) c4 ?_
      refine w_goto (q193 191) ?_
      exact w
set_option maxRecDepth 10000 in
theorem w193_269 {d : Nat} {B : aH} {Q : aR → Prop} (hB : a_Can B) (x1 x2 x3 : Int) (u4 u5 u6 : Value) (s : Nat → Nat → Int32) (l : Nat → Nat → Int64) (w : Q (.inl none, (mkH B s l))) : a_W d 193 269 [.ref 56, iv x1, iv x2, iv x3, u4, u5, u6] [] (mkH B s l) Q := by
  exact w_rv (q193 269) rfl w
theorem w192_0 {d : Nat} {B : aH} {Q : aR → Prop} (hB : a_Can B) (hd : 1 ≤ d) (x1 : Int) (s : Nat → Nat → Int32) (l : Nat → Nat → Int64) (w : a_W (d - 1) 186 0 [.ref 56, iv x1] [] (mkH B s l) (fun r => ∃ (v3 : Int) (s1 : Nat → Nat → Int32) (l2 : Nat → Nat → Int64), r = (.inl (some (iv v3)), mkH B s1 l2) ∧ a_W (d - 1) 189 0 [.ref 56, iv v3] [] (mkH B s1 l2) (fun r => ∃ (v6 : Int) (s4 : Nat → Nat → Int32) (l5 : Nat → Nat → Int64), r = (.inl (some (iv v6)), mkH B s4 l5) ∧ ((0 ≤ x1 ∧ x1 < 30100) ∧ (((zz s4 83 x1.toNat) ≠ (-1) → a_W d 192 50 [.ref 56, iv x1, iv v3, iv v6] [] (mkH B s4 l5) Q) ∧ ((zz s4 83 x1.toNat) = (-1) → (((zz s4 84 x1.toNat) ≠ 20 → a_W d 192 50 [.ref 56, iv x1, iv v3, iv v6] [] (mkH B s4 l5) Q) ∧ ((zz s4 84 x1.toNat) = 20 → ((0 ≤ v6 ∧ v6 < 60000) ∧ ((0 ≤ (zz s4 56 16) ∧ (zz s4 56 16) < 60000) ∧ a_W (d - 1) 193 0 [.ref 56, iv (zz s4 65 v6.toNat), iv (((zz s4 56 16) + 1) - 1), .retAddr 0, .retAddr 0, .retAddr 0, .retAddr 0] [] (mkH B (zu (zu (zu (zu (zu s4 64 (zz s4 56 16).toNat 0) 65 (zz s4 56 16).toNat (-1)) 66 (zz s4 56 16).toNat (-1)) 67 (zz s4 56 16).toNat (-1)) 56 16 ((zz s4 56 16) + 1)) l5) (fun r => ∃ (s12 : Nat → Nat → Int32) (l13 : Nat → Nat → Int64), r = (.inl none, mkH B s12 l13) ∧ a_W d 192 50 [.ref 56, iv x1, iv v3, iv v6] [] (mkH B s12 l13) Q))))))))))) : a_W d 192 0 [.ref 56, iv x1, .retAddr 0, .retAddr 0] [] (mkH B s l) Q := by
  refine w_aln (p := 1) (q192 0) rfl rfl ?_
  refine w_iln (p := 2) (q192 1) rfl rfl ?_
  refine w_call (st := []) (as := [.ref 56, iv x1]) (as' := [iv x1, .ref 56]) (p := 5) (q192 2) rfl m186 (by decide) (a_ok_i rfl (r56 hB) rfl) rfl rfl (Nat.le_of_ble_eq_true rfl) (by omega) rfl rfl (a_W.imp w ?_)
  rintro _ ⟨v3, s1, l2, rfl, w⟩
  refine ⟨some (iv v3), _, rfl, ?_⟩
  show a_W _ 192 5 [.ref 56, iv x1, .retAddr 0, .retAddr 0] [iv v3] (mkH B s1 l2) _
  refine w_isn (p := 6) (ls' := [.ref 56, iv x1, iv v3, .retAddr 0]) (q192 5) rfl (Nat.le_of_ble_eq_true rfl) rfl ?_
  refine w_aln (p := 7) (q192 6) rfl rfl ?_
  refine w_iln (p := 8) (q192 7) rfl rfl ?_
  refine w_call (st := []) (as := [.ref 56, iv v3]) (as' := [iv v3, .ref 56]) (p := 11) (q192 8) rfl m189 (by decide) (a_ok_i rfl (r56 hB) rfl) rfl rfl (Nat.le_of_ble_eq_true rfl) (by omega) rfl rfl (a_W.imp w ?_)
  rintro _ ⟨v6, s4, l5, rfl, w⟩
  refine ⟨some (iv v6), _, rfl, ?_⟩
  show a_W _ 192 11 [.ref 56, iv x1, iv v3, .retAddr 0] [iv v6] (mkH B s4 l5) _
  refine w_isn (p := 12) (ls' := [.ref 56, iv x1, iv v3, iv v6]) (q192 11) rfl (Nat.le_of_ble_eq_true rfl) rfl ?_
  refine w_aln (p := 13) (q192 12) rfl rfl ?_
  refine w_gR (p := 16) (j := 43) (v := 83) (q192 13) rfl (r56 hB) (by decide) (f56_43 hB) ?_
  refine w_iln (p := 17) (q192 16) rfl rfl ?_
  obtain ⟨o7, w⟩ := w
  refine w_ia (p := 18) (v := (zz s4 83 x1.toNat)) (q192 17) rfl (r83 hB) (by decide) o7 (iv_zz s4 83 x1.toNat) ?_
  refine w_ic (p := 19) (q192 18) rfl ?_
  by_cases c8 : (zz s4 83 x1.toNat) ≠ (-1)
  · replace w := w.1 c8
    refine w_i2t (q192 19) (inR_zz _ _ _) (by decide) c8 ?_
    exact w
  · replace w := w.2 (Decidable.not_not.mp c8)
    refine w_i2f (p := 22) (q192 19) rfl (inR_zz _ _ _) (by decide) c8 ?_
    refine w_aln (p := 23) (q192 22) rfl rfl ?_
    refine w_gR (p := 26) (j := 44) (v := 84) (q192 23) rfl (r56 hB) (by decide) (f56_44 hB) ?_
    refine w_iln (p := 27) (q192 26) rfl rfl ?_
    refine w_ia (p := 28) (v := (zz s4 84 x1.toNat)) (q192 27) rfl (r84 hB) (by decide) o7 (iv_zz s4 84 x1.toNat) ?_
    refine w_bp (p := 30) (q192 28) rfl (by decide) ?_
    by_cases c9 : (zz s4 84 x1.toNat) ≠ 20
    · replace w := w.1 c9
      refine w_i2t (q192 30) (inR_zz _ _ _) (by decide) c9 ?_
      exact w
    · replace w := w.2 (Decidable.not_not.mp c9)
      refine w_i2f (p := 33) (q192 30) rfl (inR_zz _ _ _) (by decide) c9 ?_
      refine w_aln (p := 34) (q192 33) rfl rfl ?_
      refine w_aln (p := 35) (q192 34) rfl rfl ?_
      refine w_gR (p := 38) (j := 13) (v := 65) (q192 35) rfl (r56 hB) (by decide) (f56_13 hB) ?_
      refine w_iln (p := 39) (q192 38) rfl rfl ?_
      obtain ⟨o10, w⟩ := w
      refine w_ia (p := 40) (v := (zz s4 65 v6.toNat)) (q192 39) rfl (r65 hB) (by decide) o10 (iv_zz s4 65 v6.toNat) ?_
      refine w_aln (p := 41) (q192 40) rfl rfl ?_
      refine w_ic (p := 42) (q192 41) rfl ?_
      refine w_ic (p := 43) (q192 42) rfl ?_
      refine w_ic (p := 44) (q192 43) rfl ?_
      refine w_call (st := [iv (zz s4 65 v6.toNat), .ref 56]) (as := [.ref 56, iv 0, iv (-1), iv (-1)]) (as' := [iv (-1), iv (-1), iv 0, .ref 56]) (p := 47) (q192 44) rfl m137 (by decide) (a_ok_i rfl (r56 hB) rfl) rfl rfl (Nat.le_of_ble_eq_true rfl) (by omega) rfl rfl ?_
      refine w_aln (p := 1) (q137 0) rfl rfl ?_
      refine w_gR (p := 4) (j := 12) (v := 64) (q137 1) rfl (r56 hB) (by decide) (f56_12 hB) ?_
      refine w_aln (p := 5) (q137 4) rfl rfl ?_
      refine w_gI (p := 8) (j := 16) (v := (zz s4 56 16)) (q137 5) rfl (r56 hB) (by decide) (iv_zz s4 56 16) ?_
      refine w_iln (p := 9) (q137 8) rfl rfl ?_
      obtain ⟨o11, w⟩ := w
      refine w_ias (p := 10) (q137 9) rfl (r64 hB) (by decide) o11 ?_
      refine w_aln (p := 11) (q137 10) rfl rfl ?_
      refine w_gR (p := 14) (j := 13) (v := 65) (q137 11) rfl (r56 hB) (by decide) (f56_13 hB) ?_
      refine w_aln (p := 15) (q137 14) rfl rfl ?_
      refine w_gI (p := 18) (j := 16) (v := (zz s4 56 16)) (q137 15) rfl (r56 hB) (by decide) (iv_zz s4 56 16) ?_
      refine w_iln (p := 19) (q137 18) rfl rfl ?_
      refine w_ias (p := 20) (q137 19) rfl (r65 hB) (by decide) o11 ?_
      refine w_aln (p := 21) (q137 20) rfl rfl ?_
      refine w_gR (p := 24) (j := 14) (v := 66) (q137 21) rfl (r56 hB) (by decide) (f56_14 hB) ?_
      refine w_aln (p := 25) (q137 24) rfl rfl ?_
      refine w_gI (p := 28) (j := 16) (v := (zz s4 56 16)) (q137 25) rfl (r56 hB) (by decide) (iv_zz s4 56 16) ?_
      refine w_iln (p := 29) (q137 28) rfl rfl ?_
      refine w_ias (p := 30) (q137 29) rfl (r66 hB) (by decide) o11 ?_
      refine w_aln (p := 31) (q137 30) rfl rfl ?_
      refine w_gR (p := 34) (j := 15) (v := 67) (q137 31) rfl (r56 hB) (by decide) (f56_15 hB) ?_
      refine w_aln (p := 35) (q137 34) rfl rfl ?_
      refine w_gI (p := 38) (j := 16) (v := (zz s4 56 16)) (q137 35) rfl (r56 hB) (by decide) (iv_zz s4 56 16) ?_
      refine w_ic (p := 39) (q137 38) rfl ?_
      refine w_ias (p := 40) (q137 39) rfl (r67 hB) (by decide) o11 ?_
      refine w_aln (p := 41) (q137 40) rfl rfl ?_
      refine w_dupr (p := 42) (q137 41) rfl ?_
      refine w_gI (p := 45) (j := 16) (v := (zz s4 56 16)) (q137 42) rfl (r56 hB) (by decide) (iv_zz s4 56 16) ?_
      refine w_ic (p := 46) (q137 45) rfl ?_
      refine w_add (p := 47) (q137 46) rfl ?_
      refine w_pI (p := 50) (j := 16) (q137 47) rfl (r56 hB) (by decide) rfl ?_
      refine w_aln (p := 51) (q137 50) rfl rfl ?_
      refine w_gI (p := 54) (j := 16) (v := ((zz s4 56 16) + 1)) (q137 51) rfl (r56 hB) (by decide) rfl ?_
      refine w_ic (p := 55) (q137 54) rfl ?_
      refine w_sub (p := 56) (q137 55) rfl ?_
      refine w_ret (q137 56) rfl ⟨_, _, rfl, ?_⟩
      show a_W _ 192 47 [.ref 56, iv x1, iv v3, iv v6] [iv (((zz s4 56 16) + 1) - 1), iv (zz s4 65 v6.toNat), .ref 56] _ _
      refine w_call (st := []) (as := [.ref 56, iv (zz s4 65 v6.toNat), iv (((zz s4 56 16) + 1) - 1)]) (as' := [iv (((zz s4 56 16) + 1) - 1), iv (zz s4 65 v6.toNat), .ref 56]) (p := 50) (q192 47) rfl m193 (by decide) (a_ok_i rfl (r56 hB) rfl) rfl rfl (Nat.le_of_ble_eq_true rfl) (by omega) rfl rfl (a_W.imp w ?_)
      rintro _ ⟨s12, l13, rfl, w⟩
      refine ⟨none, _, rfl, ?_⟩
      show a_W _ 192 50 [.ref 56, iv x1, iv v3, iv v6] [] (mkH B s12 l13) _
      exact w
theorem w192_50 {d : Nat} {B : aH} {Q : aR → Prop} (hB : a_Can B) (hd : 1 ≤ d) (x1 x2 x3 : Int) (s : Nat → Nat → Int32) (l : Nat → Nat → Int64) (w : a_W (d - 1) 188 0 [.ref 56, iv ((2 * x2) + 1), iv x3] [] (mkH B s l) (fun r => ∃ (v3 : Int) (s1 : Nat → Nat → Int32) (l2 : Nat → Nat → Int64), r = (.inl (some (iv v3)), mkH B s1 l2) ∧ Q (.inl (some (iv v3)), (mkH B s1 l2)))) : a_W d 192 50 [.ref 56, iv x1, iv x2, iv x3] [] (mkH B s l) Q := by
  refine w_aln (p := 51) (q192 50) rfl rfl ?_
  refine w_ic (p := 52) (q192 51) rfl ?_
  refine w_iln (p := 53) (q192 52) rfl rfl ?_
  refine w_mulz (p := 54) (q192 53) rfl ?_
  refine w_ic (p := 55) (q192 54) rfl ?_
  refine w_add (p := 56) (q192 55) rfl ?_
  refine w_iln (p := 57) (q192 56) rfl rfl ?_
  refine w_call (st := []) (as := [.ref 56, iv ((2 * x2) + 1), iv x3]) (as' := [iv x3, iv ((2 * x2) + 1), .ref 56]) (p := 60) (q192 57) rfl m188 (by decide) (a_ok_i rfl (r56 hB) rfl) rfl rfl (Nat.le_of_ble_eq_true rfl) (by omega) rfl rfl (a_W.imp w ?_)
  rintro _ ⟨v3, s1, l2, rfl, w⟩
  refine ⟨some (iv v3), _, rfl, ?_⟩
  show a_W _ 192 60 [.ref 56, iv x1, iv x2, iv x3] [iv v3] (mkH B s1 l2) _
  exact w_ret (q192 60) rfl w
theorem w195_0 {d : Nat} {B : aH} {Q : aR → Prop} (hB : a_Can B) (hd : 1 ≤ d) (x1 : Int) (s : Nat → Nat → Int32) (l : Nat → Nat → Int64) (w : ((0 ≤ (zz s 56 16) ∧ (zz s 56 16) < 60000) ∧ a_W d 195 10 [.ref 56, iv x1, iv (((zz s 56 16) + 1) - 1), iv 0] [] (mkH B (zu (zu (zu (zu (zu s 64 (zz s 56 16).toNat 3) 65 (zz s 56 16).toNat (-1)) 66 (zz s 56 16).toNat (-1)) 67 (zz s 56 16).toNat (-1)) 56 16 ((zz s 56 16) + 1)) l) Q)) : a_W d 195 0 [.ref 56, iv x1, .retAddr 0, .retAddr 0] [] (mkH B s l) Q := by
  refine w_aln (p := 1) (q195 0) rfl rfl ?_
  refine w_ic (p := 2) (q195 1) rfl ?_
  refine w_ic (p := 3) (q195 2) rfl ?_
  refine w_ic (p := 4) (q195 3) rfl ?_
  refine w_call (st := []) (as := [.ref 56, iv 3, iv (-1), iv (-1)]) (as' := [iv (-1), iv (-1), iv 3, .ref 56]) (p := 7) (q195 4) rfl m137 (by decide) (a_ok_i rfl (r56 hB) rfl) rfl rfl (Nat.le_of_ble_eq_true rfl) (by omega) rfl rfl ?_
  refine w_aln (p := 1) (q137 0) rfl rfl ?_
  refine w_gR (p := 4) (j := 12) (v := 64) (q137 1) rfl (r56 hB) (by decide) (f56_12 hB) ?_
  refine w_aln (p := 5) (q137 4) rfl rfl ?_
  refine w_gI (p := 8) (j := 16) (v := (zz s 56 16)) (q137 5) rfl (r56 hB) (by decide) (iv_zz s 56 16) ?_
  refine w_iln (p := 9) (q137 8) rfl rfl ?_
  obtain ⟨o1, w⟩ := w
  refine w_ias (p := 10) (q137 9) rfl (r64 hB) (by decide) o1 ?_
  refine w_aln (p := 11) (q137 10) rfl rfl ?_
  refine w_gR (p := 14) (j := 13) (v := 65) (q137 11) rfl (r56 hB) (by decide) (f56_13 hB) ?_
  refine w_aln (p := 15) (q137 14) rfl rfl ?_
  refine w_gI (p := 18) (j := 16) (v := (zz s 56 16)) (q137 15) rfl (r56 hB) (by decide) (iv_zz s 56 16) ?_
  refine w_iln (p := 19) (q137 18) rfl rfl ?_
  refine w_ias (p := 20) (q137 19) rfl (r65 hB) (by decide) o1 ?_
  refine w_aln (p := 21) (q137 20) rfl rfl ?_
  refine w_gR (p := 24) (j := 14) (v := 66) (q137 21) rfl (r56 hB) (by decide) (f56_14 hB) ?_
  refine w_aln (p := 25) (q137 24) rfl rfl ?_
  refine w_gI (p := 28) (j := 16) (v := (zz s 56 16)) (q137 25) rfl (r56 hB) (by decide) (iv_zz s 56 16) ?_
  refine w_iln (p := 29) (q137 28) rfl rfl ?_
  refine w_ias (p := 30) (q137 29) rfl (r66 hB) (by decide) o1 ?_
  refine w_aln (p := 31) (q137 30) rfl rfl ?_
  refine w_gR (p := 34) (j := 15) (v := 67) (q137 31) rfl (r56 hB) (by decide) (f56_15 hB) ?_
  refine w_aln (p := 35) (q137 34) rfl rfl ?_
  refine w_gI (p := 38) (j := 16) (v := (zz s 56 16)) (q137 35) rfl (r56 hB) (by decide) (iv_zz s 56 16) ?_
  refine w_ic (p := 39) (q137 38) rfl ?_
  refine w_ias (p := 40) (q137 39) rfl (r67 hB) (by decide) o1 ?_
  refine w_aln (p := 41) (q137 40) rfl rfl ?_
  refine w_dupr (p := 42) (q137 41) rfl ?_
  refine w_gI (p := 45) (j := 16) (v := (zz s 56 16)) (q137 42) rfl (r56 hB) (by decide) (iv_zz s 56 16) ?_
  refine w_ic (p := 46) (q137 45) rfl ?_
  refine w_add (p := 47) (q137 46) rfl ?_
  refine w_pI (p := 50) (j := 16) (q137 47) rfl (r56 hB) (by decide) rfl ?_
  refine w_aln (p := 51) (q137 50) rfl rfl ?_
  refine w_gI (p := 54) (j := 16) (v := ((zz s 56 16) + 1)) (q137 51) rfl (r56 hB) (by decide) rfl ?_
  refine w_ic (p := 55) (q137 54) rfl ?_
  refine w_sub (p := 56) (q137 55) rfl ?_
  refine w_ret (q137 56) rfl ⟨_, _, rfl, ?_⟩
  show a_W _ 195 7 [.ref 56, iv x1, .retAddr 0, .retAddr 0] [iv (((zz s 56 16) + 1) - 1)] _ _
  refine w_isn (p := 8) (ls' := [.ref 56, iv x1, iv (((zz s 56 16) + 1) - 1), .retAddr 0]) (q195 7) rfl (Nat.le_of_ble_eq_true rfl) rfl ?_
  refine w_ic (p := 9) (q195 8) rfl ?_
  refine w_isn (p := 10) (ls' := [.ref 56, iv x1, iv (((zz s 56 16) + 1) - 1), iv 0]) (q195 9) rfl (Nat.le_of_ble_eq_true rfl) rfl ?_
  exact w
theorem w195_10 {d : Nat} {B : aH} {Q : aR → Prop} (hB : a_Can B) (hd : 1 ≤ d) (x1 x2 x3 : Int) (s : Nat → Nat → Int32) (l : Nat → Nat → Int64) (w : (inR x3 ∧ inR x1 ∧ ((x1 ≤ x3 → ((0 ≤ (zz s 56 62) ∧ (zz s 56 62) < 520) ∧ Q (.inl (some (iv x2)), (mkH B (zu (zu (zu s 98 (zz s 56 62).toNat 21) 99 (zz s 56 62).toNat x2) 56 62 ((zz s 56 62) + 1)) l)))) ∧ (x3 < x1 → ((0 ≤ (zz s 56 62) ∧ (zz s 56 62) < 520) ∧ a_W (d - 1) 138 0 [.ref 56, iv x2, iv x2] [] (mkH B (zu (zu (zu s 98 (zz s 56 62).toNat (-1)) 99 (zz s 56 62).toNat x2) 56 62 ((zz s 56 62) + 1)) l) (fun r => ∃ (v8 : Int) (s6 : Nat → Nat → Int32) (l7 : Nat → Nat → Int64), r = (.inl (some (iv v8)), mkH B s6 l7) ∧ ((0 ≤ (zz s6 56 62) ∧ (zz s6 56 62) < 520) ∧ a_W d 195 10 [.ref 56, iv x1, iv x2, iv (x3 + 1)] [] (mkH B (zu (zu (zu s6 98 (zz s6 56 62).toNat 23) 99 (zz s6 56 62).toNat v8) 56 62 ((zz s6 56 62) + 1)) l7) Q))))))) : a_W d 195 10 [.ref 56, iv x1, iv x2, iv x3] [] (mkH B s l) Q := by
  refine w_iln (p := 11) (q195 10) rfl rfl ?_
  refine w_iln (p := 12) (q195 11) rfl rfl ?_
  obtain ⟨h1, w⟩ := w
  obtain ⟨h2, w⟩ := w
  by_cases c3 : x1 ≤ x3
  · replace w := w.1 c3
    refine w_i2t (q195 12) h1 h2 c3 ?_
    refine w_aln (p := 42) (q195 41) rfl rfl ?_
    refine w_bp (p := 44) (q195 42) rfl (by decide) ?_
    refine w_iln (p := 45) (q195 44) rfl rfl ?_
    refine w_call (st := []) (as := [.ref 56, iv 21, iv x2]) (as' := [iv x2, iv 21, .ref 56]) (p := 48) (q195 45) rfl m188 (by decide) (a_ok_i rfl (r56 hB) rfl) rfl rfl (Nat.le_of_ble_eq_true rfl) (by omega) rfl rfl ?_
    refine w_aln (p := 1) (q188 0) rfl rfl ?_
    refine w_gR (p := 4) (j := 63) (v := 98) (q188 1) rfl (r56 hB) (by decide) (f56_63 hB) ?_
    refine w_aln (p := 5) (q188 4) rfl rfl ?_
    refine w_gI (p := 8) (j := 62) (v := (zz s 56 62)) (q188 5) rfl (r56 hB) (by decide) (iv_zz s 56 62) ?_
    refine w_iln (p := 9) (q188 8) rfl rfl ?_
    obtain ⟨o4, w⟩ := w
    refine w_ias (p := 10) (q188 9) rfl (r98 hB) (by decide) o4 ?_
    refine w_aln (p := 11) (q188 10) rfl rfl ?_
    refine w_gR (p := 14) (j := 64) (v := 99) (q188 11) rfl (r56 hB) (by decide) (f56_64 hB) ?_
    refine w_aln (p := 15) (q188 14) rfl rfl ?_
    refine w_gI (p := 18) (j := 62) (v := (zz s 56 62)) (q188 15) rfl (r56 hB) (by decide) (iv_zz s 56 62) ?_
    refine w_iln (p := 19) (q188 18) rfl rfl ?_
    refine w_ias (p := 20) (q188 19) rfl (r99 hB) (by decide) o4 ?_
    refine w_aln (p := 21) (q188 20) rfl rfl ?_
    refine w_dupr (p := 22) (q188 21) rfl ?_
    refine w_gI (p := 25) (j := 62) (v := (zz s 56 62)) (q188 22) rfl (r56 hB) (by decide) (iv_zz s 56 62) ?_
    refine w_ic (p := 26) (q188 25) rfl ?_
    refine w_add (p := 27) (q188 26) rfl ?_
    refine w_pI (p := 30) (j := 62) (q188 27) rfl (r56 hB) (by decide) rfl ?_
    refine w_iln (p := 31) (q188 30) rfl rfl ?_
    refine w_ret (q188 31) rfl ⟨_, _, rfl, ?_⟩
    show a_W _ 195 48 [.ref 56, iv x1, iv x2, iv x3] [iv x2] _ _
    exact w_ret (q195 48) rfl w
  · replace w := w.2 (Int.not_le.mp c3)
    refine w_i2f (p := 15) (q195 12) rfl h1 h2 c3 ?_
    refine w_aln (p := 16) (q195 15) rfl rfl ?_
    refine w_ic (p := 17) (q195 16) rfl ?_
    refine w_iln (p := 18) (q195 17) rfl rfl ?_
    refine w_call (st := []) (as := [.ref 56, iv (-1), iv x2]) (as' := [iv x2, iv (-1), .ref 56]) (p := 21) (q195 18) rfl m188 (by decide) (a_ok_i rfl (r56 hB) rfl) rfl rfl (Nat.le_of_ble_eq_true rfl) (by omega) rfl rfl ?_
    refine w_aln (p := 1) (q188 0) rfl rfl ?_
    refine w_gR (p := 4) (j := 63) (v := 98) (q188 1) rfl (r56 hB) (by decide) (f56_63 hB) ?_
    refine w_aln (p := 5) (q188 4) rfl rfl ?_
    refine w_gI (p := 8) (j := 62) (v := (zz s 56 62)) (q188 5) rfl (r56 hB) (by decide) (iv_zz s 56 62) ?_
    refine w_iln (p := 9) (q188 8) rfl rfl ?_
    obtain ⟨o5, w⟩ := w
    refine w_ias (p := 10) (q188 9) rfl (r98 hB) (by decide) o5 ?_
    refine w_aln (p := 11) (q188 10) rfl rfl ?_
    refine w_gR (p := 14) (j := 64) (v := 99) (q188 11) rfl (r56 hB) (by decide) (f56_64 hB) ?_
    refine w_aln (p := 15) (q188 14) rfl rfl ?_
    refine w_gI (p := 18) (j := 62) (v := (zz s 56 62)) (q188 15) rfl (r56 hB) (by decide) (iv_zz s 56 62) ?_
    refine w_iln (p := 19) (q188 18) rfl rfl ?_
    refine w_ias (p := 20) (q188 19) rfl (r99 hB) (by decide) o5 ?_
    refine w_aln (p := 21) (q188 20) rfl rfl ?_
    refine w_dupr (p := 22) (q188 21) rfl ?_
    refine w_gI (p := 25) (j := 62) (v := (zz s 56 62)) (q188 22) rfl (r56 hB) (by decide) (iv_zz s 56 62) ?_
    refine w_ic (p := 26) (q188 25) rfl ?_
    refine w_add (p := 27) (q188 26) rfl ?_
    refine w_pI (p := 30) (j := 62) (q188 27) rfl (r56 hB) (by decide) rfl ?_
    refine w_iln (p := 31) (q188 30) rfl rfl ?_
    refine w_ret (q188 31) rfl ⟨_, _, rfl, ?_⟩
    show a_W _ 195 21 [.ref 56, iv x1, iv x2, iv x3] [iv x2] _ _
    refine w_pop (p := 22) (q195 21) rfl ?_
    refine w_aln (p := 23) (q195 22) rfl rfl ?_
    refine w_bp (p := 25) (q195 23) rfl (by decide) ?_
    refine w_aln (p := 26) (q195 25) rfl rfl ?_
    refine w_iln (p := 27) (q195 26) rfl rfl ?_
    refine w_iln (p := 28) (q195 27) rfl rfl ?_
    refine w_call (st := [iv 23, .ref 56]) (as := [.ref 56, iv x2, iv x2]) (as' := [iv x2, iv x2, .ref 56]) (p := 31) (q195 28) rfl m138 (by decide) (a_ok_i rfl (r56 hB) rfl) rfl rfl (Nat.le_of_ble_eq_true rfl) (by omega) rfl rfl (a_W.imp w ?_)
    rintro _ ⟨v8, s6, l7, rfl, w⟩
    refine ⟨some (iv v8), _, rfl, ?_⟩
    show a_W _ 195 31 [.ref 56, iv x1, iv x2, iv x3] [iv v8, iv 23, .ref 56] (mkH B s6 l7) _
    refine w_call (st := []) (as := [.ref 56, iv 23, iv v8]) (as' := [iv v8, iv 23, .ref 56]) (p := 34) (q195 31) rfl m188 (by decide) (a_ok_i rfl (r56 hB) rfl) rfl rfl (Nat.le_of_ble_eq_true rfl) (by omega) rfl rfl ?_
    refine w_aln (p := 1) (q188 0) rfl rfl ?_
    refine w_gR (p := 4) (j := 63) (v := 98) (q188 1) rfl (r56 hB) (by decide) (f56_63 hB) ?_
    refine w_aln (p := 5) (q188 4) rfl rfl ?_
    refine w_gI (p := 8) (j := 62) (v := (zz s6 56 62)) (q188 5) rfl (r56 hB) (by decide) (iv_zz s6 56 62) ?_
    refine w_iln (p := 9) (q188 8) rfl rfl ?_
    obtain ⟨o9, w⟩ := w
    refine w_ias (p := 10) (q188 9) rfl (r98 hB) (by decide) o9 ?_
    refine w_aln (p := 11) (q188 10) rfl rfl ?_
    refine w_gR (p := 14) (j := 64) (v := 99) (q188 11) rfl (r56 hB) (by decide) (f56_64 hB) ?_
    refine w_aln (p := 15) (q188 14) rfl rfl ?_
    refine w_gI (p := 18) (j := 62) (v := (zz s6 56 62)) (q188 15) rfl (r56 hB) (by decide) (iv_zz s6 56 62) ?_
    refine w_iln (p := 19) (q188 18) rfl rfl ?_
    refine w_ias (p := 20) (q188 19) rfl (r99 hB) (by decide) o9 ?_
    refine w_aln (p := 21) (q188 20) rfl rfl ?_
    refine w_dupr (p := 22) (q188 21) rfl ?_
    refine w_gI (p := 25) (j := 62) (v := (zz s6 56 62)) (q188 22) rfl (r56 hB) (by decide) (iv_zz s6 56 62) ?_
    refine w_ic (p := 26) (q188 25) rfl ?_
    refine w_add (p := 27) (q188 26) rfl ?_
    refine w_pI (p := 30) (j := 62) (q188 27) rfl (r56 hB) (by decide) rfl ?_
    refine w_iln (p := 31) (q188 30) rfl rfl ?_
    refine w_ret (q188 31) rfl ⟨_, _, rfl, ?_⟩
    show a_W _ 195 34 [.ref 56, iv x1, iv x2, iv x3] [iv v8] _ _
    refine w_pop (p := 35) (q195 34) rfl ?_
    refine w_inc (p := 38) (ls' := [.ref 56, iv x1, iv x2, iv (x3 + 1)]) (q195 35) rfl rfl rfl ?_
    refine w_goto (q195 38) ?_
    exact w
theorem w196_0 {d : Nat} {B : aH} {Q : aR → Prop} (hB : a_Can B) (hd : 1 ≤ d) (x1 : Int) (s : Nat → Nat → Int32) (l : Nat → Nat → Int64) (w : ((0 ≤ (zz s 56 62) ∧ (zz s 56 62) < 520) ∧ ((0 ≤ x1 ∧ x1 < 30100) ∧ (((zz s 85 x1.toNat) ≠ (-1) → a_W (d - 1) 197 0 [.ref 56, iv (zz s 85 x1.toNat), .retAddr 0, .retAddr 0, .retAddr 0, .retAddr 0] [] (mkH B (zu (zu (zu s 98 (zz s 56 62).toNat (-2)) 99 (zz s 56 62).toNat (-1)) 56 62 ((zz s 56 62) + 1)) l) (fun r => ∃ (v6 : Int) (s4 : Nat → Nat → Int32) (l5 : Nat → Nat → Int64), r = (.inl (some (iv v6)), mkH B s4 l5) ∧ ((0 ≤ (zz s4 56 59) ∧ (zz s4 56 59) < 600) ∧ a_W (d - 1) 187 0 [.ref 56, iv (zz s4 84 x1.toNat), .retAddr 0, .retAddr 0, .retAddr 0, .retAddr 0, .retAddr 0] [] (mkH B (zu (zu (zu s4 96 (zz s4 56 59).toNat (zz s4 83 x1.toNat)) 97 (zz s4 56 59).toNat v6) 56 59 ((zz s4 56 59) + 1)) l5) (fun r => ∃ (v10 : Int) (s8 : Nat → Nat → Int32) (l9 : Nat → Nat → Int64), r = (.inl (some (iv v10)), mkH B s8 l9) ∧ a_W (d - 1) 138 0 [.ref 56, iv v6, iv v10] [] (mkH B (zu s8 56 59 ((zz s8 56 59) - 1)) l9) (fun r => ∃ (v13 : Int) (s11 : Nat → Nat → Int32) (l12 : Nat → Nat → Int64), r = (.inl (some (iv v13)), mkH B s11 l12) ∧ Q (.inl (some (iv v13)), (mkH B (zu s11 99 (zz s 56 62).toNat v13) l12))))))) ∧ ((zz s 85 x1.toNat) = (-1) → a_W (d - 1) 191 0 [.ref 56] [] (mkH B (zu (zu (zu s 98 (zz s 56 62).toNat (-2)) 99 (zz s 56 62).toNat (-1)) 56 62 ((zz s 56 62) + 1)) l) (fun r => ∃ (v16 : Int) (s14 : Nat → Nat → Int32) (l15 : Nat → Nat → Int64), r = (.inl (some (iv v16)), mkH B s14 l15) ∧ ((0 ≤ (zz s14 56 59) ∧ (zz s14 56 59) < 600) ∧ a_W (d - 1) 187 0 [.ref 56, iv (zz s14 84 x1.toNat), .retAddr 0, .retAddr 0, .retAddr 0, .retAddr 0, .retAddr 0] [] (mkH B (zu (zu (zu s14 96 (zz s14 56 59).toNat (zz s14 83 x1.toNat)) 97 (zz s14 56 59).toNat v16) 56 59 ((zz s14 56 59) + 1)) l15) (fun r => ∃ (v20 : Int) (s18 : Nat → Nat → Int32) (l19 : Nat → Nat → Int64), r = (.inl (some (iv v20)), mkH B s18 l19) ∧ a_W (d - 1) 138 0 [.ref 56, iv v16, iv v20] [] (mkH B (zu s18 56 59 ((zz s18 56 59) - 1)) l19) (fun r => ∃ (v23 : Int) (s21 : Nat → Nat → Int32) (l22 : Nat → Nat → Int64), r = (.inl (some (iv v23)), mkH B s21 l22) ∧ Q (.inl (some (iv v23)), (mkH B (zu s21 99 (zz s 56 62).toNat v23) l22))))))))))) : a_W d 196 0 [.ref 56, iv x1, .retAddr 0, .retAddr 0, .retAddr 0] [] (mkH B s l) Q := by
  refine w_aln (p := 1) (q196 0) rfl rfl ?_
  refine w_gI (p := 4) (j := 62) (v := (zz s 56 62)) (q196 1) rfl (r56 hB) (by decide) (iv_zz s 56 62) ?_
  refine w_isn (p := 5) (ls' := [.ref 56, iv x1, iv (zz s 56 62), .retAddr 0, .retAddr 0]) (q196 4) rfl (Nat.le_of_ble_eq_true rfl) rfl ?_
  refine w_aln (p := 6) (q196 5) rfl rfl ?_
  refine w_bp (p := 8) (q196 6) rfl (by decide) ?_
  refine w_ic (p := 9) (q196 8) rfl ?_
  refine w_call (st := []) (as := [.ref 56, iv (-2), iv (-1)]) (as' := [iv (-1), iv (-2), .ref 56]) (p := 12) (q196 9) rfl m188 (by decide) (a_ok_i rfl (r56 hB) rfl) rfl rfl (Nat.le_of_ble_eq_true rfl) (by omega) rfl rfl ?_
  refine w_aln (p := 1) (q188 0) rfl rfl ?_
  refine w_gR (p := 4) (j := 63) (v := 98) (q188 1) rfl (r56 hB) (by decide) (f56_63 hB) ?_
  refine w_aln (p := 5) (q188 4) rfl rfl ?_
  refine w_gI (p := 8) (j := 62) (v := (zz s 56 62)) (q188 5) rfl (r56 hB) (by decide) (iv_zz s 56 62) ?_
  refine w_iln (p := 9) (q188 8) rfl rfl ?_
  obtain ⟨o1, w⟩ := w
  refine w_ias (p := 10) (q188 9) rfl (r98 hB) (by decide) o1 ?_
  refine w_aln (p := 11) (q188 10) rfl rfl ?_
  refine w_gR (p := 14) (j := 64) (v := 99) (q188 11) rfl (r56 hB) (by decide) (f56_64 hB) ?_
  refine w_aln (p := 15) (q188 14) rfl rfl ?_
  refine w_gI (p := 18) (j := 62) (v := (zz s 56 62)) (q188 15) rfl (r56 hB) (by decide) (iv_zz s 56 62) ?_
  refine w_iln (p := 19) (q188 18) rfl rfl ?_
  refine w_ias (p := 20) (q188 19) rfl (r99 hB) (by decide) o1 ?_
  refine w_aln (p := 21) (q188 20) rfl rfl ?_
  refine w_dupr (p := 22) (q188 21) rfl ?_
  refine w_gI (p := 25) (j := 62) (v := (zz s 56 62)) (q188 22) rfl (r56 hB) (by decide) (iv_zz s 56 62) ?_
  refine w_ic (p := 26) (q188 25) rfl ?_
  refine w_add (p := 27) (q188 26) rfl ?_
  refine w_pI (p := 30) (j := 62) (q188 27) rfl (r56 hB) (by decide) rfl ?_
  refine w_iln (p := 31) (q188 30) rfl rfl ?_
  refine w_ret (q188 31) rfl ⟨_, _, rfl, ?_⟩
  show a_W _ 196 12 [.ref 56, iv x1, iv (zz s 56 62), .retAddr 0, .retAddr 0] [iv (-1)] _ _
  refine w_pop (p := 13) (q196 12) rfl ?_
  refine w_aln (p := 14) (q196 13) rfl rfl ?_
  refine w_gR (p := 17) (j := 45) (v := 85) (q196 14) rfl (r56 hB) (by decide) (f56_45 hB) ?_
  refine w_iln (p := 18) (q196 17) rfl rfl ?_
  obtain ⟨o2, w⟩ := w
  refine w_ia (p := 19) (v := (zz s 85 x1.toNat)) (q196 18) rfl (r85 hB) (by decide) o2 (iv_zz s 85 x1.toNat) ?_
  refine w_ic (p := 20) (q196 19) rfl ?_
  by_cases c3 : (zz s 85 x1.toNat) ≠ (-1)
  · replace w := w.1 c3
    refine w_i2t (q196 20) (inR_zz _ _ _) (by decide) c3 ?_
    refine w_aln (p := 31) (q196 30) rfl rfl ?_
    refine w_aln (p := 32) (q196 31) rfl rfl ?_
    refine w_gR (p := 35) (j := 45) (v := 85) (q196 32) rfl (r56 hB) (by decide) (f56_45 hB) ?_
    refine w_iln (p := 36) (q196 35) rfl rfl ?_
    refine w_ia (p := 37) (v := (zz s 85 x1.toNat)) (q196 36) rfl (r85 hB) (by decide) o2 (iv_zz s 85 x1.toNat) ?_
    refine w_call (st := []) (as := [.ref 56, iv (zz s 85 x1.toNat)]) (as' := [iv (zz s 85 x1.toNat), .ref 56]) (p := 40) (q196 37) rfl m197 (by decide) (a_ok_i rfl (r56 hB) rfl) rfl rfl (Nat.le_of_ble_eq_true rfl) (by omega) rfl rfl (a_W.imp w ?_)
    rintro _ ⟨v6, s4, l5, rfl, w⟩
    refine ⟨some (iv v6), _, rfl, ?_⟩
    show a_W _ 196 40 [.ref 56, iv x1, iv (zz s 56 62), .retAddr 0, .retAddr 0] [iv v6] (mkH B s4 l5) _
    refine w_isn (p := 41) (ls' := [.ref 56, iv x1, iv (zz s 56 62), iv v6, .retAddr 0]) (q196 40) rfl (Nat.le_of_ble_eq_true rfl) rfl ?_
    refine w_aln (p := 42) (q196 41) rfl rfl ?_
    refine w_gR (p := 45) (j := 60) (v := 96) (q196 42) rfl (r56 hB) (by decide) (f56_60 hB) ?_
    refine w_aln (p := 46) (q196 45) rfl rfl ?_
    refine w_gI (p := 49) (j := 59) (v := (zz s4 56 59)) (q196 46) rfl (r56 hB) (by decide) (iv_zz s4 56 59) ?_
    refine w_aln (p := 50) (q196 49) rfl rfl ?_
    refine w_gR (p := 53) (j := 43) (v := 83) (q196 50) rfl (r56 hB) (by decide) (f56_43 hB) ?_
    refine w_iln (p := 54) (q196 53) rfl rfl ?_
    refine w_ia (p := 55) (v := (zz s4 83 x1.toNat)) (q196 54) rfl (r83 hB) (by decide) o2 (iv_zz s4 83 x1.toNat) ?_
    obtain ⟨o7, w⟩ := w
    refine w_ias (p := 56) (q196 55) rfl (r96 hB) (by decide) o7 ?_
    refine w_aln (p := 57) (q196 56) rfl rfl ?_
    refine w_gR (p := 60) (j := 61) (v := 97) (q196 57) rfl (r56 hB) (by decide) (f56_61 hB) ?_
    refine w_aln (p := 61) (q196 60) rfl rfl ?_
    refine w_gI (p := 64) (j := 59) (v := (zz s4 56 59)) (q196 61) rfl (r56 hB) (by decide) (iv_zz s4 56 59) ?_
    refine w_iln (p := 65) (q196 64) rfl rfl ?_
    refine w_ias (p := 66) (q196 65) rfl (r97 hB) (by decide) o7 ?_
    refine w_aln (p := 67) (q196 66) rfl rfl ?_
    refine w_dupr (p := 68) (q196 67) rfl ?_
    refine w_gI (p := 71) (j := 59) (v := (zz s4 56 59)) (q196 68) rfl (r56 hB) (by decide) (iv_zz s4 56 59) ?_
    refine w_ic (p := 72) (q196 71) rfl ?_
    refine w_add (p := 73) (q196 72) rfl ?_
    refine w_pI (p := 76) (j := 59) (q196 73) rfl (r56 hB) (by decide) rfl ?_
    refine w_aln (p := 77) (q196 76) rfl rfl ?_
    refine w_aln (p := 78) (q196 77) rfl rfl ?_
    refine w_gR (p := 81) (j := 44) (v := 84) (q196 78) rfl (r56 hB) (by decide) (f56_44 hB) ?_
    refine w_iln (p := 82) (q196 81) rfl rfl ?_
    refine w_ia (p := 83) (v := (zz s4 84 x1.toNat)) (q196 82) rfl (r84 hB) (by decide) o2 (iv_zz s4 84 x1.toNat) ?_
    refine w_call (st := []) (as := [.ref 56, iv (zz s4 84 x1.toNat)]) (as' := [iv (zz s4 84 x1.toNat), .ref 56]) (p := 86) (q196 83) rfl m187 (by decide) (a_ok_i rfl (r56 hB) rfl) rfl rfl (Nat.le_of_ble_eq_true rfl) (by omega) rfl rfl (a_W.imp w ?_)
    rintro _ ⟨v10, s8, l9, rfl, w⟩
    refine ⟨some (iv v10), _, rfl, ?_⟩
    show a_W _ 196 86 [.ref 56, iv x1, iv (zz s 56 62), iv v6, .retAddr 0] [iv v10] (mkH B s8 l9) _
    refine w_is (p := 88) (ls' := [.ref 56, iv x1, iv (zz s 56 62), iv v6, iv v10]) (q196 86) rfl (Nat.le_of_ble_eq_true rfl) rfl ?_
    refine w_aln (p := 89) (q196 88) rfl rfl ?_
    refine w_dupr (p := 90) (q196 89) rfl ?_
    refine w_gI (p := 93) (j := 59) (v := (zz s8 56 59)) (q196 90) rfl (r56 hB) (by decide) (iv_zz s8 56 59) ?_
    refine w_ic (p := 94) (q196 93) rfl ?_
    refine w_sub (p := 95) (q196 94) rfl ?_
    refine w_pI (p := 98) (j := 59) (q196 95) rfl (r56 hB) (by decide) rfl ?_
    refine w_aln (p := 99) (q196 98) rfl rfl ?_
    refine w_gR (p := 102) (j := 64) (v := 99) (q196 99) rfl (r56 hB) (by decide) (f56_64 hB) ?_
    refine w_iln (p := 103) (q196 102) rfl rfl ?_
    refine w_aln (p := 104) (q196 103) rfl rfl ?_
    refine w_iln (p := 105) (q196 104) rfl rfl ?_
    refine w_il (p := 107) (q196 105) rfl rfl ?_
    refine w_call (st := [iv (zz s 56 62), .ref 99]) (as := [.ref 56, iv v6, iv v10]) (as' := [iv v10, iv v6, .ref 56]) (p := 110) (q196 107) rfl m138 (by decide) (a_ok_i rfl (r56 hB) rfl) rfl rfl (Nat.le_of_ble_eq_true rfl) (by omega) rfl rfl (a_W.imp w ?_)
    rintro _ ⟨v13, s11, l12, rfl, w⟩
    refine ⟨some (iv v13), _, rfl, ?_⟩
    show a_W _ 196 110 [.ref 56, iv x1, iv (zz s 56 62), iv v6, iv v10] [iv v13, iv (zz s 56 62), .ref 99] (mkH B s11 l12) _
    refine w_ias (p := 111) (q196 110) rfl (r99 hB) (by decide) o1 ?_
    refine w_aln (p := 112) (q196 111) rfl rfl ?_
    refine w_gR (p := 115) (j := 64) (v := 99) (q196 112) rfl (r56 hB) (by decide) (f56_64 hB) ?_
    refine w_iln (p := 116) (q196 115) rfl rfl ?_
    refine w_ia (p := 117) (v := v13) (q196 116) rfl (r99 hB) (by decide) o1 (by unfold zu a_up; simp only [if_true]) ?_
    exact w_ret (q196 117) rfl w
  · replace w := w.2 (Decidable.not_not.mp c3)
    refine w_i2f (p := 23) (q196 20) rfl (inR_zz _ _ _) (by decide) c3 ?_
    refine w_aln (p := 24) (q196 23) rfl rfl ?_
    refine w_call (st := []) (as := [.ref 56]) (as' := [.ref 56]) (p := 27) (q196 24) rfl m191 (by decide) (a_ok_i rfl (r56 hB) rfl) rfl rfl (Nat.le_of_ble_eq_true rfl) (by omega) rfl rfl (a_W.imp w ?_)
    rintro _ ⟨v16, s14, l15, rfl, w⟩
    refine ⟨some (iv v16), _, rfl, ?_⟩
    show a_W _ 196 27 [.ref 56, iv x1, iv (zz s 56 62), .retAddr 0, .retAddr 0] [iv v16] (mkH B s14 l15) _
    refine w_goto (q196 27) ?_
    refine w_isn (p := 41) (ls' := [.ref 56, iv x1, iv (zz s 56 62), iv v16, .retAddr 0]) (q196 40) rfl (Nat.le_of_ble_eq_true rfl) rfl ?_
    refine w_aln (p := 42) (q196 41) rfl rfl ?_
    refine w_gR (p := 45) (j := 60) (v := 96) (q196 42) rfl (r56 hB) (by decide) (f56_60 hB) ?_
    refine w_aln (p := 46) (q196 45) rfl rfl ?_
    refine w_gI (p := 49) (j := 59) (v := (zz s14 56 59)) (q196 46) rfl (r56 hB) (by decide) (iv_zz s14 56 59) ?_
    refine w_aln (p := 50) (q196 49) rfl rfl ?_
    refine w_gR (p := 53) (j := 43) (v := 83) (q196 50) rfl (r56 hB) (by decide) (f56_43 hB) ?_
    refine w_iln (p := 54) (q196 53) rfl rfl ?_
    refine w_ia (p := 55) (v := (zz s14 83 x1.toNat)) (q196 54) rfl (r83 hB) (by decide) o2 (iv_zz s14 83 x1.toNat) ?_
    obtain ⟨o17, w⟩ := w
    refine w_ias (p := 56) (q196 55) rfl (r96 hB) (by decide) o17 ?_
    refine w_aln (p := 57) (q196 56) rfl rfl ?_
    refine w_gR (p := 60) (j := 61) (v := 97) (q196 57) rfl (r56 hB) (by decide) (f56_61 hB) ?_
    refine w_aln (p := 61) (q196 60) rfl rfl ?_
    refine w_gI (p := 64) (j := 59) (v := (zz s14 56 59)) (q196 61) rfl (r56 hB) (by decide) (iv_zz s14 56 59) ?_
    refine w_iln (p := 65) (q196 64) rfl rfl ?_
    refine w_ias (p := 66) (q196 65) rfl (r97 hB) (by decide) o17 ?_
    refine w_aln (p := 67) (q196 66) rfl rfl ?_
    refine w_dupr (p := 68) (q196 67) rfl ?_
    refine w_gI (p := 71) (j := 59) (v := (zz s14 56 59)) (q196 68) rfl (r56 hB) (by decide) (iv_zz s14 56 59) ?_
    refine w_ic (p := 72) (q196 71) rfl ?_
    refine w_add (p := 73) (q196 72) rfl ?_
    refine w_pI (p := 76) (j := 59) (q196 73) rfl (r56 hB) (by decide) rfl ?_
    refine w_aln (p := 77) (q196 76) rfl rfl ?_
    refine w_aln (p := 78) (q196 77) rfl rfl ?_
    refine w_gR (p := 81) (j := 44) (v := 84) (q196 78) rfl (r56 hB) (by decide) (f56_44 hB) ?_
    refine w_iln (p := 82) (q196 81) rfl rfl ?_
    refine w_ia (p := 83) (v := (zz s14 84 x1.toNat)) (q196 82) rfl (r84 hB) (by decide) o2 (iv_zz s14 84 x1.toNat) ?_
    refine w_call (st := []) (as := [.ref 56, iv (zz s14 84 x1.toNat)]) (as' := [iv (zz s14 84 x1.toNat), .ref 56]) (p := 86) (q196 83) rfl m187 (by decide) (a_ok_i rfl (r56 hB) rfl) rfl rfl (Nat.le_of_ble_eq_true rfl) (by omega) rfl rfl (a_W.imp w ?_)
    rintro _ ⟨v20, s18, l19, rfl, w⟩
    refine ⟨some (iv v20), _, rfl, ?_⟩
    show a_W _ 196 86 [.ref 56, iv x1, iv (zz s 56 62), iv v16, .retAddr 0] [iv v20] (mkH B s18 l19) _
    refine w_is (p := 88) (ls' := [.ref 56, iv x1, iv (zz s 56 62), iv v16, iv v20]) (q196 86) rfl (Nat.le_of_ble_eq_true rfl) rfl ?_
    refine w_aln (p := 89) (q196 88) rfl rfl ?_
    refine w_dupr (p := 90) (q196 89) rfl ?_
    refine w_gI (p := 93) (j := 59) (v := (zz s18 56 59)) (q196 90) rfl (r56 hB) (by decide) (iv_zz s18 56 59) ?_
    refine w_ic (p := 94) (q196 93) rfl ?_
    refine w_sub (p := 95) (q196 94) rfl ?_
    refine w_pI (p := 98) (j := 59) (q196 95) rfl (r56 hB) (by decide) rfl ?_
    refine w_aln (p := 99) (q196 98) rfl rfl ?_
    refine w_gR (p := 102) (j := 64) (v := 99) (q196 99) rfl (r56 hB) (by decide) (f56_64 hB) ?_
    refine w_iln (p := 103) (q196 102) rfl rfl ?_
    refine w_aln (p := 104) (q196 103) rfl rfl ?_
    refine w_iln (p := 105) (q196 104) rfl rfl ?_
    refine w_il (p := 107) (q196 105) rfl rfl ?_
    refine w_call (st := [iv (zz s 56 62), .ref 99]) (as := [.ref 56, iv v16, iv v20]) (as' := [iv v20, iv v16, .ref 56]) (p := 110) (q196 107) rfl m138 (by decide) (a_ok_i rfl (r56 hB) rfl) rfl rfl (Nat.le_of_ble_eq_true rfl) (by omega) rfl rfl (a_W.imp w ?_)
    rintro _ ⟨v23, s21, l22, rfl, w⟩
    refine ⟨some (iv v23), _, rfl, ?_⟩
    show a_W _ 196 110 [.ref 56, iv x1, iv (zz s 56 62), iv v16, iv v20] [iv v23, iv (zz s 56 62), .ref 99] (mkH B s21 l22) _
    refine w_ias (p := 111) (q196 110) rfl (r99 hB) (by decide) o1 ?_
    refine w_aln (p := 112) (q196 111) rfl rfl ?_
    refine w_gR (p := 115) (j := 64) (v := 99) (q196 112) rfl (r56 hB) (by decide) (f56_64 hB) ?_
    refine w_iln (p := 116) (q196 115) rfl rfl ?_
    refine w_ia (p := 117) (v := v23) (q196 116) rfl (r99 hB) (by decide) o1 (by unfold zu a_up; simp only [if_true]) ?_
    exact w_ret (q196 117) rfl w
theorem w187_0 {d : Nat} {B : aH} {Q : aR → Prop} (hB : a_Can B) (hd : 1 ≤ d) (x1 : Int) (s : Nat → Nat → Int32) (l : Nat → Nat → Int64) (w : (((zz s 56 22) ≤ 0 → ((0 ≤ x1 ∧ x1 < 30100) ∧ (((zz s 82 x1.toNat) = 0 → a_W (d - 1) 185 0 [.ref 56, iv (zz s 83 x1.toNat), .retAddr 0] [] (mkH B s l) (fun r => ∃ (v6 : Int) (s4 : Nat → Nat → Int32) (l5 : Nat → Nat → Int64), r = (.inl (some (iv v6)), mkH B s4 l5) ∧ (inR v6 ∧ ((v6 = (-1) → a_W (d - 1) 186 0 [.ref 56, iv x1] [] (mkH B s4 l5) (fun r => ∃ (v11 : Int) (s9 : Nat → Nat → Int32) (l10 : Nat → Nat → Int64), r = (.inl (some (iv v11)), mkH B s9 l10) ∧ a_W (d - 1) 186 0 [.ref 56, iv x1] [] (mkH B s9 l10) (fun r => ∃ (v14 : Int) (s12 : Nat → Nat → Int32) (l13 : Nat → Nat → Int64), r = (.inl (some (iv v14)), mkH B s12 l13) ∧ a_W (d - 1) 189 0 [.ref 56, iv v14] [] (mkH B s12 l13) (fun r => ∃ (v17 : Int) (s15 : Nat → Nat → Int32) (l16 : Nat → Nat → Int64), r = (.inl (some (iv v17)), mkH B s15 l16) ∧ a_W (d - 1) 188 0 [.ref 56, iv ((2 * v11) + 1), iv v17] [] (mkH B s15 l16) (fun r => ∃ (v20 : Int) (s18 : Nat → Nat → Int32) (l19 : Nat → Nat → Int64), r = (.inl (some (iv v20)), mkH B s18 l19) ∧ Q (.inl (some (iv v20)), (mkH B s18 l19))))))) ∧ (v6 ≠ (-1) → ((0 ≤ v6 ∧ v6 < 600) ∧ a_W (d - 1) 188 0 [.ref 56, iv (2 * (((zz s4 56 59) - 1) - v6)), iv (zz s4 97 v6.toNat)] [] (mkH B s4 l5) (fun r => ∃ (v24 : Int) (s22 : Nat → Nat → Int32) (l23 : Nat → Nat → Int64), r = (.inl (some (iv v24)), mkH B s22 l23) ∧ Q (.inl (some (iv v24)), (mkH B s22 l23))))))))) ∧ ((zz s 82 x1.toNat) = 1 → a_W (d - 1) 192 0 [.ref 56, iv x1, .retAddr 0, .retAddr 0] [] (mkH B s l) (fun r => ∃ (v28 : Int) (s26 : Nat → Nat → Int32) (l27 : Nat → Nat → Int64), r = (.inl (some (iv v28)), mkH B s26 l27) ∧ Q (.inl (some (iv v28)), (mkH B s26 l27)))) ∧ ((zz s 82 x1.toNat) = 2 → a_W (d - 1) 195 0 [.ref 56, iv (zz s 83 x1.toNat), .retAddr 0, .retAddr 0] [] (mkH B s l) (fun r => ∃ (v32 : Int) (s30 : Nat → Nat → Int32) (l31 : Nat → Nat → Int64), r = (.inl (some (iv v32)), mkH B s30 l31) ∧ Q (.inl (some (iv v32)), (mkH B s30 l31)))) ∧ ((zz s 82 x1.toNat) = 3 → a_W (d - 1) 188 0 [.ref 56, iv (-1), iv (-1)] [] (mkH B s l) (fun r => ∃ (v36 : Int) (s34 : Nat → Nat → Int32) (l35 : Nat → Nat → Int64), r = (.inl (some (iv v36)), mkH B s34 l35) ∧ a_W (d - 1) 187 0 [.ref 56, iv (zz s34 83 x1.toNat), .retAddr 0, .retAddr 0, .retAddr 0, .retAddr 0, .retAddr 0] [] (mkH B s34 l35) (fun r => ∃ (v39 : Int) (s37 : Nat → Nat → Int32) (l38 : Nat → Nat → Int64), r = (.inl (some (iv v39)), mkH B s37 l38) ∧ a_W (d - 1) 187 0 [.ref 56, iv (zz s37 84 x1.toNat), .retAddr 0, .retAddr 0, .retAddr 0, .retAddr 0, .retAddr 0] [] (mkH B s37 l38) (fun r => ∃ (v42 : Int) (s40 : Nat → Nat → Int32) (l41 : Nat → Nat → Int64), r = (.inl (some (iv v42)), mkH B s40 l41) ∧ a_W (d - 1) 191 0 [.ref 56] [] (mkH B s40 l41) (fun r => ∃ (v45 : Int) (s43 : Nat → Nat → Int32) (l44 : Nat → Nat → Int64), r = (.inl (some (iv v45)), mkH B s43 l44) ∧ ((0 ≤ (zz s 56 62) ∧ (zz s 56 62) < 520) ∧ a_W (d - 1) 138 0 [.ref 56, iv v42, iv v45] [] (mkH B (zu s43 99 (zz s 56 62).toNat v45) l44) (fun r => ∃ (v49 : Int) (s47 : Nat → Nat → Int32) (l48 : Nat → Nat → Int64), r = (.inl (some (iv v49)), mkH B s47 l48) ∧ a_W (d - 1) 193 0 [.ref 56, iv v39, iv v49, .retAddr 0, .retAddr 0, .retAddr 0, .retAddr 0] [] (mkH B s47 l48) (fun r => ∃ (s50 : Nat → Nat → Int32) (l51 : Nat → Nat → Int64), r = (.inl none, mkH B s50 l51) ∧ Q (.inl (some (iv (zz s50 99 (zz s 56 62).toNat))), (mkH B s50 l51)))))))))) ∧ ((zz s 82 x1.toNat) = 4 → a_W (d - 1) 196 0 [.ref 56, iv x1, .retAddr 0, .retAddr 0, .retAddr 0] [] (mkH B s l) (fun r => ∃ (v55 : Int) (s53 : Nat → Nat → Int32) (l54 : Nat → Nat → Int64), r = (.inl (some (iv v55)), mkH B s53 l54) ∧ Q (.inl (some (iv v55)), (mkH B s53 l54)))) ∧ ((zz s 82 x1.toNat) ≠ 0 ∧ (zz s 82 x1.toNat) ≠ 1 ∧ (zz s 82 x1.toNat) ≠ 2 ∧ (zz s 82 x1.toNat) ≠ 3 ∧ (zz s 82 x1.toNat) ≠ 4 → a_W (d - 1) 187 0 [.ref 56, iv (zz s 83 x1.toNat), .retAddr 0, .retAddr 0, .retAddr 0, .retAddr 0, .retAddr 0] [] (mkH B s l) (fun r => ∃ (v58 : Int) (s56 : Nat → Nat → Int32) (l57 : Nat → Nat → Int64), r = (.inl (some (iv v58)), mkH B s56 l57) ∧ a_W (d - 1) 197 0 [.ref 56, iv (zz s56 84 x1.toNat), .retAddr 0, .retAddr 0, .retAddr 0, .retAddr 0] [] (mkH B s56 l57) (fun r => ∃ (v61 : Int) (s59 : Nat → Nat → Int32) (l60 : Nat → Nat → Int64), r = (.inl (some (iv v61)), mkH B s59 l60) ∧ a_W (d - 1) 193 0 [.ref 56, iv v58, iv v61, .retAddr 0, .retAddr 0, .retAddr 0, .retAddr 0] [] (mkH B s59 l60) (fun r => ∃ (s62 : Nat → Nat → Int32) (l63 : Nat → Nat → Int64), r = (.inl none, mkH B s62 l63) ∧ Q (.inl (some (iv v58)), (mkH B s62 l63))))))))) ∧ (0 < (zz s 56 22) → Q (.inl (some (iv 0)), (mkH B s l))))) : a_W d 187 0 [.ref 56, iv x1, .retAddr 0, .retAddr 0, .retAddr 0, .retAddr 0, .retAddr 0] [] (mkH B s l) Q := by
  refine w_aln (p := 1) (q187 0) rfl rfl ?_
  refine w_gI (p := 4) (j := 22) (v := (zz s 56 22)) (q187 1) rfl (r56 hB) (by decide) (iv_zz s 56 22) ?_
  by_cases c1 : (zz s 56 22) ≤ 0
  · replace w := w.1 c1
    refine w_i1t (q187 4) (inR_zz _ _ _) c1 ?_
    refine w_aln (p := 10) (q187 9) rfl rfl ?_
    refine w_gR (p := 13) (j := 42) (v := 82) (q187 10) rfl (r56 hB) (by decide) (f56_42 hB) ?_
    refine w_iln (p := 14) (q187 13) rfl rfl ?_
    obtain ⟨o2, w⟩ := w
    refine w_ia (p := 15) (v := (zz s 82 x1.toNat)) (q187 14) rfl (r82 hB) (by decide) o2 (iv_zz s 82 x1.toNat) ?_
    by_cases c3 : (zz s 82 x1.toNat) = 0
    · replace w := w.1 c3
      refine w_sw (p := 48) (q187 15) (inR_zz _ _ _) (by intro g; rw [c3]; rfl) ?_
      refine w_aln (p := 49) (q187 48) rfl rfl ?_
      refine w_aln (p := 50) (q187 49) rfl rfl ?_
      refine w_gR (p := 53) (j := 43) (v := 83) (q187 50) rfl (r56 hB) (by decide) (f56_43 hB) ?_
      refine w_iln (p := 54) (q187 53) rfl rfl ?_
      refine w_ia (p := 55) (v := (zz s 83 x1.toNat)) (q187 54) rfl (r83 hB) (by decide) o2 (iv_zz s 83 x1.toNat) ?_
      refine w_call (st := []) (as := [.ref 56, iv (zz s 83 x1.toNat)]) (as' := [iv (zz s 83 x1.toNat), .ref 56]) (p := 58) (q187 55) rfl m185 (by decide) (a_ok_i rfl (r56 hB) rfl) rfl rfl (Nat.le_of_ble_eq_true rfl) (by omega) rfl rfl (a_W.imp w ?_)
      rintro _ ⟨v6, s4, l5, rfl, w⟩
      refine ⟨some (iv v6), _, rfl, ?_⟩
      show a_W _ 187 58 [.ref 56, iv x1, .retAddr 0, .retAddr 0, .retAddr 0, .retAddr 0, .retAddr 0] [iv v6] (mkH B s4 l5) _
      refine w_isn (p := 59) (ls' := [.ref 56, iv x1, iv v6, .retAddr 0, .retAddr 0, .retAddr 0, .retAddr 0]) (q187 58) rfl (Nat.le_of_ble_eq_true rfl) rfl ?_
      refine w_iln (p := 60) (q187 59) rfl rfl ?_
      refine w_ic (p := 61) (q187 60) rfl ?_
      obtain ⟨h7, w⟩ := w
      by_cases c8 : v6 = (-1)
      · replace w := w.1 c8
        refine w_i2t (q187 61) h7 (by decide) c8 ?_
        refine w_aln (p := 88) (q187 87) rfl rfl ?_
        refine w_ic (p := 89) (q187 88) rfl ?_
        refine w_aln (p := 90) (q187 89) rfl rfl ?_
        refine w_iln (p := 91) (q187 90) rfl rfl ?_
        refine w_call (st := [iv 2, .ref 56]) (as := [.ref 56, iv x1]) (as' := [iv x1, .ref 56]) (p := 94) (q187 91) rfl m186 (by decide) (a_ok_i rfl (r56 hB) rfl) rfl rfl (Nat.le_of_ble_eq_true rfl) (by omega) rfl rfl (a_W.imp w ?_)
        rintro _ ⟨v11, s9, l10, rfl, w⟩
        refine ⟨some (iv v11), _, rfl, ?_⟩
        show a_W _ 187 94 [.ref 56, iv x1, iv v6, .retAddr 0, .retAddr 0, .retAddr 0, .retAddr 0] [iv v11, iv 2, .ref 56] (mkH B s9 l10) _
        refine w_mulz (p := 95) (q187 94) rfl ?_
        refine w_ic (p := 96) (q187 95) rfl ?_
        refine w_add (p := 97) (q187 96) rfl ?_
        refine w_aln (p := 98) (q187 97) rfl rfl ?_
        refine w_aln (p := 99) (q187 98) rfl rfl ?_
        refine w_iln (p := 100) (q187 99) rfl rfl ?_
        refine w_call (st := [.ref 56, iv ((2 * v11) + 1), .ref 56]) (as := [.ref 56, iv x1]) (as' := [iv x1, .ref 56]) (p := 103) (q187 100) rfl m186 (by decide) (a_ok_i rfl (r56 hB) rfl) rfl rfl (Nat.le_of_ble_eq_true rfl) (by omega) rfl rfl (a_W.imp w ?_)
        rintro _ ⟨v14, s12, l13, rfl, w⟩
        refine ⟨some (iv v14), _, rfl, ?_⟩
        show a_W _ 187 103 [.ref 56, iv x1, iv v6, .retAddr 0, .retAddr 0, .retAddr 0, .retAddr 0] [iv v14, .ref 56, iv ((2 * v11) + 1), .ref 56] (mkH B s12 l13) _
        refine w_call (st := [iv ((2 * v11) + 1), .ref 56]) (as := [.ref 56, iv v14]) (as' := [iv v14, .ref 56]) (p := 106) (q187 103) rfl m189 (by decide) (a_ok_i rfl (r56 hB) rfl) rfl rfl (Nat.le_of_ble_eq_true rfl) (by omega) rfl rfl (a_W.imp w ?_)
        rintro _ ⟨v17, s15, l16, rfl, w⟩
        refine ⟨some (iv v17), _, rfl, ?_⟩
        show a_W _ 187 106 [.ref 56, iv x1, iv v6, .retAddr 0, .retAddr 0, .retAddr 0, .retAddr 0] [iv v17, iv ((2 * v11) + 1), .ref 56] (mkH B s15 l16) _
        refine w_call (st := []) (as := [.ref 56, iv ((2 * v11) + 1), iv v17]) (as' := [iv v17, iv ((2 * v11) + 1), .ref 56]) (p := 109) (q187 106) rfl m188 (by decide) (a_ok_i rfl (r56 hB) rfl) rfl rfl (Nat.le_of_ble_eq_true rfl) (by omega) rfl rfl (a_W.imp w ?_)
        rintro _ ⟨v20, s18, l19, rfl, w⟩
        refine ⟨some (iv v20), _, rfl, ?_⟩
        show a_W _ 187 109 [.ref 56, iv x1, iv v6, .retAddr 0, .retAddr 0, .retAddr 0, .retAddr 0] [iv v20] (mkH B s18 l19) _
        exact w_ret (q187 109) rfl w
      · replace w := w.2 c8
        refine w_i2f (p := 64) (q187 61) rfl h7 (by decide) c8 ?_
        refine w_aln (p := 65) (q187 64) rfl rfl ?_
        refine w_ic (p := 66) (q187 65) rfl ?_
        refine w_aln (p := 67) (q187 66) rfl rfl ?_
        refine w_gI (p := 70) (j := 59) (v := (zz s4 56 59)) (q187 67) rfl (r56 hB) (by decide) (iv_zz s4 56 59) ?_
        refine w_ic (p := 71) (q187 70) rfl ?_
        refine w_sub (p := 72) (q187 71) rfl ?_
        refine w_iln (p := 73) (q187 72) rfl rfl ?_
        refine w_sub (p := 74) (q187 73) rfl ?_
        refine w_mulz (p := 75) (q187 74) rfl ?_
        refine w_aln (p := 76) (q187 75) rfl rfl ?_
        refine w_gR (p := 79) (j := 61) (v := 97) (q187 76) rfl (r56 hB) (by decide) (f56_61 hB) ?_
        refine w_iln (p := 80) (q187 79) rfl rfl ?_
        obtain ⟨o21, w⟩ := w
        refine w_ia (p := 81) (v := (zz s4 97 v6.toNat)) (q187 80) rfl (r97 hB) (by decide) o21 (iv_zz s4 97 v6.toNat) ?_
        refine w_call (st := []) (as := [.ref 56, iv (2 * (((zz s4 56 59) - 1) - v6)), iv (zz s4 97 v6.toNat)]) (as' := [iv (zz s4 97 v6.toNat), iv (2 * (((zz s4 56 59) - 1) - v6)), .ref 56]) (p := 84) (q187 81) rfl m188 (by decide) (a_ok_i rfl (r56 hB) rfl) rfl rfl (Nat.le_of_ble_eq_true rfl) (by omega) rfl rfl (a_W.imp w ?_)
        rintro _ ⟨v24, s22, l23, rfl, w⟩
        refine ⟨some (iv v24), _, rfl, ?_⟩
        show a_W _ 187 84 [.ref 56, iv x1, iv v6, .retAddr 0, .retAddr 0, .retAddr 0, .retAddr 0] [iv v24] (mkH B s22 l23) _
        refine w_goto (q187 84) ?_
        exact w_ret (q187 109) rfl w
    by_cases c25 : (zz s 82 x1.toNat) = 1
    · replace w := w.2.1 c25
      refine w_sw (p := 110) (q187 15) (inR_zz _ _ _) (by intro g; rw [c25]; rfl) ?_
      refine w_aln (p := 111) (q187 110) rfl rfl ?_
      refine w_iln (p := 112) (q187 111) rfl rfl ?_
      refine w_call (st := []) (as := [.ref 56, iv x1]) (as' := [iv x1, .ref 56]) (p := 115) (q187 112) rfl m192 (by decide) (a_ok_i rfl (r56 hB) rfl) rfl rfl (Nat.le_of_ble_eq_true rfl) (by omega) rfl rfl (a_W.imp w ?_)
      rintro _ ⟨v28, s26, l27, rfl, w⟩
      refine ⟨some (iv v28), _, rfl, ?_⟩
      show a_W _ 187 115 [.ref 56, iv x1, .retAddr 0, .retAddr 0, .retAddr 0, .retAddr 0, .retAddr 0] [iv v28] (mkH B s26 l27) _
      exact w_ret (q187 115) rfl w
    by_cases c29 : (zz s 82 x1.toNat) = 2
    · replace w := w.2.2.1 c29
      refine w_sw (p := 116) (q187 15) (inR_zz _ _ _) (by intro g; rw [c29]; rfl) ?_
      refine w_aln (p := 117) (q187 116) rfl rfl ?_
      refine w_aln (p := 118) (q187 117) rfl rfl ?_
      refine w_gR (p := 121) (j := 43) (v := 83) (q187 118) rfl (r56 hB) (by decide) (f56_43 hB) ?_
      refine w_iln (p := 122) (q187 121) rfl rfl ?_
      refine w_ia (p := 123) (v := (zz s 83 x1.toNat)) (q187 122) rfl (r83 hB) (by decide) o2 (iv_zz s 83 x1.toNat) ?_
      refine w_call (st := []) (as := [.ref 56, iv (zz s 83 x1.toNat)]) (as' := [iv (zz s 83 x1.toNat), .ref 56]) (p := 126) (q187 123) rfl m195 (by decide) (a_ok_i rfl (r56 hB) rfl) rfl rfl (Nat.le_of_ble_eq_true rfl) (by omega) rfl rfl (a_W.imp w ?_)
      rintro _ ⟨v32, s30, l31, rfl, w⟩
      refine ⟨some (iv v32), _, rfl, ?_⟩
      show a_W _ 187 126 [.ref 56, iv x1, .retAddr 0, .retAddr 0, .retAddr 0, .retAddr 0, .retAddr 0] [iv v32] (mkH B s30 l31) _
      exact w_ret (q187 126) rfl w
    by_cases c33 : (zz s 82 x1.toNat) = 3
    · replace w := w.2.2.2.1 c33
      refine w_sw (p := 127) (q187 15) (inR_zz _ _ _) (by intro g; rw [c33]; rfl) ?_
      refine w_aln (p := 128) (q187 127) rfl rfl ?_
      refine w_gI (p := 131) (j := 62) (v := (zz s 56 62)) (q187 128) rfl (r56 hB) (by decide) (iv_zz s 56 62) ?_
      refine w_isn (p := 132) (ls' := [.ref 56, iv x1, .retAddr 0, iv (zz s 56 62), .retAddr 0, .retAddr 0, .retAddr 0]) (q187 131) rfl (Nat.le_of_ble_eq_true rfl) rfl ?_
      refine w_aln (p := 133) (q187 132) rfl rfl ?_
      refine w_ic (p := 134) (q187 133) rfl ?_
      refine w_ic (p := 135) (q187 134) rfl ?_
      refine w_call (st := []) (as := [.ref 56, iv (-1), iv (-1)]) (as' := [iv (-1), iv (-1), .ref 56]) (p := 138) (q187 135) rfl m188 (by decide) (a_ok_i rfl (r56 hB) rfl) rfl rfl (Nat.le_of_ble_eq_true rfl) (by omega) rfl rfl (a_W.imp w ?_)
      rintro _ ⟨v36, s34, l35, rfl, w⟩
      refine ⟨some (iv v36), _, rfl, ?_⟩
      show a_W _ 187 138 [.ref 56, iv x1, .retAddr 0, iv (zz s 56 62), .retAddr 0, .retAddr 0, .retAddr 0] [iv v36] (mkH B s34 l35) _
      refine w_pop (p := 139) (q187 138) rfl ?_
      refine w_aln (p := 140) (q187 139) rfl rfl ?_
      refine w_aln (p := 141) (q187 140) rfl rfl ?_
      refine w_gR (p := 144) (j := 43) (v := 83) (q187 141) rfl (r56 hB) (by decide) (f56_43 hB) ?_
      refine w_iln (p := 145) (q187 144) rfl rfl ?_
      refine w_ia (p := 146) (v := (zz s34 83 x1.toNat)) (q187 145) rfl (r83 hB) (by decide) o2 (iv_zz s34 83 x1.toNat) ?_
      refine w_call (st := []) (as := [.ref 56, iv (zz s34 83 x1.toNat)]) (as' := [iv (zz s34 83 x1.toNat), .ref 56]) (p := 149) (q187 146) rfl m187 (by decide) (a_ok_i rfl (r56 hB) rfl) rfl rfl (Nat.le_of_ble_eq_true rfl) (by omega) rfl rfl (a_W.imp w ?_)
      rintro _ ⟨v39, s37, l38, rfl, w⟩
      refine ⟨some (iv v39), _, rfl, ?_⟩
      show a_W _ 187 149 [.ref 56, iv x1, .retAddr 0, iv (zz s 56 62), .retAddr 0, .retAddr 0, .retAddr 0] [iv v39] (mkH B s37 l38) _
      refine w_is (p := 151) (ls' := [.ref 56, iv x1, .retAddr 0, iv (zz s 56 62), iv v39, .retAddr 0, .retAddr 0]) (q187 149) rfl (Nat.le_of_ble_eq_true rfl) rfl ?_
      refine w_aln (p := 152) (q187 151) rfl rfl ?_
      refine w_aln (p := 153) (q187 152) rfl rfl ?_
      refine w_gR (p := 156) (j := 44) (v := 84) (q187 153) rfl (r56 hB) (by decide) (f56_44 hB) ?_
      refine w_iln (p := 157) (q187 156) rfl rfl ?_
      refine w_ia (p := 158) (v := (zz s37 84 x1.toNat)) (q187 157) rfl (r84 hB) (by decide) o2 (iv_zz s37 84 x1.toNat) ?_
      refine w_call (st := []) (as := [.ref 56, iv (zz s37 84 x1.toNat)]) (as' := [iv (zz s37 84 x1.toNat), .ref 56]) (p := 161) (q187 158) rfl m187 (by decide) (a_ok_i rfl (r56 hB) rfl) rfl rfl (Nat.le_of_ble_eq_true rfl) (by omega) rfl rfl (a_W.imp w ?_)
      rintro _ ⟨v42, s40, l41, rfl, w⟩
      refine ⟨some (iv v42), _, rfl, ?_⟩
      show a_W _ 187 161 [.ref 56, iv x1, .retAddr 0, iv (zz s 56 62), iv v39, .retAddr 0, .retAddr 0] [iv v42] (mkH B s40 l41) _
      refine w_is (p := 163) (ls' := [.ref 56, iv x1, .retAddr 0, iv (zz s 56 62), iv v39, iv v42, .retAddr 0]) (q187 161) rfl (Nat.le_of_ble_eq_true rfl) rfl ?_
      refine w_aln (p := 164) (q187 163) rfl rfl ?_
      refine w_gR (p := 167) (j := 64) (v := 99) (q187 164) rfl (r56 hB) (by decide) (f56_64 hB) ?_
      refine w_iln (p := 168) (q187 167) rfl rfl ?_
      refine w_aln (p := 169) (q187 168) rfl rfl ?_
      refine w_call (st := [iv (zz s 56 62), .ref 99]) (as := [.ref 56]) (as' := [.ref 56]) (p := 172) (q187 169) rfl m191 (by decide) (a_ok_i rfl (r56 hB) rfl) rfl rfl (Nat.le_of_ble_eq_true rfl) (by omega) rfl rfl (a_W.imp w ?_)
      rintro _ ⟨v45, s43, l44, rfl, w⟩
      refine ⟨some (iv v45), _, rfl, ?_⟩
      show a_W _ 187 172 [.ref 56, iv x1, .retAddr 0, iv (zz s 56 62), iv v39, iv v42, .retAddr 0] [iv v45, iv (zz s 56 62), .ref 99] (mkH B s43 l44) _
      obtain ⟨o46, w⟩ := w
      refine w_ias (p := 173) (q187 172) rfl (r99 hB) (by decide) o46 ?_
      refine w_aln (p := 174) (q187 173) rfl rfl ?_
      refine w_il (p := 176) (q187 174) rfl rfl ?_
      refine w_aln (p := 177) (q187 176) rfl rfl ?_
      refine w_il (p := 179) (q187 177) rfl rfl ?_
      refine w_aln (p := 180) (q187 179) rfl rfl ?_
      refine w_gR (p := 183) (j := 64) (v := 99) (q187 180) rfl (r56 hB) (by decide) (f56_64 hB) ?_
      refine w_iln (p := 184) (q187 183) rfl rfl ?_
      refine w_ia (p := 185) (v := v45) (q187 184) rfl (r99 hB) (by decide) o46 (by unfold zu a_up; simp only [if_true]) ?_
      refine w_call (st := [iv v39, .ref 56]) (as := [.ref 56, iv v42, iv v45]) (as' := [iv v45, iv v42, .ref 56]) (p := 188) (q187 185) rfl m138 (by decide) (a_ok_i rfl (r56 hB) rfl) rfl rfl (Nat.le_of_ble_eq_true rfl) (by omega) rfl rfl (a_W.imp w ?_)
      rintro _ ⟨v49, s47, l48, rfl, w⟩
      refine ⟨some (iv v49), _, rfl, ?_⟩
      show a_W _ 187 188 [.ref 56, iv x1, .retAddr 0, iv (zz s 56 62), iv v39, iv v42, .retAddr 0] [iv v49, iv v39, .ref 56] (mkH B s47 l48) _
      refine w_call (st := []) (as := [.ref 56, iv v39, iv v49]) (as' := [iv v49, iv v39, .ref 56]) (p := 191) (q187 188) rfl m193 (by decide) (a_ok_i rfl (r56 hB) rfl) rfl rfl (Nat.le_of_ble_eq_true rfl) (by omega) rfl rfl (a_W.imp w ?_)
      rintro _ ⟨s50, l51, rfl, w⟩
      refine ⟨none, _, rfl, ?_⟩
      show a_W _ 187 191 [.ref 56, iv x1, .retAddr 0, iv (zz s 56 62), iv v39, iv v42, .retAddr 0] [] (mkH B s50 l51) _
      refine w_aln (p := 192) (q187 191) rfl rfl ?_
      refine w_gR (p := 195) (j := 64) (v := 99) (q187 192) rfl (r56 hB) (by decide) (f56_64 hB) ?_
      refine w_iln (p := 196) (q187 195) rfl rfl ?_
      refine w_ia (p := 197) (v := (zz s50 99 (zz s 56 62).toNat)) (q187 196) rfl (r99 hB) (by decide) o46 (iv_zz s50 99 (zz s 56 62).toNat) ?_
      exact w_ret (q187 197) rfl w
    by_cases c52 : (zz s 82 x1.toNat) = 4
    · replace w := w.2.2.2.2.1 c52
      refine w_sw (p := 198) (q187 15) (inR_zz _ _ _) (by intro g; rw [c52]; rfl) ?_
      refine w_aln (p := 199) (q187 198) rfl rfl ?_
      refine w_iln (p := 200) (q187 199) rfl rfl ?_
      refine w_call (st := []) (as := [.ref 56, iv x1]) (as' := [iv x1, .ref 56]) (p := 203) (q187 200) rfl m196 (by decide) (a_ok_i rfl (r56 hB) rfl) rfl rfl (Nat.le_of_ble_eq_true rfl) (by omega) rfl rfl (a_W.imp w ?_)
      rintro _ ⟨v55, s53, l54, rfl, w⟩
      refine ⟨some (iv v55), _, rfl, ?_⟩
      show a_W _ 187 203 [.ref 56, iv x1, .retAddr 0, .retAddr 0, .retAddr 0, .retAddr 0, .retAddr 0] [iv v55] (mkH B s53 l54) _
      exact w_ret (q187 203) rfl w
    replace w := w.2.2.2.2.2 ⟨c3, c25, c29, c33, c52⟩
    refine w_sw (p := 204) (q187 15) (inR_zz _ _ _) (sw_t (inR_zz _ _ _) (by omega) rfl) ?_
    refine w_aln (p := 205) (q187 204) rfl rfl ?_
    refine w_aln (p := 206) (q187 205) rfl rfl ?_
    refine w_gR (p := 209) (j := 43) (v := 83) (q187 206) rfl (r56 hB) (by decide) (f56_43 hB) ?_
    refine w_iln (p := 210) (q187 209) rfl rfl ?_
    refine w_ia (p := 211) (v := (zz s 83 x1.toNat)) (q187 210) rfl (r83 hB) (by decide) o2 (iv_zz s 83 x1.toNat) ?_
    refine w_call (st := []) (as := [.ref 56, iv (zz s 83 x1.toNat)]) (as' := [iv (zz s 83 x1.toNat), .ref 56]) (p := 214) (q187 211) rfl m187 (by decide) (a_ok_i rfl (r56 hB) rfl) rfl rfl (Nat.le_of_ble_eq_true rfl) (by omega) rfl rfl (a_W.imp w ?_)
    rintro _ ⟨v58, s56, l57, rfl, w⟩
    refine ⟨some (iv v58), _, rfl, ?_⟩
    show a_W _ 187 214 [.ref 56, iv x1, .retAddr 0, .retAddr 0, .retAddr 0, .retAddr 0, .retAddr 0] [iv v58] (mkH B s56 l57) _
    refine w_is (p := 216) (ls' := [.ref 56, iv x1, .retAddr 0, .retAddr 0, .retAddr 0, .retAddr 0, iv v58]) (q187 214) rfl (Nat.le_of_ble_eq_true rfl) rfl ?_
    refine w_aln (p := 217) (q187 216) rfl rfl ?_
    refine w_il (p := 219) (q187 217) rfl rfl ?_
    refine w_aln (p := 220) (q187 219) rfl rfl ?_
    refine w_aln (p := 221) (q187 220) rfl rfl ?_
    refine w_gR (p := 224) (j := 44) (v := 84) (q187 221) rfl (r56 hB) (by decide) (f56_44 hB) ?_
    refine w_iln (p := 225) (q187 224) rfl rfl ?_
    refine w_ia (p := 226) (v := (zz s56 84 x1.toNat)) (q187 225) rfl (r84 hB) (by decide) o2 (iv_zz s56 84 x1.toNat) ?_
    refine w_call (st := [iv v58, .ref 56]) (as := [.ref 56, iv (zz s56 84 x1.toNat)]) (as' := [iv (zz s56 84 x1.toNat), .ref 56]) (p := 229) (q187 226) rfl m197 (by decide) (a_ok_i rfl (r56 hB) rfl) rfl rfl (Nat.le_of_ble_eq_true rfl) (by omega) rfl rfl (a_W.imp w ?_)
    rintro _ ⟨v61, s59, l60, rfl, w⟩
    refine ⟨some (iv v61), _, rfl, ?_⟩
    show a_W _ 187 229 [.ref 56, iv x1, .retAddr 0, .retAddr 0, .retAddr 0, .retAddr 0, iv v58] [iv v61, iv v58, .ref 56] (mkH B s59 l60) _
    refine w_call (st := []) (as := [.ref 56, iv v58, iv v61]) (as' := [iv v61, iv v58, .ref 56]) (p := 232) (q187 229) rfl m193 (by decide) (a_ok_i rfl (r56 hB) rfl) rfl rfl (Nat.le_of_ble_eq_true rfl) (by omega) rfl rfl (a_W.imp w ?_)
    rintro _ ⟨s62, l63, rfl, w⟩
    refine ⟨none, _, rfl, ?_⟩
    show a_W _ 187 232 [.ref 56, iv x1, .retAddr 0, .retAddr 0, .retAddr 0, .retAddr 0, iv v58] [] (mkH B s62 l63) _
    refine w_il (p := 234) (q187 232) rfl rfl ?_
    exact w_ret (q187 234) rfl w
  · replace w := w.2 (Int.not_le.mp c1)
    refine w_i1f (p := 7) (q187 4) rfl (inR_zz _ _ _) c1 ?_
    refine w_ic (p := 8) (q187 7) rfl ?_
    exact w_ret (q187 8) rfl w
set_option maxRecDepth 10000 in
theorem w199_0 {d : Nat} {B : aH} {Q : aR → Prop} (hB : a_Can B) (hd : 1 ≤ d) (x1 : Int) (s : Nat → Nat → Int32) (l : Nat → Nat → Int64) (w : a_W (d - 1) 194 0 [.ref 56, iv x1, .retAddr 0] [] (mkH B s l) (fun r => ∃ (v3 : Int) (s1 : Nat → Nat → Int32) (l2 : Nat → Nat → Int64), r = (.inl (some (iv v3)), mkH B s1 l2) ∧ a_W d 199 13 [.ref 56, iv x1, iv 1, .retAddr 0, .retAddr 0, .retAddr 0, .retAddr 0] [] (mkH B (zu s1 103 0 v3) l2) Q)) : a_W d 199 0 [.ref 56, iv x1, .retAddr 0, .retAddr 0, .retAddr 0, .retAddr 0, .retAddr 0] [] (mkH B s l) Q := by
  refine w_ic (p := 1) (q199 0) rfl ?_
  refine w_isn (p := 2) (ls' := [.ref 56, iv x1, iv 1, .retAddr 0, .retAddr 0, .retAddr 0, .retAddr 0]) (q199 1) rfl (Nat.le_of_ble_eq_true rfl) rfl ?_
  refine w_aln (p := 3) (q199 2) rfl rfl ?_
  refine w_gR (p := 6) (j := 68) (v := 103) (q199 3) rfl (r56 hB) (by decide) (f56_68 hB) ?_
  refine w_ic (p := 7) (q199 6) rfl ?_
  refine w_aln (p := 8) (q199 7) rfl rfl ?_
  refine w_iln (p := 9) (q199 8) rfl rfl ?_
  refine w_call (st := [iv 0, .ref 103]) (as := [.ref 56, iv x1]) (as' := [iv x1, .ref 56]) (p := 12) (q199 9) rfl m194 (by decide) (a_ok_i rfl (r56 hB) rfl) rfl rfl (Nat.le_of_ble_eq_true rfl) (by omega) rfl rfl (a_W.imp w ?_)
  rintro _ ⟨v3, s1, l2, rfl, w⟩
  refine ⟨some (iv v3), _, rfl, ?_⟩
  show a_W _ 199 12 [.ref 56, iv x1, iv 1, .retAddr 0, .retAddr 0, .retAddr 0, .retAddr 0] [iv v3, iv 0, .ref 103] (mkH B s1 l2) _
  refine w_ias (p := 13) (q199 12) rfl (r103 hB) (by decide) (by decide) ?_
  exact w
set_option maxRecDepth 10000 in
theorem w199_13 {d : Nat} {B : aH} {Q : aR → Prop} (hB : a_Can B) (hd : 1 ≤ d) (x1 x2 : Int) (u3 u4 u5 u6 : Value) (s : Nat → Nat → Int32) (l : Nat → Nat → Int64) (w : (inR x2 ∧ ((x2 ≤ 0 → a_W d 199 333 [.ref 56, iv x1, iv x2, u3, u4, u5, u6] [] (mkH B s l) Q) ∧ (0 < x2 → (((zz s 56 22) ≠ 0 → a_W d 199 333 [.ref 56, iv x1, iv x2, u3, u4, u5, u6] [] (mkH B s l) Q) ∧ ((zz s 56 22) = 0 → ((0 ≤ (x2 - 1) ∧ (x2 - 1) < 60000) ∧ ((0 ≤ (zz s 103 (x2 - 1).toNat) ∧ (zz s 103 (x2 - 1).toNat) < 60000) ∧ (((zz s 65 (zz s 103 (x2 - 1).toNat).toNat) ≠ (-1) → a_W (d - 1) 194 0 [.ref 56, iv (zz s 65 (zz s 103 (x2 - 1).toNat).toNat), .retAddr 0] [] (mkH B s l) (fun r => ∃ (v9 : Int) (s7 : Nat → Nat → Int32) (l8 : Nat → Nat → Int64), r = (.inl (some (iv v9)), mkH B s7 l8) ∧ (((zz s7 66 (zz s 103 (x2 - 1).toNat).toNat) ≠ (-1) → a_W (d - 1) 194 0 [.ref 56, iv (zz s7 66 (zz s 103 (x2 - 1).toNat).toNat), .retAddr 0] [] (mkH B s7 l8) (fun r => ∃ (v13 : Int) (s11 : Nat → Nat → Int32) (l12 : Nat → Nat → Int64), r = (.inl (some (iv v13)), mkH B s11 l12) ∧ (((zz s11 100 (zz s 103 (x2 - 1).toNat).toNat) ≠ 2 → (inR v9 ∧ ((v9 = (-1) → a_W d 199 161 [.ref 56, iv x1, iv x2, iv (zz s 103 (x2 - 1).toNat), iv v9, iv v13, u6] [] (mkH B (zu s11 100 (zz s 103 (x2 - 1).toNat).toNat 1) l12) Q) ∧ (v9 ≠ (-1) → ((0 ≤ v9 ∧ v9 < 60000) ∧ ((2 ≤ (zz (zu s11 100 (zz s 103 (x2 - 1).toNat).toNat 1) 100 v9.toNat) → a_W d 199 161 [.ref 56, iv x1, iv x2, iv (zz s 103 (x2 - 1).toNat), iv v9, iv v13, u6] [] (mkH B (zu s11 100 (zz s 103 (x2 - 1).toNat).toNat 1) l12) Q) ∧ ((zz (zu s11 100 (zz s 103 (x2 - 1).toNat).toNat 1) 100 v9.toNat) < 2 → (((zz (zu s11 100 (zz s 103 (x2 - 1).toNat).toNat 1) 100 v9.toNat) ≠ 1 → a_W d 199 147 [.ref 56, iv x1, iv x2, iv (zz s 103 (x2 - 1).toNat), iv v9, iv v13, u6] [] (mkH B (zu s11 100 (zz s 103 (x2 - 1).toNat).toNat 1) l12) Q) ∧ ((zz (zu s11 100 (zz s 103 (x2 - 1).toNat).toNat 1) 100 v9.toNat) = 1 → (((zz s11 56 22) ≤ 0 → a_W d 199 147 [.ref 56, iv x1, iv x2, iv (zz s 103 (x2 - 1).toNat), iv v9, iv v13, u6] [] (mkH B (zu (zu (zu s11 100 (zz s 103 (x2 - 1).toNat).toNat 1) 56 22 3) 56 23 (zz s11 72 0)) l12) Q) ∧ (0 < (zz s11 56 22) → a_W d 199 147 [.ref 56, iv x1, iv x2, iv (zz s 103 (x2 - 1).toNat), iv v9, iv v13, u6] [] (mkH B (zu s11 100 (zz s 103 (x2 - 1).toNat).toNat 1) l12) Q))))))))))) ∧ ((zz s11 100 (zz s 103 (x2 - 1).toNat).toNat) = 2 → a_W d 199 13 [.ref 56, iv x1, iv (x2 + (-1)), iv (zz s 103 (x2 - 1).toNat), iv v9, iv v13, u6] [] (mkH B s11 l12) Q)))) ∧ ((zz s7 66 (zz s 103 (x2 - 1).toNat).toNat) = (-1) → (((zz s7 100 (zz s 103 (x2 - 1).toNat).toNat) ≠ 2 → (inR v9 ∧ ((v9 = (-1) → a_W d 199 161 [.ref 56, iv x1, iv x2, iv (zz s 103 (x2 - 1).toNat), iv v9, iv (-1), u6] [] (mkH B (zu s7 100 (zz s 103 (x2 - 1).toNat).toNat 1) l8) Q) ∧ (v9 ≠ (-1) → ((0 ≤ v9 ∧ v9 < 60000) ∧ ((2 ≤ (zz (zu s7 100 (zz s 103 (x2 - 1).toNat).toNat 1) 100 v9.toNat) → a_W d 199 161 [.ref 56, iv x1, iv x2, iv (zz s 103 (x2 - 1).toNat), iv v9, iv (-1), u6] [] (mkH B (zu s7 100 (zz s 103 (x2 - 1).toNat).toNat 1) l8) Q) ∧ ((zz (zu s7 100 (zz s 103 (x2 - 1).toNat).toNat 1) 100 v9.toNat) < 2 → (((zz (zu s7 100 (zz s 103 (x2 - 1).toNat).toNat 1) 100 v9.toNat) ≠ 1 → a_W d 199 147 [.ref 56, iv x1, iv x2, iv (zz s 103 (x2 - 1).toNat), iv v9, iv (-1), u6] [] (mkH B (zu s7 100 (zz s 103 (x2 - 1).toNat).toNat 1) l8) Q) ∧ ((zz (zu s7 100 (zz s 103 (x2 - 1).toNat).toNat 1) 100 v9.toNat) = 1 → (((zz s7 56 22) ≤ 0 → a_W d 199 147 [.ref 56, iv x1, iv x2, iv (zz s 103 (x2 - 1).toNat), iv v9, iv (-1), u6] [] (mkH B (zu (zu (zu s7 100 (zz s 103 (x2 - 1).toNat).toNat 1) 56 22 3) 56 23 (zz s7 72 0)) l8) Q) ∧ (0 < (zz s7 56 22) → a_W d 199 147 [.ref 56, iv x1, iv x2, iv (zz s 103 (x2 - 1).toNat), iv v9, iv (-1), u6] [] (mkH B (zu s7 100 (zz s 103 (x2 - 1).toNat).toNat 1) l8) Q))))))))))) ∧ ((zz s7 100 (zz s 103 (x2 - 1).toNat).toNat) = 2 → a_W d 199 13 [.ref 56, iv x1, iv (x2 + (-1)), iv (zz s 103 (x2 - 1).toNat), iv v9, iv (-1), u6] [] (mkH B s7 l8) Q)))))) ∧ ((zz s 65 (zz s 103 (x2 - 1).toNat).toNat) = (-1) → (((zz s 66 (zz s 103 (x2 - 1).toNat).toNat) ≠ (-1) → a_W (d - 1) 194 0 [.ref 56, iv (zz s 66 (zz s 103 (x2 - 1).toNat).toNat), .retAddr 0] [] (mkH B s l) (fun r => ∃ (v31 : Int) (s29 : Nat → Nat → Int32) (l30 : Nat → Nat → Int64), r = (.inl (some (iv v31)), mkH B s29 l30) ∧ (((zz s29 100 (zz s 103 (x2 - 1).toNat).toNat) ≠ 2 → a_W d 199 161 [.ref 56, iv x1, iv x2, iv (zz s 103 (x2 - 1).toNat), iv (-1), iv v31, u6] [] (mkH B (zu s29 100 (zz s 103 (x2 - 1).toNat).toNat 1) l30) Q) ∧ ((zz s29 100 (zz s 103 (x2 - 1).toNat).toNat) = 2 → a_W d 199 13 [.ref 56, iv x1, iv (x2 + (-1)), iv (zz s 103 (x2 - 1).toNat), iv (-1), iv v31, u6] [] (mkH B s29 l30) Q)))) ∧ ((zz s 66 (zz s 103 (x2 - 1).toNat).toNat) = (-1) → (((zz s 100 (zz s 103 (x2 - 1).toNat).toNat) ≠ 2 → a_W d 199 161 [.ref 56, iv x1, iv x2, iv (zz s 103 (x2 - 1).toNat), iv (-1), iv (-1), u6] [] (mkH B (zu s 100 (zz s 103 (x2 - 1).toNat).toNat 1) l) Q) ∧ ((zz s 100 (zz s 103 (x2 - 1).toNat).toNat) = 2 → a_W d 199 13 [.ref 56, iv x1, iv (x2 + (-1)), iv (zz s 103 (x2 - 1).toNat), iv (-1), iv (-1), u6] [] (mkH B s l) Q)))))))))))))) : a_W d 199 13 [.ref 56, iv x1, iv x2, u3, u4, u5, u6] [] (mkH B s l) Q := by
  refine w_iln (p := 14) (q199 13) rfl rfl ?_
  obtain ⟨h1, w⟩ := w
  by_cases c2 : x2 ≤ 0
  · replace w := w.1 c2
    refine w_i1t (q199 14) h1 c2 ?_
    exact w
  · replace w := w.2 (Int.not_le.mp c2)
    refine w_i1f (p := 17) (q199 14) rfl h1 c2 ?_
    refine w_aln (p := 18) (q199 17) rfl rfl ?_
    refine w_gI (p := 21) (j := 22) (v := (zz s 56 22)) (q199 18) rfl (r56 hB) (by decide) (iv_zz s 56 22) ?_
    by_cases c3 : (zz s 56 22) ≠ 0
    · replace w := w.1 c3
      refine w_i1t (q199 21) (inR_zz _ _ _) c3 ?_
      exact w
    · replace w := w.2 (Decidable.not_not.mp c3)
      refine w_i1f (p := 24) (q199 21) rfl (inR_zz _ _ _) c3 ?_
      refine w_aln (p := 25) (q199 24) rfl rfl ?_
      refine w_gR (p := 28) (j := 68) (v := 103) (q199 25) rfl (r56 hB) (by decide) (f56_68 hB) ?_
      refine w_iln (p := 29) (q199 28) rfl rfl ?_
      refine w_ic (p := 30) (q199 29) rfl ?_
      refine w_sub (p := 31) (q199 30) rfl ?_
      obtain ⟨o4, w⟩ := w
      refine w_ia (p := 32) (v := (zz s 103 (x2 - 1).toNat)) (q199 31) rfl (r103 hB) (by decide) o4 (iv_zz s 103 (x2 - 1).toNat) ?_
      refine w_isn (p := 33) (ls' := [.ref 56, iv x1, iv x2, iv (zz s 103 (x2 - 1).toNat), u4, u5, u6]) (q199 32) rfl (Nat.le_of_ble_eq_true rfl) rfl ?_
      refine w_aln (p := 34) (q199 33) rfl rfl ?_
      refine w_gR (p := 37) (j := 13) (v := 65) (q199 34) rfl (r56 hB) (by decide) (f56_13 hB) ?_
      refine w_iln (p := 38) (q199 37) rfl rfl ?_
      obtain ⟨o5, w⟩ := w
      refine w_ia (p := 39) (v := (zz s 65 (zz s 103 (x2 - 1).toNat).toNat)) (q199 38) rfl (r65 hB) (by decide) o5 (iv_zz s 65 (zz s 103 (x2 - 1).toNat).toNat) ?_
      refine w_ic (p := 40) (q199 39) rfl ?_
      by_cases c6 : (zz s 65 (zz s 103 (x2 - 1).toNat).toNat) ≠ (-1)
      · replace w := w.1 c6
        refine w_i2t (q199 40) (inR_zz _ _ _) (by decide) c6 ?_
        refine w_aln (p := 48) (q199 47) rfl rfl ?_
        refine w_aln (p := 49) (q199 48) rfl rfl ?_
        refine w_gR (p := 52) (j := 13) (v := 65) (q199 49) rfl (r56 hB) (by decide) (f56_13 hB) ?_
        refine w_iln (p := 53) (q199 52) rfl rfl ?_
        refine w_ia (p := 54) (v := (zz s 65 (zz s 103 (x2 - 1).toNat).toNat)) (q199 53) rfl (r65 hB) (by decide) o5 (iv_zz s 65 (zz s 103 (x2 - 1).toNat).toNat) ?_
        refine w_call (st := []) (as := [.ref 56, iv (zz s 65 (zz s 103 (x2 - 1).toNat).toNat)]) (as' := [iv (zz s 65 (zz s 103 (x2 - 1).toNat).toNat), .ref 56]) (p := 57) (q199 54) rfl m194 (by decide) (a_ok_i rfl (r56 hB) rfl) rfl rfl (Nat.le_of_ble_eq_true rfl) (by omega) rfl rfl (a_W.imp w ?_)
        rintro _ ⟨v9, s7, l8, rfl, w⟩
        refine ⟨some (iv v9), _, rfl, ?_⟩
        show a_W _ 199 57 [.ref 56, iv x1, iv x2, iv (zz s 103 (x2 - 1).toNat), u4, u5, u6] [iv v9] (mkH B s7 l8) _
        refine w_is (p := 59) (ls' := [.ref 56, iv x1, iv x2, iv (zz s 103 (x2 - 1).toNat), iv v9, u5, u6]) (q199 57) rfl (Nat.le_of_ble_eq_true rfl) rfl ?_
        refine w_aln (p := 60) (q199 59) rfl rfl ?_
        refine w_gR (p := 63) (j := 14) (v := 66) (q199 60) rfl (r56 hB) (by decide) (f56_14 hB) ?_
        refine w_iln (p := 64) (q199 63) rfl rfl ?_
        refine w_ia (p := 65) (v := (zz s7 66 (zz s 103 (x2 - 1).toNat).toNat)) (q199 64) rfl (r66 hB) (by decide) o5 (iv_zz s7 66 (zz s 103 (x2 - 1).toNat).toNat) ?_
        refine w_ic (p := 66) (q199 65) rfl ?_
        by_cases c10 : (zz s7 66 (zz s 103 (x2 - 1).toNat).toNat) ≠ (-1)
        · replace w := w.1 c10
          refine w_i2t (q199 66) (inR_zz _ _ _) (by decide) c10 ?_
          refine w_aln (p := 74) (q199 73) rfl rfl ?_
          refine w_aln (p := 75) (q199 74) rfl rfl ?_
          refine w_gR (p := 78) (j := 14) (v := 66) (q199 75) rfl (r56 hB) (by decide) (f56_14 hB) ?_
          refine w_iln (p := 79) (q199 78) rfl rfl ?_
          refine w_ia (p := 80) (v := (zz s7 66 (zz s 103 (x2 - 1).toNat).toNat)) (q199 79) rfl (r66 hB) (by decide) o5 (iv_zz s7 66 (zz s 103 (x2 - 1).toNat).toNat) ?_
          refine w_call (st := []) (as := [.ref 56, iv (zz s7 66 (zz s 103 (x2 - 1).toNat).toNat)]) (as' := [iv (zz s7 66 (zz s 103 (x2 - 1).toNat).toNat), .ref 56]) (p := 83) (q199 80) rfl m194 (by decide) (a_ok_i rfl (r56 hB) rfl) rfl rfl (Nat.le_of_ble_eq_true rfl) (by omega) rfl rfl (a_W.imp w ?_)
          rintro _ ⟨v13, s11, l12, rfl, w⟩
          refine ⟨some (iv v13), _, rfl, ?_⟩
          show a_W _ 199 83 [.ref 56, iv x1, iv x2, iv (zz s 103 (x2 - 1).toNat), iv v9, u5, u6] [iv v13] (mkH B s11 l12) _
          refine w_is (p := 85) (ls' := [.ref 56, iv x1, iv x2, iv (zz s 103 (x2 - 1).toNat), iv v9, iv v13, u6]) (q199 83) rfl (Nat.le_of_ble_eq_true rfl) rfl ?_
          refine w_aln (p := 86) (q199 85) rfl rfl ?_
          refine w_gR (p := 89) (j := 65) (v := 100) (q199 86) rfl (r56 hB) (by decide) (f56_65 hB) ?_
          refine w_iln (p := 90) (q199 89) rfl rfl ?_
          refine w_ia (p := 91) (v := (zz s11 100 (zz s 103 (x2 - 1).toNat).toNat)) (q199 90) rfl (r100 hB) (by decide) o5 (iv_zz s11 100 (zz s 103 (x2 - 1).toNat).toNat) ?_
          refine w_ic (p := 92) (q199 91) rfl ?_
          by_cases c14 : (zz s11 100 (zz s 103 (x2 - 1).toNat).toNat) ≠ 2
          · replace w := w.1 c14
            refine w_i2t (q199 92) (inR_zz _ _ _) (by decide) c14 ?_
            refine w_aln (p := 102) (q199 101) rfl rfl ?_
            refine w_gR (p := 105) (j := 65) (v := 100) (q199 102) rfl (r56 hB) (by decide) (f56_65 hB) ?_
            refine w_iln (p := 106) (q199 105) rfl rfl ?_
            refine w_ic (p := 107) (q199 106) rfl ?_
            refine w_ias (p := 108) (q199 107) rfl (r100 hB) (by decide) o5 ?_
            refine w_il (p := 110) (q199 108) rfl rfl ?_
            refine w_ic (p := 111) (q199 110) rfl ?_
            obtain ⟨h15, w⟩ := w
            by_cases c16 : v9 = (-1)
            · replace w := w.1 c16
              refine w_i2t (q199 111) h15 (by decide) c16 ?_
              exact w
            · replace w := w.2 c16
              refine w_i2f (p := 114) (q199 111) rfl h15 (by decide) c16 ?_
              refine w_aln (p := 115) (q199 114) rfl rfl ?_
              refine w_gR (p := 118) (j := 65) (v := 100) (q199 115) rfl (r56 hB) (by decide) (f56_65 hB) ?_
              refine w_il (p := 120) (q199 118) rfl rfl ?_
              obtain ⟨o17, w⟩ := w
              refine w_ia (p := 121) (v := (zz (zu s11 100 (zz s 103 (x2 - 1).toNat).toNat 1) 100 v9.toNat)) (q199 120) rfl (r100 hB) (by decide) o17 (iv_zz (zu s11 100 (zz s 103 (x2 - 1).toNat).toNat 1) 100 v9.toNat) ?_
              refine w_ic (p := 122) (q199 121) rfl ?_
              by_cases c18 : 2 ≤ (zz (zu s11 100 (zz s 103 (x2 - 1).toNat).toNat 1) 100 v9.toNat)
              · replace w := w.1 c18
                refine w_i2t (q199 122) (inR_zz _ _ _) (by decide) c18 ?_
                exact w
              · replace w := w.2 (Int.not_le.mp c18)
                refine w_i2f (p := 125) (q199 122) rfl (inR_zz _ _ _) (by decide) c18 ?_
                refine w_aln (p := 126) (q199 125) rfl rfl ?_
                refine w_gR (p := 129) (j := 65) (v := 100) (q199 126) rfl (r56 hB) (by decide) (f56_65 hB) ?_
                refine w_il (p := 131) (q199 129) rfl rfl ?_
                refine w_ia (p := 132) (v := (zz (zu s11 100 (zz s 103 (x2 - 1).toNat).toNat 1) 100 v9.toNat)) (q199 131) rfl (r100 hB) (by decide) o17 (iv_zz (zu s11 100 (zz s 103 (x2 - 1).toNat).toNat 1) 100 v9.toNat) ?_
                refine w_ic (p := 133) (q199 132) rfl ?_
                by_cases c19 : (zz (zu s11 100 (zz s 103 (x2 - 1).toNat).toNat 1) 100 v9.toNat) ≠ 1
                · replace w := w.1 c19
                  refine w_i2t (q199 133) (inR_zz _ _ _) (by decide) c19 ?_
                  exact w
                · replace w := w.2 (Decidable.not_not.mp c19)
                  refine w_i2f (p := 136) (q199 133) rfl (inR_zz _ _ _) (by decide) c19 ?_
                  refine w_aln (p := 137) (q199 136) rfl rfl ?_
                  refine w_ic (p := 138) (q199 137) rfl ?_
                  refine w_aln (p := 139) (q199 138) rfl rfl ?_
                  refine w_gR (p := 142) (j := 28) (v := 72) (q199 139) rfl (r56 hB) (by decide) (f56_28 hB) ?_
                  refine w_ic (p := 143) (q199 142) rfl ?_
                  refine w_ia (p := 144) (v := (zz s11 72 0)) (q199 143) rfl (r72 hB) (by decide) (by decide) (iv_zz s11 72 0) ?_
                  refine w_call (st := []) (as := [.ref 56, iv 3, iv (zz s11 72 0)]) (as' := [iv (zz s11 72 0), iv 3, .ref 56]) (p := 147) (q199 144) rfl m152 (by decide) (a_ok_i rfl (r56 hB) rfl) rfl rfl (Nat.le_of_ble_eq_true rfl) (by omega) rfl rfl ?_
                  refine w_aln (p := 1) (q152 0) rfl rfl ?_
                  refine w_gI (p := 4) (j := 22) (v := (zz s11 56 22)) (q152 1) rfl (r56 hB) (by decide) (iv_zz s11 56 22) ?_
                  by_cases c20 : (zz s11 56 22) ≤ 0
                  · replace w := w.1 c20
                    refine w_i1t (q152 4) (inR_zz _ _ _) c20 ?_
                    refine w_aln (p := 9) (q152 8) rfl rfl ?_
                    refine w_iln (p := 10) (q152 9) rfl rfl ?_
                    refine w_pI (p := 13) (j := 22) (q152 10) rfl (r56 hB) (by decide) rfl ?_
                    refine w_aln (p := 14) (q152 13) rfl rfl ?_
                    refine w_iln (p := 15) (q152 14) rfl rfl ?_
                    refine w_pI (p := 18) (j := 23) (q152 15) rfl (r56 hB) (by decide) rfl ?_
                    refine w_rv (q152 18) rfl ⟨_, _, rfl, ?_⟩
                    show a_W _ 199 147 [.ref 56, iv x1, iv x2, iv (zz s 103 (x2 - 1).toNat), iv v9, iv v13, u6] [] _ _
                    exact w
                  · replace w := w.2 (Int.not_le.mp c20)
                    refine w_i1f (p := 7) (q152 4) rfl (inR_zz _ _ _) c20 ?_
                    refine w_rv (q152 7) rfl ⟨_, _, rfl, ?_⟩
                    show a_W _ 199 147 [.ref 56, iv x1, iv x2, iv (zz s 103 (x2 - 1).toNat), iv v9, iv v13, u6] [] _ _
                    exact w
          · replace w := w.2 (Decidable.not_not.mp c14)
            refine w_i2f (p := 95) (q199 92) rfl (inR_zz _ _ _) (by decide) c14 ?_
            refine w_inc (p := 98) (ls' := [.ref 56, iv x1, iv (x2 + (-1)), iv (zz s 103 (x2 - 1).toNat), iv v9, iv v13, u6]) (q199 95) rfl rfl rfl ?_
            refine w_goto (q199 98) ?_
            exact w
        · replace w := w.2 (Decidable.not_not.mp c10)
          refine w_i2f (p := 69) (q199 66) rfl (inR_zz _ _ _) (by decide) c10 ?_
          refine w_ic (p := 70) (q199 69) rfl ?_
          refine w_goto (q199 70) ?_
          refine w_is (p := 85) (ls' := [.ref 56, iv x1, iv x2, iv (zz s 103 (x2 - 1).toNat), iv v9, iv (-1), u6]) (q199 83) rfl (Nat.le_of_ble_eq_true rfl) rfl ?_
          refine w_aln (p := 86) (q199 85) rfl rfl ?_
          refine w_gR (p := 89) (j := 65) (v := 100) (q199 86) rfl (r56 hB) (by decide) (f56_65 hB) ?_
          refine w_iln (p := 90) (q199 89) rfl rfl ?_
          refine w_ia (p := 91) (v := (zz s7 100 (zz s 103 (x2 - 1).toNat).toNat)) (q199 90) rfl (r100 hB) (by decide) o5 (iv_zz s7 100 (zz s 103 (x2 - 1).toNat).toNat) ?_
          refine w_ic (p := 92) (q199 91) rfl ?_
          by_cases c21 : (zz s7 100 (zz s 103 (x2 - 1).toNat).toNat) ≠ 2
          · replace w := w.1 c21
            refine w_i2t (q199 92) (inR_zz _ _ _) (by decide) c21 ?_
            refine w_aln (p := 102) (q199 101) rfl rfl ?_
            refine w_gR (p := 105) (j := 65) (v := 100) (q199 102) rfl (r56 hB) (by decide) (f56_65 hB) ?_
            refine w_iln (p := 106) (q199 105) rfl rfl ?_
            refine w_ic (p := 107) (q199 106) rfl ?_
            refine w_ias (p := 108) (q199 107) rfl (r100 hB) (by decide) o5 ?_
            refine w_il (p := 110) (q199 108) rfl rfl ?_
            refine w_ic (p := 111) (q199 110) rfl ?_
            obtain ⟨h22, w⟩ := w
            by_cases c23 : v9 = (-1)
            · replace w := w.1 c23
              refine w_i2t (q199 111) h22 (by decide) c23 ?_
              exact w
            · replace w := w.2 c23
              refine w_i2f (p := 114) (q199 111) rfl h22 (by decide) c23 ?_
              refine w_aln (p := 115) (q199 114) rfl rfl ?_
              refine w_gR (p := 118) (j := 65) (v := 100) (q199 115) rfl (r56 hB) (by decide) (f56_65 hB) ?_
              refine w_il (p := 120) (q199 118) rfl rfl ?_
              obtain ⟨o24, w⟩ := w
              refine w_ia (p := 121) (v := (zz (zu s7 100 (zz s 103 (x2 - 1).toNat).toNat 1) 100 v9.toNat)) (q199 120) rfl (r100 hB) (by decide) o24 (iv_zz (zu s7 100 (zz s 103 (x2 - 1).toNat).toNat 1) 100 v9.toNat) ?_
              refine w_ic (p := 122) (q199 121) rfl ?_
              by_cases c25 : 2 ≤ (zz (zu s7 100 (zz s 103 (x2 - 1).toNat).toNat 1) 100 v9.toNat)
              · replace w := w.1 c25
                refine w_i2t (q199 122) (inR_zz _ _ _) (by decide) c25 ?_
                exact w
              · replace w := w.2 (Int.not_le.mp c25)
                refine w_i2f (p := 125) (q199 122) rfl (inR_zz _ _ _) (by decide) c25 ?_
                refine w_aln (p := 126) (q199 125) rfl rfl ?_
                refine w_gR (p := 129) (j := 65) (v := 100) (q199 126) rfl (r56 hB) (by decide) (f56_65 hB) ?_
                refine w_il (p := 131) (q199 129) rfl rfl ?_
                refine w_ia (p := 132) (v := (zz (zu s7 100 (zz s 103 (x2 - 1).toNat).toNat 1) 100 v9.toNat)) (q199 131) rfl (r100 hB) (by decide) o24 (iv_zz (zu s7 100 (zz s 103 (x2 - 1).toNat).toNat 1) 100 v9.toNat) ?_
                refine w_ic (p := 133) (q199 132) rfl ?_
                by_cases c26 : (zz (zu s7 100 (zz s 103 (x2 - 1).toNat).toNat 1) 100 v9.toNat) ≠ 1
                · replace w := w.1 c26
                  refine w_i2t (q199 133) (inR_zz _ _ _) (by decide) c26 ?_
                  exact w
                · replace w := w.2 (Decidable.not_not.mp c26)
                  refine w_i2f (p := 136) (q199 133) rfl (inR_zz _ _ _) (by decide) c26 ?_
                  refine w_aln (p := 137) (q199 136) rfl rfl ?_
                  refine w_ic (p := 138) (q199 137) rfl ?_
                  refine w_aln (p := 139) (q199 138) rfl rfl ?_
                  refine w_gR (p := 142) (j := 28) (v := 72) (q199 139) rfl (r56 hB) (by decide) (f56_28 hB) ?_
                  refine w_ic (p := 143) (q199 142) rfl ?_
                  refine w_ia (p := 144) (v := (zz s7 72 0)) (q199 143) rfl (r72 hB) (by decide) (by decide) (iv_zz s7 72 0) ?_
                  refine w_call (st := []) (as := [.ref 56, iv 3, iv (zz s7 72 0)]) (as' := [iv (zz s7 72 0), iv 3, .ref 56]) (p := 147) (q199 144) rfl m152 (by decide) (a_ok_i rfl (r56 hB) rfl) rfl rfl (Nat.le_of_ble_eq_true rfl) (by omega) rfl rfl ?_
                  refine w_aln (p := 1) (q152 0) rfl rfl ?_
                  refine w_gI (p := 4) (j := 22) (v := (zz s7 56 22)) (q152 1) rfl (r56 hB) (by decide) (iv_zz s7 56 22) ?_
                  by_cases c27 : (zz s7 56 22) ≤ 0
                  · replace w := w.1 c27
                    refine w_i1t (q152 4) (inR_zz _ _ _) c27 ?_
                    refine w_aln (p := 9) (q152 8) rfl rfl ?_
                    refine w_iln (p := 10) (q152 9) rfl rfl ?_
                    refine w_pI (p := 13) (j := 22) (q152 10) rfl (r56 hB) (by decide) rfl ?_
                    refine w_aln (p := 14) (q152 13) rfl rfl ?_
                    refine w_iln (p := 15) (q152 14) rfl rfl ?_
                    refine w_pI (p := 18) (j := 23) (q152 15) rfl (r56 hB) (by decide) rfl ?_
                    refine w_rv (q152 18) rfl ⟨_, _, rfl, ?_⟩
                    show a_W _ 199 147 [.ref 56, iv x1, iv x2, iv (zz s 103 (x2 - 1).toNat), iv v9, iv (-1), u6] [] _ _
                    exact w
                  · replace w := w.2 (Int.not_le.mp c27)
                    refine w_i1f (p := 7) (q152 4) rfl (inR_zz _ _ _) c27 ?_
                    refine w_rv (q152 7) rfl ⟨_, _, rfl, ?_⟩
                    show a_W _ 199 147 [.ref 56, iv x1, iv x2, iv (zz s 103 (x2 - 1).toNat), iv v9, iv (-1), u6] [] _ _
                    exact w
          · replace w := w.2 (Decidable.not_not.mp c21)
            refine w_i2f (p := 95) (q199 92) rfl (inR_zz _ _ _) (by decide) c21 ?_
            refine w_inc (p := 98) (ls' := [.ref 56, iv x1, iv (x2 + (-1)), iv (zz s 103 (x2 - 1).toNat), iv v9, iv (-1), u6]) (q199 95) rfl rfl rfl ?_
            refine w_goto (q199 98) ?_
            exact w
      · replace w := w.2 (Decidable.not_not.mp c6)
        refine w_i2f (p := 43) (q199 40) rfl (inR_zz _ _ _) (by decide) c6 ?_
        refine w_ic (p := 44) (q199 43) rfl ?_
        refine w_goto (q199 44) ?_
        refine w_is (p := 59) (ls' := [.ref 56, iv x1, iv x2, iv (zz s 103 (x2 - 1).toNat), iv (-1), u5, u6]) (q199 57) rfl (Nat.le_of_ble_eq_true rfl) rfl ?_
        refine w_aln (p := 60) (q199 59) rfl rfl ?_
        refine w_gR (p := 63) (j := 14) (v := 66) (q199 60) rfl (r56 hB) (by decide) (f56_14 hB) ?_
        refine w_iln (p := 64) (q199 63) rfl rfl ?_
        refine w_ia (p := 65) (v := (zz s 66 (zz s 103 (x2 - 1).toNat).toNat)) (q199 64) rfl (r66 hB) (by decide) o5 (iv_zz s 66 (zz s 103 (x2 - 1).toNat).toNat) ?_
        refine w_ic (p := 66) (q199 65) rfl ?_
        by_cases c28 : (zz s 66 (zz s 103 (x2 - 1).toNat).toNat) ≠ (-1)
        · replace w := w.1 c28
          refine w_i2t (q199 66) (inR_zz _ _ _) (by decide) c28 ?_
          refine w_aln (p := 74) (q199 73) rfl rfl ?_
          refine w_aln (p := 75) (q199 74) rfl rfl ?_
          refine w_gR (p := 78) (j := 14) (v := 66) (q199 75) rfl (r56 hB) (by decide) (f56_14 hB) ?_
          refine w_iln (p := 79) (q199 78) rfl rfl ?_
          refine w_ia (p := 80) (v := (zz s 66 (zz s 103 (x2 - 1).toNat).toNat)) (q199 79) rfl (r66 hB) (by decide) o5 (iv_zz s 66 (zz s 103 (x2 - 1).toNat).toNat) ?_
          refine w_call (st := []) (as := [.ref 56, iv (zz s 66 (zz s 103 (x2 - 1).toNat).toNat)]) (as' := [iv (zz s 66 (zz s 103 (x2 - 1).toNat).toNat), .ref 56]) (p := 83) (q199 80) rfl m194 (by decide) (a_ok_i rfl (r56 hB) rfl) rfl rfl (Nat.le_of_ble_eq_true rfl) (by omega) rfl rfl (a_W.imp w ?_)
          rintro _ ⟨v31, s29, l30, rfl, w⟩
          refine ⟨some (iv v31), _, rfl, ?_⟩
          show a_W _ 199 83 [.ref 56, iv x1, iv x2, iv (zz s 103 (x2 - 1).toNat), iv (-1), u5, u6] [iv v31] (mkH B s29 l30) _
          refine w_is (p := 85) (ls' := [.ref 56, iv x1, iv x2, iv (zz s 103 (x2 - 1).toNat), iv (-1), iv v31, u6]) (q199 83) rfl (Nat.le_of_ble_eq_true rfl) rfl ?_
          refine w_aln (p := 86) (q199 85) rfl rfl ?_
          refine w_gR (p := 89) (j := 65) (v := 100) (q199 86) rfl (r56 hB) (by decide) (f56_65 hB) ?_
          refine w_iln (p := 90) (q199 89) rfl rfl ?_
          refine w_ia (p := 91) (v := (zz s29 100 (zz s 103 (x2 - 1).toNat).toNat)) (q199 90) rfl (r100 hB) (by decide) o5 (iv_zz s29 100 (zz s 103 (x2 - 1).toNat).toNat) ?_
          refine w_ic (p := 92) (q199 91) rfl ?_
          by_cases c32 : (zz s29 100 (zz s 103 (x2 - 1).toNat).toNat) ≠ 2
          · replace w := w.1 c32
            refine w_i2t (q199 92) (inR_zz _ _ _) (by decide) c32 ?_
            refine w_aln (p := 102) (q199 101) rfl rfl ?_
            refine w_gR (p := 105) (j := 65) (v := 100) (q199 102) rfl (r56 hB) (by decide) (f56_65 hB) ?_
            refine w_iln (p := 106) (q199 105) rfl rfl ?_
            refine w_ic (p := 107) (q199 106) rfl ?_
            refine w_ias (p := 108) (q199 107) rfl (r100 hB) (by decide) o5 ?_
            refine w_il (p := 110) (q199 108) rfl rfl ?_
            refine w_ic (p := 111) (q199 110) rfl ?_
            refine w_i2t (q199 111) (by decide) (by decide) (show zc _ _ _ by unfold zc; omega) ?_
            exact w
          · replace w := w.2 (Decidable.not_not.mp c32)
            refine w_i2f (p := 95) (q199 92) rfl (inR_zz _ _ _) (by decide) c32 ?_
            refine w_inc (p := 98) (ls' := [.ref 56, iv x1, iv (x2 + (-1)), iv (zz s 103 (x2 - 1).toNat), iv (-1), iv v31, u6]) (q199 95) rfl rfl rfl ?_
            refine w_goto (q199 98) ?_
            exact w
        · replace w := w.2 (Decidable.not_not.mp c28)
          refine w_i2f (p := 69) (q199 66) rfl (inR_zz _ _ _) (by decide) c28 ?_
          refine w_ic (p := 70) (q199 69) rfl ?_
          refine w_goto (q199 70) ?_
          refine w_is (p := 85) (ls' := [.ref 56, iv x1, iv x2, iv (zz s 103 (x2 - 1).toNat), iv (-1), iv (-1), u6]) (q199 83) rfl (Nat.le_of_ble_eq_true rfl) rfl ?_
          refine w_aln (p := 86) (q199 85) rfl rfl ?_
          refine w_gR (p := 89) (j := 65) (v := 100) (q199 86) rfl (r56 hB) (by decide) (f56_65 hB) ?_
          refine w_iln (p := 90) (q199 89) rfl rfl ?_
          refine w_ia (p := 91) (v := (zz s 100 (zz s 103 (x2 - 1).toNat).toNat)) (q199 90) rfl (r100 hB) (by decide) o5 (iv_zz s 100 (zz s 103 (x2 - 1).toNat).toNat) ?_
          refine w_ic (p := 92) (q199 91) rfl ?_
          by_cases c33 : (zz s 100 (zz s 103 (x2 - 1).toNat).toNat) ≠ 2
          · replace w := w.1 c33
            refine w_i2t (q199 92) (inR_zz _ _ _) (by decide) c33 ?_
            refine w_aln (p := 102) (q199 101) rfl rfl ?_
            refine w_gR (p := 105) (j := 65) (v := 100) (q199 102) rfl (r56 hB) (by decide) (f56_65 hB) ?_
            refine w_iln (p := 106) (q199 105) rfl rfl ?_
            refine w_ic (p := 107) (q199 106) rfl ?_
            refine w_ias (p := 108) (q199 107) rfl (r100 hB) (by decide) o5 ?_
            refine w_il (p := 110) (q199 108) rfl rfl ?_
            refine w_ic (p := 111) (q199 110) rfl ?_
            refine w_i2t (q199 111) (by decide) (by decide) (show zc _ _ _ by unfold zc; omega) ?_
            exact w
          · replace w := w.2 (Decidable.not_not.mp c33)
            refine w_i2f (p := 95) (q199 92) rfl (inR_zz _ _ _) (by decide) c33 ?_
            refine w_inc (p := 98) (ls' := [.ref 56, iv x1, iv (x2 + (-1)), iv (zz s 103 (x2 - 1).toNat), iv (-1), iv (-1), u6]) (q199 95) rfl rfl rfl ?_
            refine w_goto (q199 98) ?_
            exact w
set_option maxRecDepth 10000 in
theorem w199_147 {d : Nat} {B : aH} {Q : aR → Prop} (hB : a_Can B) (x1 x2 x3 x4 x5 : Int) (u6 : Value) (s : Nat → Nat → Int32) (l : Nat → Nat → Int64) (w : ((0 ≤ x2 ∧ x2 < 60000) ∧ a_W d 199 13 [.ref 56, iv x1, iv (x2 + 1), iv x3, iv x4, iv x5, u6] [] (mkH B (zu s 103 x2.toNat x4) l) Q)) : a_W d 199 147 [.ref 56, iv x1, iv x2, iv x3, iv x4, iv x5, u6] [] (mkH B s l) Q := by
  refine w_aln (p := 148) (q199 147) rfl rfl ?_
  refine w_gR (p := 151) (j := 68) (v := 103) (q199 148) rfl (r56 hB) (by decide) (f56_68 hB) ?_
  refine w_iln (p := 152) (q199 151) rfl rfl ?_
  refine w_il (p := 154) (q199 152) rfl rfl ?_
  obtain ⟨o1, w⟩ := w
  refine w_ias (p := 155) (q199 154) rfl (r103 hB) (by decide) o1 ?_
  refine w_inc (p := 158) (ls' := [.ref 56, iv x1, iv (x2 + 1), iv x3, iv x4, iv x5, u6]) (q199 155) rfl rfl rfl ?_
  refine w_goto (q199 158) ?_
  exact w
set_option maxRecDepth 10000 in
theorem w199_161 {d : Nat} {B : aH} {Q : aR → Prop} (hB : a_Can B) (hd : 1 ≤ d) (x1 x2 x3 x4 x5 : Int) (u6 : Value) (s : Nat → Nat → Int32) (l : Nat → Nat → Int64) (w : (inR x5 ∧ ((x5 = (-1) → a_W d 199 214 [.ref 56, iv x1, iv x2, iv x3, iv x4, iv x5, u6] [] (mkH B s l) Q) ∧ (x5 ≠ (-1) → ((0 ≤ x5 ∧ x5 < 60000) ∧ ((2 ≤ (zz s 100 x5.toNat) → a_W d 199 214 [.ref 56, iv x1, iv x2, iv x3, iv x4, iv x5, u6] [] (mkH B s l) Q) ∧ ((zz s 100 x5.toNat) < 2 → (((zz s 100 x5.toNat) ≠ 1 → a_W d 199 200 [.ref 56, iv x1, iv x2, iv x3, iv x4, iv x5, u6] [] (mkH B s l) Q) ∧ ((zz s 100 x5.toNat) = 1 → (((zz s 56 22) ≤ 0 → a_W d 199 200 [.ref 56, iv x1, iv x2, iv x3, iv x4, iv x5, u6] [] (mkH B (zu (zu s 56 22 3) 56 23 (zz s 72 0)) l) Q) ∧ (0 < (zz s 56 22) → a_W d 199 200 [.ref 56, iv x1, iv x2, iv x3, iv x4, iv x5, u6] [] (mkH B s l) Q))))))))))) : a_W d 199 161 [.ref 56, iv x1, iv x2, iv x3, iv x4, iv x5, u6] [] (mkH B s l) Q := by
  refine w_il (p := 163) (q199 161) rfl rfl ?_
  refine w_ic (p := 164) (q199 163) rfl ?_
  obtain ⟨h1, w⟩ := w
  by_cases c2 : x5 = (-1)
  · replace w := w.1 c2
    refine w_i2t (q199 164) h1 (by decide) c2 ?_
    exact w
  · replace w := w.2 c2
    refine w_i2f (p := 167) (q199 164) rfl h1 (by decide) c2 ?_
    refine w_aln (p := 168) (q199 167) rfl rfl ?_
    refine w_gR (p := 171) (j := 65) (v := 100) (q199 168) rfl (r56 hB) (by decide) (f56_65 hB) ?_
    refine w_il (p := 173) (q199 171) rfl rfl ?_
    obtain ⟨o3, w⟩ := w
    refine w_ia (p := 174) (v := (zz s 100 x5.toNat)) (q199 173) rfl (r100 hB) (by decide) o3 (iv_zz s 100 x5.toNat) ?_
    refine w_ic (p := 175) (q199 174) rfl ?_
    by_cases c4 : 2 ≤ (zz s 100 x5.toNat)
    · replace w := w.1 c4
      refine w_i2t (q199 175) (inR_zz _ _ _) (by decide) c4 ?_
      exact w
    · replace w := w.2 (Int.not_le.mp c4)
      refine w_i2f (p := 178) (q199 175) rfl (inR_zz _ _ _) (by decide) c4 ?_
      refine w_aln (p := 179) (q199 178) rfl rfl ?_
      refine w_gR (p := 182) (j := 65) (v := 100) (q199 179) rfl (r56 hB) (by decide) (f56_65 hB) ?_
      refine w_il (p := 184) (q199 182) rfl rfl ?_
      refine w_ia (p := 185) (v := (zz s 100 x5.toNat)) (q199 184) rfl (r100 hB) (by decide) o3 (iv_zz s 100 x5.toNat) ?_
      refine w_ic (p := 186) (q199 185) rfl ?_
      by_cases c5 : (zz s 100 x5.toNat) ≠ 1
      · replace w := w.1 c5
        refine w_i2t (q199 186) (inR_zz _ _ _) (by decide) c5 ?_
        exact w
      · replace w := w.2 (Decidable.not_not.mp c5)
        refine w_i2f (p := 189) (q199 186) rfl (inR_zz _ _ _) (by decide) c5 ?_
        refine w_aln (p := 190) (q199 189) rfl rfl ?_
        refine w_ic (p := 191) (q199 190) rfl ?_
        refine w_aln (p := 192) (q199 191) rfl rfl ?_
        refine w_gR (p := 195) (j := 28) (v := 72) (q199 192) rfl (r56 hB) (by decide) (f56_28 hB) ?_
        refine w_ic (p := 196) (q199 195) rfl ?_
        refine w_ia (p := 197) (v := (zz s 72 0)) (q199 196) rfl (r72 hB) (by decide) (by decide) (iv_zz s 72 0) ?_
        refine w_call (st := []) (as := [.ref 56, iv 3, iv (zz s 72 0)]) (as' := [iv (zz s 72 0), iv 3, .ref 56]) (p := 200) (q199 197) rfl m152 (by decide) (a_ok_i rfl (r56 hB) rfl) rfl rfl (Nat.le_of_ble_eq_true rfl) (by omega) rfl rfl ?_
        refine w_aln (p := 1) (q152 0) rfl rfl ?_
        refine w_gI (p := 4) (j := 22) (v := (zz s 56 22)) (q152 1) rfl (r56 hB) (by decide) (iv_zz s 56 22) ?_
        by_cases c6 : (zz s 56 22) ≤ 0
        · replace w := w.1 c6
          refine w_i1t (q152 4) (inR_zz _ _ _) c6 ?_
          refine w_aln (p := 9) (q152 8) rfl rfl ?_
          refine w_iln (p := 10) (q152 9) rfl rfl ?_
          refine w_pI (p := 13) (j := 22) (q152 10) rfl (r56 hB) (by decide) rfl ?_
          refine w_aln (p := 14) (q152 13) rfl rfl ?_
          refine w_iln (p := 15) (q152 14) rfl rfl ?_
          refine w_pI (p := 18) (j := 23) (q152 15) rfl (r56 hB) (by decide) rfl ?_
          refine w_rv (q152 18) rfl ⟨_, _, rfl, ?_⟩
          show a_W _ 199 200 [.ref 56, iv x1, iv x2, iv x3, iv x4, iv x5, u6] [] _ _
          exact w
        · replace w := w.2 (Int.not_le.mp c6)
          refine w_i1f (p := 7) (q152 4) rfl (inR_zz _ _ _) c6 ?_
          refine w_rv (q152 7) rfl ⟨_, _, rfl, ?_⟩
          show a_W _ 199 200 [.ref 56, iv x1, iv x2, iv x3, iv x4, iv x5, u6] [] _ _
          exact w
set_option maxRecDepth 10000 in
theorem w199_200 {d : Nat} {B : aH} {Q : aR → Prop} (hB : a_Can B) (x1 x2 x3 x4 x5 : Int) (u6 : Value) (s : Nat → Nat → Int32) (l : Nat → Nat → Int64) (w : ((0 ≤ x2 ∧ x2 < 60000) ∧ a_W d 199 13 [.ref 56, iv x1, iv (x2 + 1), iv x3, iv x4, iv x5, u6] [] (mkH B (zu s 103 x2.toNat x5) l) Q)) : a_W d 199 200 [.ref 56, iv x1, iv x2, iv x3, iv x4, iv x5, u6] [] (mkH B s l) Q := by
  refine w_aln (p := 201) (q199 200) rfl rfl ?_
  refine w_gR (p := 204) (j := 68) (v := 103) (q199 201) rfl (r56 hB) (by decide) (f56_68 hB) ?_
  refine w_iln (p := 205) (q199 204) rfl rfl ?_
  refine w_il (p := 207) (q199 205) rfl rfl ?_
  obtain ⟨o1, w⟩ := w
  refine w_ias (p := 208) (q199 207) rfl (r103 hB) (by decide) o1 ?_
  refine w_inc (p := 211) (ls' := [.ref 56, iv x1, iv (x2 + 1), iv x3, iv x4, iv x5, u6]) (q199 208) rfl rfl rfl ?_
  refine w_goto (q199 211) ?_
  exact w
set_option maxRecDepth 10000 in
theorem w199_214 {d : Nat} {B : aH} {Q : aR → Prop} (hB : a_Can B) (hd : 1 ≤ d) (x1 x2 x3 x4 x5 : Int) (u6 : Value) (s : Nat → Nat → Int32) (l : Nat → Nat → Int64) (w : (inR x4 ∧ ((x4 ≠ (-1) → ((0 ≤ x4 ∧ x4 < 60000) ∧ (inR x5 ∧ ((x5 ≠ (-1) → ((0 ≤ x5 ∧ x5 < 60000) ∧ (inR ((1 + (zz s 101 x4.toNat)) + (zz s 101 x5.toNat)) ∧ ((((1 + (zz s 101 x4.toNat)) + (zz s 101 x5.toNat)) ≤ 100000 → ((0 ≤ x3 ∧ x3 < 60000) ∧ a_W d 199 13 [.ref 56, iv x1, iv (x2 + (-1)), iv x3, iv x4, iv x5, iv ((1 + (zz s 101 x4.toNat)) + (zz s 101 x5.toNat))] [] (mkH B (zu (zu (zu s 101 x3.toNat ((1 + (zz s 101 x4.toNat)) + (zz s 101 x5.toNat))) 102 x3.toNat (1 + (z175 (zz s 102 x4.toNat) (zz s 102 x5.toNat)))) 100 x3.toNat 2) l) Q)) ∧ (100000 < ((1 + (zz s 101 x4.toNat)) + (zz s 101 x5.toNat)) → ((0 ≤ x3 ∧ x3 < 60000) ∧ a_W d 199 13 [.ref 56, iv x1, iv (x2 + (-1)), iv x3, iv x4, iv x5, iv ((1 + (zz s 101 x4.toNat)) + (zz s 101 x5.toNat))] [] (mkH B (zu (zu (zu s 101 x3.toNat 100000) 102 x3.toNat (1 + (z175 (zz s 102 x4.toNat) (zz s 102 x5.toNat)))) 100 x3.toNat 2) l) Q)))))) ∧ (x5 = (-1) → (inR ((1 + (zz s 101 x4.toNat)) + 0) ∧ ((((1 + (zz s 101 x4.toNat)) + 0) ≤ 100000 → ((0 ≤ x3 ∧ x3 < 60000) ∧ a_W d 199 13 [.ref 56, iv x1, iv (x2 + (-1)), iv x3, iv x4, iv x5, iv ((1 + (zz s 101 x4.toNat)) + 0)] [] (mkH B (zu (zu (zu s 101 x3.toNat ((1 + (zz s 101 x4.toNat)) + 0)) 102 x3.toNat (1 + (z175 (zz s 102 x4.toNat) 0))) 100 x3.toNat 2) l) Q)) ∧ (100000 < ((1 + (zz s 101 x4.toNat)) + 0) → ((0 ≤ x3 ∧ x3 < 60000) ∧ a_W d 199 13 [.ref 56, iv x1, iv (x2 + (-1)), iv x3, iv x4, iv x5, iv ((1 + (zz s 101 x4.toNat)) + 0)] [] (mkH B (zu (zu (zu s 101 x3.toNat 100000) 102 x3.toNat (1 + (z175 (zz s 102 x4.toNat) 0))) 100 x3.toNat 2) l) Q))))))))) ∧ (x4 = (-1) → (inR x5 ∧ ((x5 ≠ (-1) → ((0 ≤ x5 ∧ x5 < 60000) ∧ (inR ((1 + 0) + (zz s 101 x5.toNat)) ∧ ((((1 + 0) + (zz s 101 x5.toNat)) ≤ 100000 → ((0 ≤ x3 ∧ x3 < 60000) ∧ a_W d 199 13 [.ref 56, iv x1, iv (x2 + (-1)), iv x3, iv x4, iv x5, iv ((1 + 0) + (zz s 101 x5.toNat))] [] (mkH B (zu (zu (zu s 101 x3.toNat ((1 + 0) + (zz s 101 x5.toNat))) 102 x3.toNat (1 + (z175 0 (zz s 102 x5.toNat)))) 100 x3.toNat 2) l) Q)) ∧ (100000 < ((1 + 0) + (zz s 101 x5.toNat)) → ((0 ≤ x3 ∧ x3 < 60000) ∧ a_W d 199 13 [.ref 56, iv x1, iv (x2 + (-1)), iv x3, iv x4, iv x5, iv ((1 + 0) + (zz s 101 x5.toNat))] [] (mkH B (zu (zu (zu s 101 x3.toNat 100000) 102 x3.toNat (1 + (z175 0 (zz s 102 x5.toNat)))) 100 x3.toNat 2) l) Q)))))) ∧ (x5 = (-1) → ((0 ≤ x3 ∧ x3 < 60000) ∧ a_W d 199 13 [.ref 56, iv x1, iv (x2 + (-1)), iv x3, iv x4, iv x5, iv ((1 + 0) + 0)] [] (mkH B (zu (zu (zu s 101 x3.toNat ((1 + 0) + 0)) 102 x3.toNat (1 + (z175 0 0))) 100 x3.toNat 2) l) Q)))))))) : a_W d 199 214 [.ref 56, iv x1, iv x2, iv x3, iv x4, iv x5, u6] [] (mkH B s l) Q := by
  refine w_ic (p := 215) (q199 214) rfl ?_
  refine w_il (p := 217) (q199 215) rfl rfl ?_
  refine w_ic (p := 218) (q199 217) rfl ?_
  obtain ⟨h1, w⟩ := w
  by_cases c2 : x4 ≠ (-1)
  · replace w := w.1 c2
    refine w_i2t (q199 218) h1 (by decide) c2 ?_
    refine w_aln (p := 226) (q199 225) rfl rfl ?_
    refine w_gR (p := 229) (j := 66) (v := 101) (q199 226) rfl (r56 hB) (by decide) (f56_66 hB) ?_
    refine w_il (p := 231) (q199 229) rfl rfl ?_
    obtain ⟨o3, w⟩ := w
    refine w_ia (p := 232) (v := (zz s 101 x4.toNat)) (q199 231) rfl (r101 hB) (by decide) o3 (iv_zz s 101 x4.toNat) ?_
    refine w_add (p := 233) (q199 232) rfl ?_
    refine w_il (p := 235) (q199 233) rfl rfl ?_
    refine w_ic (p := 236) (q199 235) rfl ?_
    obtain ⟨h4, w⟩ := w
    by_cases c5 : x5 ≠ (-1)
    · replace w := w.1 c5
      refine w_i2t (q199 236) h4 (by decide) c5 ?_
      refine w_aln (p := 244) (q199 243) rfl rfl ?_
      refine w_gR (p := 247) (j := 66) (v := 101) (q199 244) rfl (r56 hB) (by decide) (f56_66 hB) ?_
      refine w_il (p := 249) (q199 247) rfl rfl ?_
      obtain ⟨o6, w⟩ := w
      refine w_ia (p := 250) (v := (zz s 101 x5.toNat)) (q199 249) rfl (r101 hB) (by decide) o6 (iv_zz s 101 x5.toNat) ?_
      refine w_add (p := 251) (q199 250) rfl ?_
      refine w_is (p := 253) (ls' := [.ref 56, iv x1, iv x2, iv x3, iv x4, iv x5, iv ((1 + (zz s 101 x4.toNat)) + (zz s 101 x5.toNat))]) (q199 251) rfl (Nat.le_of_ble_eq_true rfl) rfl ?_
      refine w_aln (p := 254) (q199 253) rfl rfl ?_
      refine w_gR (p := 257) (j := 66) (v := 101) (q199 254) rfl (r56 hB) (by decide) (f56_66 hB) ?_
      refine w_iln (p := 258) (q199 257) rfl rfl ?_
      refine w_il (p := 260) (q199 258) rfl rfl ?_
      refine w_ldcw (p := 263) (n := 100000) (q199 260) rfl (by decide) ?_
      obtain ⟨h7, w⟩ := w
      by_cases c8 : ((1 + (zz s 101 x4.toNat)) + (zz s 101 x5.toNat)) ≤ 100000
      · replace w := w.1 c8
        refine w_i2t (q199 263) h7 (by decide) c8 ?_
        refine w_il (p := 274) (q199 272) rfl rfl ?_
        obtain ⟨o9, w⟩ := w
        refine w_ias (p := 275) (q199 274) rfl (r101 hB) (by decide) o9 ?_
        refine w_aln (p := 276) (q199 275) rfl rfl ?_
        refine w_gR (p := 279) (j := 67) (v := 102) (q199 276) rfl (r56 hB) (by decide) (f56_67 hB) ?_
        refine w_iln (p := 280) (q199 279) rfl rfl ?_
        refine w_ic (p := 281) (q199 280) rfl ?_
        refine w_il (p := 283) (q199 281) rfl rfl ?_
        refine w_ic (p := 284) (q199 283) rfl ?_
        refine w_i2t (q199 284) h1 (by decide) (show zc _ _ _ by unfold zc; omega) ?_
        refine w_aln (p := 292) (q199 291) rfl rfl ?_
        refine w_gR (p := 295) (j := 67) (v := 102) (q199 292) rfl (r56 hB) (by decide) (f56_67 hB) ?_
        refine w_il (p := 297) (q199 295) rfl rfl ?_
        refine w_ia (p := 298) (v := (zz s 102 x4.toNat)) (q199 297) rfl (r102 hB) (by decide) o3 (iv_zz s 102 x4.toNat) ?_
        refine w_il (p := 300) (q199 298) rfl rfl ?_
        refine w_ic (p := 301) (q199 300) rfl ?_
        refine w_i2t (q199 301) h4 (by decide) (show zc _ _ _ by unfold zc; omega) ?_
        refine w_aln (p := 309) (q199 308) rfl rfl ?_
        refine w_gR (p := 312) (j := 67) (v := 102) (q199 309) rfl (r56 hB) (by decide) (f56_67 hB) ?_
        refine w_il (p := 314) (q199 312) rfl rfl ?_
        refine w_ia (p := 315) (v := (zz s 102 x5.toNat)) (q199 314) rfl (r102 hB) (by decide) o6 (iv_zz s 102 x5.toNat) ?_
        refine w_call (st := [iv 1, iv x3, .ref 102]) (as := [iv (zz s 102 x4.toNat), iv (zz s 102 x5.toNat)]) (as' := [iv (zz s 102 x5.toNat), iv (zz s 102 x4.toNat)]) (p := 318) (q199 315) rfl m175 (by decide) (a_ok_s rfl rfl) rfl rfl (Nat.le_of_ble_eq_true rfl) (by omega) rfl rfl (a_W.imp (p175 hB (zz s 102 x4.toNat) (zz s 102 x5.toNat) _ _ (inR_zz _ _ _) (inR_zz _ _ _)) ?_)
        rintro _ rfl
        refine ⟨_, _, rfl, ?_⟩
        show a_W _ 199 318 [.ref 56, iv x1, iv x2, iv x3, iv x4, iv x5, iv ((1 + (zz s 101 x4.toNat)) + (zz s 101 x5.toNat))] [iv (z175 (zz s 102 x4.toNat) (zz s 102 x5.toNat)), iv 1, iv x3, .ref 102] _ _
        refine w_add (p := 319) (q199 318) rfl ?_
        refine w_ias (p := 320) (q199 319) rfl (r102 hB) (by decide) o9 ?_
        refine w_aln (p := 321) (q199 320) rfl rfl ?_
        refine w_gR (p := 324) (j := 65) (v := 100) (q199 321) rfl (r56 hB) (by decide) (f56_65 hB) ?_
        refine w_iln (p := 325) (q199 324) rfl rfl ?_
        refine w_ic (p := 326) (q199 325) rfl ?_
        refine w_ias (p := 327) (q199 326) rfl (r100 hB) (by decide) o9 ?_
        refine w_inc (p := 330) (ls' := [.ref 56, iv x1, iv (x2 + (-1)), iv x3, iv x4, iv x5, iv ((1 + (zz s 101 x4.toNat)) + (zz s 101 x5.toNat))]) (q199 327) rfl rfl rfl ?_
        refine w_goto (q199 330) ?_
        exact w
      · replace w := w.2 (Int.not_le.mp c8)
        refine w_i2f (p := 266) (q199 263) rfl h7 (by decide) c8 ?_
        refine w_ldcw (p := 269) (n := 100000) (q199 266) rfl (by decide) ?_
        refine w_goto (q199 269) ?_
        obtain ⟨o10, w⟩ := w
        refine w_ias (p := 275) (q199 274) rfl (r101 hB) (by decide) o10 ?_
        refine w_aln (p := 276) (q199 275) rfl rfl ?_
        refine w_gR (p := 279) (j := 67) (v := 102) (q199 276) rfl (r56 hB) (by decide) (f56_67 hB) ?_
        refine w_iln (p := 280) (q199 279) rfl rfl ?_
        refine w_ic (p := 281) (q199 280) rfl ?_
        refine w_il (p := 283) (q199 281) rfl rfl ?_
        refine w_ic (p := 284) (q199 283) rfl ?_
        refine w_i2t (q199 284) h1 (by decide) (show zc _ _ _ by unfold zc; omega) ?_
        refine w_aln (p := 292) (q199 291) rfl rfl ?_
        refine w_gR (p := 295) (j := 67) (v := 102) (q199 292) rfl (r56 hB) (by decide) (f56_67 hB) ?_
        refine w_il (p := 297) (q199 295) rfl rfl ?_
        refine w_ia (p := 298) (v := (zz s 102 x4.toNat)) (q199 297) rfl (r102 hB) (by decide) o3 (iv_zz s 102 x4.toNat) ?_
        refine w_il (p := 300) (q199 298) rfl rfl ?_
        refine w_ic (p := 301) (q199 300) rfl ?_
        refine w_i2t (q199 301) h4 (by decide) (show zc _ _ _ by unfold zc; omega) ?_
        refine w_aln (p := 309) (q199 308) rfl rfl ?_
        refine w_gR (p := 312) (j := 67) (v := 102) (q199 309) rfl (r56 hB) (by decide) (f56_67 hB) ?_
        refine w_il (p := 314) (q199 312) rfl rfl ?_
        refine w_ia (p := 315) (v := (zz s 102 x5.toNat)) (q199 314) rfl (r102 hB) (by decide) o6 (iv_zz s 102 x5.toNat) ?_
        refine w_call (st := [iv 1, iv x3, .ref 102]) (as := [iv (zz s 102 x4.toNat), iv (zz s 102 x5.toNat)]) (as' := [iv (zz s 102 x5.toNat), iv (zz s 102 x4.toNat)]) (p := 318) (q199 315) rfl m175 (by decide) (a_ok_s rfl rfl) rfl rfl (Nat.le_of_ble_eq_true rfl) (by omega) rfl rfl (a_W.imp (p175 hB (zz s 102 x4.toNat) (zz s 102 x5.toNat) _ _ (inR_zz _ _ _) (inR_zz _ _ _)) ?_)
        rintro _ rfl
        refine ⟨_, _, rfl, ?_⟩
        show a_W _ 199 318 [.ref 56, iv x1, iv x2, iv x3, iv x4, iv x5, iv ((1 + (zz s 101 x4.toNat)) + (zz s 101 x5.toNat))] [iv (z175 (zz s 102 x4.toNat) (zz s 102 x5.toNat)), iv 1, iv x3, .ref 102] _ _
        refine w_add (p := 319) (q199 318) rfl ?_
        refine w_ias (p := 320) (q199 319) rfl (r102 hB) (by decide) o10 ?_
        refine w_aln (p := 321) (q199 320) rfl rfl ?_
        refine w_gR (p := 324) (j := 65) (v := 100) (q199 321) rfl (r56 hB) (by decide) (f56_65 hB) ?_
        refine w_iln (p := 325) (q199 324) rfl rfl ?_
        refine w_ic (p := 326) (q199 325) rfl ?_
        refine w_ias (p := 327) (q199 326) rfl (r100 hB) (by decide) o10 ?_
        refine w_inc (p := 330) (ls' := [.ref 56, iv x1, iv (x2 + (-1)), iv x3, iv x4, iv x5, iv ((1 + (zz s 101 x4.toNat)) + (zz s 101 x5.toNat))]) (q199 327) rfl rfl rfl ?_
        refine w_goto (q199 330) ?_
        exact w
    · replace w := w.2 (Decidable.not_not.mp c5)
      refine w_i2f (p := 239) (q199 236) rfl h4 (by decide) c5 ?_
      refine w_ic (p := 240) (q199 239) rfl ?_
      refine w_goto (q199 240) ?_
      refine w_add (p := 251) (q199 250) rfl ?_
      refine w_is (p := 253) (ls' := [.ref 56, iv x1, iv x2, iv x3, iv x4, iv x5, iv ((1 + (zz s 101 x4.toNat)) + 0)]) (q199 251) rfl (Nat.le_of_ble_eq_true rfl) rfl ?_
      refine w_aln (p := 254) (q199 253) rfl rfl ?_
      refine w_gR (p := 257) (j := 66) (v := 101) (q199 254) rfl (r56 hB) (by decide) (f56_66 hB) ?_
      refine w_iln (p := 258) (q199 257) rfl rfl ?_
      refine w_il (p := 260) (q199 258) rfl rfl ?_
      refine w_ldcw (p := 263) (n := 100000) (q199 260) rfl (by decide) ?_
      obtain ⟨h11, w⟩ := w
      by_cases c12 : ((1 + (zz s 101 x4.toNat)) + 0) ≤ 100000
      · replace w := w.1 c12
        refine w_i2t (q199 263) h11 (by decide) c12 ?_
        refine w_il (p := 274) (q199 272) rfl rfl ?_
        obtain ⟨o13, w⟩ := w
        refine w_ias (p := 275) (q199 274) rfl (r101 hB) (by decide) o13 ?_
        refine w_aln (p := 276) (q199 275) rfl rfl ?_
        refine w_gR (p := 279) (j := 67) (v := 102) (q199 276) rfl (r56 hB) (by decide) (f56_67 hB) ?_
        refine w_iln (p := 280) (q199 279) rfl rfl ?_
        refine w_ic (p := 281) (q199 280) rfl ?_
        refine w_il (p := 283) (q199 281) rfl rfl ?_
        refine w_ic (p := 284) (q199 283) rfl ?_
        refine w_i2t (q199 284) h1 (by decide) (show zc _ _ _ by unfold zc; omega) ?_
        refine w_aln (p := 292) (q199 291) rfl rfl ?_
        refine w_gR (p := 295) (j := 67) (v := 102) (q199 292) rfl (r56 hB) (by decide) (f56_67 hB) ?_
        refine w_il (p := 297) (q199 295) rfl rfl ?_
        refine w_ia (p := 298) (v := (zz s 102 x4.toNat)) (q199 297) rfl (r102 hB) (by decide) o3 (iv_zz s 102 x4.toNat) ?_
        refine w_il (p := 300) (q199 298) rfl rfl ?_
        refine w_ic (p := 301) (q199 300) rfl ?_
        refine w_i2f (p := 304) (q199 301) rfl h4 (by decide) (show ¬ zc _ _ _ by unfold zc; omega) ?_
        refine w_ic (p := 305) (q199 304) rfl ?_
        refine w_goto (q199 305) ?_
        refine w_call (st := [iv 1, iv x3, .ref 102]) (as := [iv (zz s 102 x4.toNat), iv 0]) (as' := [iv 0, iv (zz s 102 x4.toNat)]) (p := 318) (q199 315) rfl m175 (by decide) (a_ok_s rfl rfl) rfl rfl (Nat.le_of_ble_eq_true rfl) (by omega) rfl rfl (a_W.imp (p175 hB (zz s 102 x4.toNat) 0 _ _ (inR_zz _ _ _) (by decide)) ?_)
        rintro _ rfl
        refine ⟨_, _, rfl, ?_⟩
        show a_W _ 199 318 [.ref 56, iv x1, iv x2, iv x3, iv x4, iv x5, iv ((1 + (zz s 101 x4.toNat)) + 0)] [iv (z175 (zz s 102 x4.toNat) 0), iv 1, iv x3, .ref 102] _ _
        refine w_add (p := 319) (q199 318) rfl ?_
        refine w_ias (p := 320) (q199 319) rfl (r102 hB) (by decide) o13 ?_
        refine w_aln (p := 321) (q199 320) rfl rfl ?_
        refine w_gR (p := 324) (j := 65) (v := 100) (q199 321) rfl (r56 hB) (by decide) (f56_65 hB) ?_
        refine w_iln (p := 325) (q199 324) rfl rfl ?_
        refine w_ic (p := 326) (q199 325) rfl ?_
        refine w_ias (p := 327) (q199 326) rfl (r100 hB) (by decide) o13 ?_
        refine w_inc (p := 330) (ls' := [.ref 56, iv x1, iv (x2 + (-1)), iv x3, iv x4, iv x5, iv ((1 + (zz s 101 x4.toNat)) + 0)]) (q199 327) rfl rfl rfl ?_
        refine w_goto (q199 330) ?_
        exact w
      · replace w := w.2 (Int.not_le.mp c12)
        refine w_i2f (p := 266) (q199 263) rfl h11 (by decide) c12 ?_
        refine w_ldcw (p := 269) (n := 100000) (q199 266) rfl (by decide) ?_
        refine w_goto (q199 269) ?_
        obtain ⟨o14, w⟩ := w
        refine w_ias (p := 275) (q199 274) rfl (r101 hB) (by decide) o14 ?_
        refine w_aln (p := 276) (q199 275) rfl rfl ?_
        refine w_gR (p := 279) (j := 67) (v := 102) (q199 276) rfl (r56 hB) (by decide) (f56_67 hB) ?_
        refine w_iln (p := 280) (q199 279) rfl rfl ?_
        refine w_ic (p := 281) (q199 280) rfl ?_
        refine w_il (p := 283) (q199 281) rfl rfl ?_
        refine w_ic (p := 284) (q199 283) rfl ?_
        refine w_i2t (q199 284) h1 (by decide) (show zc _ _ _ by unfold zc; omega) ?_
        refine w_aln (p := 292) (q199 291) rfl rfl ?_
        refine w_gR (p := 295) (j := 67) (v := 102) (q199 292) rfl (r56 hB) (by decide) (f56_67 hB) ?_
        refine w_il (p := 297) (q199 295) rfl rfl ?_
        refine w_ia (p := 298) (v := (zz s 102 x4.toNat)) (q199 297) rfl (r102 hB) (by decide) o3 (iv_zz s 102 x4.toNat) ?_
        refine w_il (p := 300) (q199 298) rfl rfl ?_
        refine w_ic (p := 301) (q199 300) rfl ?_
        refine w_i2f (p := 304) (q199 301) rfl h4 (by decide) (show ¬ zc _ _ _ by unfold zc; omega) ?_
        refine w_ic (p := 305) (q199 304) rfl ?_
        refine w_goto (q199 305) ?_
        refine w_call (st := [iv 1, iv x3, .ref 102]) (as := [iv (zz s 102 x4.toNat), iv 0]) (as' := [iv 0, iv (zz s 102 x4.toNat)]) (p := 318) (q199 315) rfl m175 (by decide) (a_ok_s rfl rfl) rfl rfl (Nat.le_of_ble_eq_true rfl) (by omega) rfl rfl (a_W.imp (p175 hB (zz s 102 x4.toNat) 0 _ _ (inR_zz _ _ _) (by decide)) ?_)
        rintro _ rfl
        refine ⟨_, _, rfl, ?_⟩
        show a_W _ 199 318 [.ref 56, iv x1, iv x2, iv x3, iv x4, iv x5, iv ((1 + (zz s 101 x4.toNat)) + 0)] [iv (z175 (zz s 102 x4.toNat) 0), iv 1, iv x3, .ref 102] _ _
        refine w_add (p := 319) (q199 318) rfl ?_
        refine w_ias (p := 320) (q199 319) rfl (r102 hB) (by decide) o14 ?_
        refine w_aln (p := 321) (q199 320) rfl rfl ?_
        refine w_gR (p := 324) (j := 65) (v := 100) (q199 321) rfl (r56 hB) (by decide) (f56_65 hB) ?_
        refine w_iln (p := 325) (q199 324) rfl rfl ?_
        refine w_ic (p := 326) (q199 325) rfl ?_
        refine w_ias (p := 327) (q199 326) rfl (r100 hB) (by decide) o14 ?_
        refine w_inc (p := 330) (ls' := [.ref 56, iv x1, iv (x2 + (-1)), iv x3, iv x4, iv x5, iv ((1 + (zz s 101 x4.toNat)) + 0)]) (q199 327) rfl rfl rfl ?_
        refine w_goto (q199 330) ?_
        exact w
  · replace w := w.2 (Decidable.not_not.mp c2)
    refine w_i2f (p := 221) (q199 218) rfl h1 (by decide) c2 ?_
    refine w_ic (p := 222) (q199 221) rfl ?_
    refine w_goto (q199 222) ?_
    refine w_add (p := 233) (q199 232) rfl ?_
    refine w_il (p := 235) (q199 233) rfl rfl ?_
    refine w_ic (p := 236) (q199 235) rfl ?_
    obtain ⟨h15, w⟩ := w
    by_cases c16 : x5 ≠ (-1)
    · replace w := w.1 c16
      refine w_i2t (q199 236) h15 (by decide) c16 ?_
      refine w_aln (p := 244) (q199 243) rfl rfl ?_
      refine w_gR (p := 247) (j := 66) (v := 101) (q199 244) rfl (r56 hB) (by decide) (f56_66 hB) ?_
      refine w_il (p := 249) (q199 247) rfl rfl ?_
      obtain ⟨o17, w⟩ := w
      refine w_ia (p := 250) (v := (zz s 101 x5.toNat)) (q199 249) rfl (r101 hB) (by decide) o17 (iv_zz s 101 x5.toNat) ?_
      refine w_add (p := 251) (q199 250) rfl ?_
      refine w_is (p := 253) (ls' := [.ref 56, iv x1, iv x2, iv x3, iv x4, iv x5, iv ((1 + 0) + (zz s 101 x5.toNat))]) (q199 251) rfl (Nat.le_of_ble_eq_true rfl) rfl ?_
      refine w_aln (p := 254) (q199 253) rfl rfl ?_
      refine w_gR (p := 257) (j := 66) (v := 101) (q199 254) rfl (r56 hB) (by decide) (f56_66 hB) ?_
      refine w_iln (p := 258) (q199 257) rfl rfl ?_
      refine w_il (p := 260) (q199 258) rfl rfl ?_
      refine w_ldcw (p := 263) (n := 100000) (q199 260) rfl (by decide) ?_
      obtain ⟨h18, w⟩ := w
      by_cases c19 : ((1 + 0) + (zz s 101 x5.toNat)) ≤ 100000
      · replace w := w.1 c19
        refine w_i2t (q199 263) h18 (by decide) c19 ?_
        refine w_il (p := 274) (q199 272) rfl rfl ?_
        obtain ⟨o20, w⟩ := w
        refine w_ias (p := 275) (q199 274) rfl (r101 hB) (by decide) o20 ?_
        refine w_aln (p := 276) (q199 275) rfl rfl ?_
        refine w_gR (p := 279) (j := 67) (v := 102) (q199 276) rfl (r56 hB) (by decide) (f56_67 hB) ?_
        refine w_iln (p := 280) (q199 279) rfl rfl ?_
        refine w_ic (p := 281) (q199 280) rfl ?_
        refine w_il (p := 283) (q199 281) rfl rfl ?_
        refine w_ic (p := 284) (q199 283) rfl ?_
        refine w_i2f (p := 287) (q199 284) rfl h1 (by decide) (show ¬ zc _ _ _ by unfold zc; omega) ?_
        refine w_ic (p := 288) (q199 287) rfl ?_
        refine w_goto (q199 288) ?_
        refine w_il (p := 300) (q199 298) rfl rfl ?_
        refine w_ic (p := 301) (q199 300) rfl ?_
        refine w_i2t (q199 301) h15 (by decide) (show zc _ _ _ by unfold zc; omega) ?_
        refine w_aln (p := 309) (q199 308) rfl rfl ?_
        refine w_gR (p := 312) (j := 67) (v := 102) (q199 309) rfl (r56 hB) (by decide) (f56_67 hB) ?_
        refine w_il (p := 314) (q199 312) rfl rfl ?_
        refine w_ia (p := 315) (v := (zz s 102 x5.toNat)) (q199 314) rfl (r102 hB) (by decide) o17 (iv_zz s 102 x5.toNat) ?_
        refine w_call (st := [iv 1, iv x3, .ref 102]) (as := [iv 0, iv (zz s 102 x5.toNat)]) (as' := [iv (zz s 102 x5.toNat), iv 0]) (p := 318) (q199 315) rfl m175 (by decide) (a_ok_s rfl rfl) rfl rfl (Nat.le_of_ble_eq_true rfl) (by omega) rfl rfl (a_W.imp (p175 hB 0 (zz s 102 x5.toNat) _ _ (by decide) (inR_zz _ _ _)) ?_)
        rintro _ rfl
        refine ⟨_, _, rfl, ?_⟩
        show a_W _ 199 318 [.ref 56, iv x1, iv x2, iv x3, iv x4, iv x5, iv ((1 + 0) + (zz s 101 x5.toNat))] [iv (z175 0 (zz s 102 x5.toNat)), iv 1, iv x3, .ref 102] _ _
        refine w_add (p := 319) (q199 318) rfl ?_
        refine w_ias (p := 320) (q199 319) rfl (r102 hB) (by decide) o20 ?_
        refine w_aln (p := 321) (q199 320) rfl rfl ?_
        refine w_gR (p := 324) (j := 65) (v := 100) (q199 321) rfl (r56 hB) (by decide) (f56_65 hB) ?_
        refine w_iln (p := 325) (q199 324) rfl rfl ?_
        refine w_ic (p := 326) (q199 325) rfl ?_
        refine w_ias (p := 327) (q199 326) rfl (r100 hB) (by decide) o20 ?_
        refine w_inc (p := 330) (ls' := [.ref 56, iv x1, iv (x2 + (-1)), iv x3, iv x4, iv x5, iv ((1 + 0) + (zz s 101 x5.toNat))]) (q199 327) rfl rfl rfl ?_
        refine w_goto (q199 330) ?_
        exact w
      · replace w := w.2 (Int.not_le.mp c19)
        refine w_i2f (p := 266) (q199 263) rfl h18 (by decide) c19 ?_
        refine w_ldcw (p := 269) (n := 100000) (q199 266) rfl (by decide) ?_
        refine w_goto (q199 269) ?_
        obtain ⟨o21, w⟩ := w
        refine w_ias (p := 275) (q199 274) rfl (r101 hB) (by decide) o21 ?_
        refine w_aln (p := 276) (q199 275) rfl rfl ?_
        refine w_gR (p := 279) (j := 67) (v := 102) (q199 276) rfl (r56 hB) (by decide) (f56_67 hB) ?_
        refine w_iln (p := 280) (q199 279) rfl rfl ?_
        refine w_ic (p := 281) (q199 280) rfl ?_
        refine w_il (p := 283) (q199 281) rfl rfl ?_
        refine w_ic (p := 284) (q199 283) rfl ?_
        refine w_i2f (p := 287) (q199 284) rfl h1 (by decide) (show ¬ zc _ _ _ by unfold zc; omega) ?_
        refine w_ic (p := 288) (q199 287) rfl ?_
        refine w_goto (q199 288) ?_
        refine w_il (p := 300) (q199 298) rfl rfl ?_
        refine w_ic (p := 301) (q199 300) rfl ?_
        refine w_i2t (q199 301) h15 (by decide) (show zc _ _ _ by unfold zc; omega) ?_
        refine w_aln (p := 309) (q199 308) rfl rfl ?_
        refine w_gR (p := 312) (j := 67) (v := 102) (q199 309) rfl (r56 hB) (by decide) (f56_67 hB) ?_
        refine w_il (p := 314) (q199 312) rfl rfl ?_
        refine w_ia (p := 315) (v := (zz s 102 x5.toNat)) (q199 314) rfl (r102 hB) (by decide) o17 (iv_zz s 102 x5.toNat) ?_
        refine w_call (st := [iv 1, iv x3, .ref 102]) (as := [iv 0, iv (zz s 102 x5.toNat)]) (as' := [iv (zz s 102 x5.toNat), iv 0]) (p := 318) (q199 315) rfl m175 (by decide) (a_ok_s rfl rfl) rfl rfl (Nat.le_of_ble_eq_true rfl) (by omega) rfl rfl (a_W.imp (p175 hB 0 (zz s 102 x5.toNat) _ _ (by decide) (inR_zz _ _ _)) ?_)
        rintro _ rfl
        refine ⟨_, _, rfl, ?_⟩
        show a_W _ 199 318 [.ref 56, iv x1, iv x2, iv x3, iv x4, iv x5, iv ((1 + 0) + (zz s 101 x5.toNat))] [iv (z175 0 (zz s 102 x5.toNat)), iv 1, iv x3, .ref 102] _ _
        refine w_add (p := 319) (q199 318) rfl ?_
        refine w_ias (p := 320) (q199 319) rfl (r102 hB) (by decide) o21 ?_
        refine w_aln (p := 321) (q199 320) rfl rfl ?_
        refine w_gR (p := 324) (j := 65) (v := 100) (q199 321) rfl (r56 hB) (by decide) (f56_65 hB) ?_
        refine w_iln (p := 325) (q199 324) rfl rfl ?_
        refine w_ic (p := 326) (q199 325) rfl ?_
        refine w_ias (p := 327) (q199 326) rfl (r100 hB) (by decide) o21 ?_
        refine w_inc (p := 330) (ls' := [.ref 56, iv x1, iv (x2 + (-1)), iv x3, iv x4, iv x5, iv ((1 + 0) + (zz s 101 x5.toNat))]) (q199 327) rfl rfl rfl ?_
        refine w_goto (q199 330) ?_
        exact w
    · replace w := w.2 (Decidable.not_not.mp c16)
      refine w_i2f (p := 239) (q199 236) rfl h15 (by decide) c16 ?_
      refine w_ic (p := 240) (q199 239) rfl ?_
      refine w_goto (q199 240) ?_
      refine w_add (p := 251) (q199 250) rfl ?_
      refine w_is (p := 253) (ls' := [.ref 56, iv x1, iv x2, iv x3, iv x4, iv x5, iv ((1 + 0) + 0)]) (q199 251) rfl (Nat.le_of_ble_eq_true rfl) rfl ?_
      refine w_aln (p := 254) (q199 253) rfl rfl ?_
      refine w_gR (p := 257) (j := 66) (v := 101) (q199 254) rfl (r56 hB) (by decide) (f56_66 hB) ?_
      refine w_iln (p := 258) (q199 257) rfl rfl ?_
      refine w_il (p := 260) (q199 258) rfl rfl ?_
      refine w_ldcw (p := 263) (n := 100000) (q199 260) rfl (by decide) ?_
      refine w_i2t (q199 263) (by decide) (by decide) (show zc _ _ _ by unfold zc; omega) ?_
      refine w_il (p := 274) (q199 272) rfl rfl ?_
      obtain ⟨o22, w⟩ := w
      refine w_ias (p := 275) (q199 274) rfl (r101 hB) (by decide) o22 ?_
      refine w_aln (p := 276) (q199 275) rfl rfl ?_
      refine w_gR (p := 279) (j := 67) (v := 102) (q199 276) rfl (r56 hB) (by decide) (f56_67 hB) ?_
      refine w_iln (p := 280) (q199 279) rfl rfl ?_
      refine w_ic (p := 281) (q199 280) rfl ?_
      refine w_il (p := 283) (q199 281) rfl rfl ?_
      refine w_ic (p := 284) (q199 283) rfl ?_
      refine w_i2f (p := 287) (q199 284) rfl h1 (by decide) (show ¬ zc _ _ _ by unfold zc; omega) ?_
      refine w_ic (p := 288) (q199 287) rfl ?_
      refine w_goto (q199 288) ?_
      refine w_il (p := 300) (q199 298) rfl rfl ?_
      refine w_ic (p := 301) (q199 300) rfl ?_
      refine w_i2f (p := 304) (q199 301) rfl h15 (by decide) (show ¬ zc _ _ _ by unfold zc; omega) ?_
      refine w_ic (p := 305) (q199 304) rfl ?_
      refine w_goto (q199 305) ?_
      refine w_call (st := [iv 1, iv x3, .ref 102]) (as := [iv 0, iv 0]) (as' := [iv 0, iv 0]) (p := 318) (q199 315) rfl m175 (by decide) (a_ok_s rfl rfl) rfl rfl (Nat.le_of_ble_eq_true rfl) (by omega) rfl rfl (a_W.imp (p175 hB 0 0 _ _ (by decide) (by decide)) ?_)
      rintro _ rfl
      refine ⟨_, _, rfl, ?_⟩
      show a_W _ 199 318 [.ref 56, iv x1, iv x2, iv x3, iv x4, iv x5, iv ((1 + 0) + 0)] [iv (z175 0 0), iv 1, iv x3, .ref 102] _ _
      refine w_add (p := 319) (q199 318) rfl ?_
      refine w_ias (p := 320) (q199 319) rfl (r102 hB) (by decide) o22 ?_
      refine w_aln (p := 321) (q199 320) rfl rfl ?_
      refine w_gR (p := 324) (j := 65) (v := 100) (q199 321) rfl (r56 hB) (by decide) (f56_65 hB) ?_
      refine w_iln (p := 325) (q199 324) rfl rfl ?_
      refine w_ic (p := 326) (q199 325) rfl ?_
      refine w_ias (p := 327) (q199 326) rfl (r100 hB) (by decide) o22 ?_
      refine w_inc (p := 330) (ls' := [.ref 56, iv x1, iv (x2 + (-1)), iv x3, iv x4, iv x5, iv ((1 + 0) + 0)]) (q199 327) rfl rfl rfl ?_
      refine w_goto (q199 330) ?_
      exact w
set_option maxRecDepth 10000 in
theorem w199_333 {d : Nat} {B : aH} {Q : aR → Prop} (hB : a_Can B) (x1 x2 : Int) (u3 u4 u5 u6 : Value) (s : Nat → Nat → Int32) (l : Nat → Nat → Int64) (w : Q (.inl none, (mkH B s l))) : a_W d 199 333 [.ref 56, iv x1, iv x2, u3, u4, u5, u6] [] (mkH B s l) Q := by
  exact w_rv (q199 333) rfl w
theorem w198_0 {d : Nat} {B : aH} {Q : aR → Prop} (hB : a_Can B) (s : Nat → Nat → Int32) (l : Nat → Nat → Int64) (w : a_W d 198 2 [.ref 56, iv 0, .retAddr 0] [] (mkH B s l) Q) : a_W d 198 0 [.ref 56, .retAddr 0, .retAddr 0] [] (mkH B s l) Q := by
  refine w_ic (p := 1) (q198 0) rfl ?_
  refine w_isn (p := 2) (ls' := [.ref 56, iv 0, .retAddr 0]) (q198 1) rfl (Nat.le_of_ble_eq_true rfl) rfl ?_
  exact w
theorem w198_2 {d : Nat} {B : aH} {Q : aR → Prop} (hB : a_Can B) (x1 : Int) (s : Nat → Nat → Int32) (l : Nat → Nat → Int64) (w : (inR x1 ∧ (((zz s 56 16) ≤ x1 → a_W d 198 25 [.ref 56, iv 0, .retAddr 0] [] (mkH B s l) Q) ∧ (x1 < (zz s 56 16) → ((0 ≤ x1 ∧ x1 < 60000) ∧ a_W d 198 2 [.ref 56, iv (x1 + 1), .retAddr 0] [] (mkH B (zu s 100 x1.toNat 0) l) Q))))) : a_W d 198 2 [.ref 56, iv x1, .retAddr 0] [] (mkH B s l) Q := by
  refine w_iln (p := 3) (q198 2) rfl rfl ?_
  refine w_aln (p := 4) (q198 3) rfl rfl ?_
  refine w_gI (p := 7) (j := 16) (v := (zz s 56 16)) (q198 4) rfl (r56 hB) (by decide) (iv_zz s 56 16) ?_
  obtain ⟨h1, w⟩ := w
  by_cases c2 : (zz s 56 16) ≤ x1
  · replace w := w.1 c2
    refine w_i2t (q198 7) h1 (inR_zz _ _ _) c2 ?_
    refine w_ic (p := 24) (q198 23) rfl ?_
    refine w_isn (p := 25) (ls' := [.ref 56, iv 0, .retAddr 0]) (q198 24) rfl (Nat.le_of_ble_eq_true rfl) rfl ?_
    exact w
  · replace w := w.2 (Int.not_le.mp c2)
    refine w_i2f (p := 10) (q198 7) rfl h1 (inR_zz _ _ _) c2 ?_
    refine w_aln (p := 11) (q198 10) rfl rfl ?_
    refine w_gR (p := 14) (j := 65) (v := 100) (q198 11) rfl (r56 hB) (by decide) (f56_65 hB) ?_
    refine w_iln (p := 15) (q198 14) rfl rfl ?_
    refine w_ic (p := 16) (q198 15) rfl ?_
    obtain ⟨o3, w⟩ := w
    refine w_ias (p := 17) (q198 16) rfl (r100 hB) (by decide) o3 ?_
    refine w_inc (p := 20) (ls' := [.ref 56, iv (x1 + 1), .retAddr 0]) (q198 17) rfl rfl rfl ?_
    refine w_goto (q198 20) ?_
    exact w
theorem w198_25 {d : Nat} {B : aH} {Q : aR → Prop} (hB : a_Can B) (hd : 1 ≤ d) (x1 : Int) (s : Nat → Nat → Int32) (l : Nat → Nat → Int64) (w : (inR x1 ∧ (((zz s 56 62) ≤ x1 → a_W d 198 56 [.ref 56, iv x1, .retAddr 0] [] (mkH B s l) Q) ∧ (x1 < (zz s 56 62) → (((zz s 56 22) ≠ 0 → a_W d 198 56 [.ref 56, iv x1, .retAddr 0] [] (mkH B s l) Q) ∧ ((zz s 56 22) = 0 → ((0 ≤ x1 ∧ x1 < 520) ∧ a_W (d - 1) 199 0 [.ref 56, iv (zz s 99 x1.toNat), .retAddr 0, .retAddr 0, .retAddr 0, .retAddr 0, .retAddr 0] [] (mkH B s l) (fun r => ∃ (s5 : Nat → Nat → Int32) (l6 : Nat → Nat → Int64), r = (.inl none, mkH B s5 l6) ∧ a_W d 198 25 [.ref 56, iv (x1 + 1), .retAddr 0] [] (mkH B s5 l6) Q)))))))) : a_W d 198 25 [.ref 56, iv x1, .retAddr 0] [] (mkH B s l) Q := by
  refine w_iln (p := 26) (q198 25) rfl rfl ?_
  refine w_aln (p := 27) (q198 26) rfl rfl ?_
  refine w_gI (p := 30) (j := 62) (v := (zz s 56 62)) (q198 27) rfl (r56 hB) (by decide) (iv_zz s 56 62) ?_
  obtain ⟨h1, w⟩ := w
  by_cases c2 : (zz s 56 62) ≤ x1
  · replace w := w.1 c2
    refine w_i2t (q198 30) h1 (inR_zz _ _ _) c2 ?_
    exact w
  · replace w := w.2 (Int.not_le.mp c2)
    refine w_i2f (p := 33) (q198 30) rfl h1 (inR_zz _ _ _) c2 ?_
    refine w_aln (p := 34) (q198 33) rfl rfl ?_
    refine w_gI (p := 37) (j := 22) (v := (zz s 56 22)) (q198 34) rfl (r56 hB) (by decide) (iv_zz s 56 22) ?_
    by_cases c3 : (zz s 56 22) ≠ 0
    · replace w := w.1 c3
      refine w_i1t (q198 37) (inR_zz _ _ _) c3 ?_
      exact w
    · replace w := w.2 (Decidable.not_not.mp c3)
      refine w_i1f (p := 40) (q198 37) rfl (inR_zz _ _ _) c3 ?_
      refine w_aln (p := 41) (q198 40) rfl rfl ?_
      refine w_aln (p := 42) (q198 41) rfl rfl ?_
      refine w_gR (p := 45) (j := 64) (v := 99) (q198 42) rfl (r56 hB) (by decide) (f56_64 hB) ?_
      refine w_iln (p := 46) (q198 45) rfl rfl ?_
      obtain ⟨o4, w⟩ := w
      refine w_ia (p := 47) (v := (zz s 99 x1.toNat)) (q198 46) rfl (r99 hB) (by decide) o4 (iv_zz s 99 x1.toNat) ?_
      refine w_call (st := []) (as := [.ref 56, iv (zz s 99 x1.toNat)]) (as' := [iv (zz s 99 x1.toNat), .ref 56]) (p := 50) (q198 47) rfl m199 (by decide) (a_ok_i rfl (r56 hB) rfl) rfl rfl (Nat.le_of_ble_eq_true rfl) (by omega) rfl rfl (a_W.imp w ?_)
      rintro _ ⟨s5, l6, rfl, w⟩
      refine ⟨none, _, rfl, ?_⟩
      show a_W _ 198 50 [.ref 56, iv x1, .retAddr 0] [] (mkH B s5 l6) _
      refine w_inc (p := 53) (ls' := [.ref 56, iv (x1 + 1), .retAddr 0]) (q198 50) rfl rfl rfl ?_
      refine w_goto (q198 53) ?_
      exact w
theorem w198_56 {d : Nat} {B : aH} {Q : aR → Prop} (hB : a_Can B) (x1 : Int) (s : Nat → Nat → Int32) (l : Nat → Nat → Int64) (w : a_W d 198 61 [.ref 56, iv (zz s 56 17), .retAddr 0] [] (mkH B s l) Q) : a_W d 198 56 [.ref 56, iv x1, .retAddr 0] [] (mkH B s l) Q := by
  refine w_aln (p := 57) (q198 56) rfl rfl ?_
  refine w_gI (p := 60) (j := 17) (v := (zz s 56 17)) (q198 57) rfl (r56 hB) (by decide) (iv_zz s 56 17) ?_
  refine w_isn (p := 61) (ls' := [.ref 56, iv (zz s 56 17), .retAddr 0]) (q198 60) rfl (Nat.le_of_ble_eq_true rfl) rfl ?_
  exact w
theorem w198_61 {d : Nat} {B : aH} {Q : aR → Prop} (hB : a_Can B) (hd : 1 ≤ d) (x1 : Int) (s : Nat → Nat → Int32) (l : Nat → Nat → Int64) (w : (inR x1 ∧ (((zz s 56 16) ≤ x1 → a_W d 198 87 [.ref 56, iv x1, .retAddr 0] [] (mkH B s l) Q) ∧ (x1 < (zz s 56 16) → (((zz s 56 22) ≠ 0 → a_W d 198 87 [.ref 56, iv x1, .retAddr 0] [] (mkH B s l) Q) ∧ ((zz s 56 22) = 0 → a_W (d - 1) 199 0 [.ref 56, iv x1, .retAddr 0, .retAddr 0, .retAddr 0, .retAddr 0, .retAddr 0] [] (mkH B s l) (fun r => ∃ (s4 : Nat → Nat → Int32) (l5 : Nat → Nat → Int64), r = (.inl none, mkH B s4 l5) ∧ a_W d 198 61 [.ref 56, iv (x1 + 1), .retAddr 0] [] (mkH B s4 l5) Q))))))) : a_W d 198 61 [.ref 56, iv x1, .retAddr 0] [] (mkH B s l) Q := by
  refine w_iln (p := 62) (q198 61) rfl rfl ?_
  refine w_aln (p := 63) (q198 62) rfl rfl ?_
  refine w_gI (p := 66) (j := 16) (v := (zz s 56 16)) (q198 63) rfl (r56 hB) (by decide) (iv_zz s 56 16) ?_
  obtain ⟨h1, w⟩ := w
  by_cases c2 : (zz s 56 16) ≤ x1
  · replace w := w.1 c2
    refine w_i2t (q198 66) h1 (inR_zz _ _ _) c2 ?_
    exact w
  · replace w := w.2 (Int.not_le.mp c2)
    refine w_i2f (p := 69) (q198 66) rfl h1 (inR_zz _ _ _) c2 ?_
    refine w_aln (p := 70) (q198 69) rfl rfl ?_
    refine w_gI (p := 73) (j := 22) (v := (zz s 56 22)) (q198 70) rfl (r56 hB) (by decide) (iv_zz s 56 22) ?_
    by_cases c3 : (zz s 56 22) ≠ 0
    · replace w := w.1 c3
      refine w_i1t (q198 73) (inR_zz _ _ _) c3 ?_
      exact w
    · replace w := w.2 (Decidable.not_not.mp c3)
      refine w_i1f (p := 76) (q198 73) rfl (inR_zz _ _ _) c3 ?_
      refine w_aln (p := 77) (q198 76) rfl rfl ?_
      refine w_iln (p := 78) (q198 77) rfl rfl ?_
      refine w_call (st := []) (as := [.ref 56, iv x1]) (as' := [iv x1, .ref 56]) (p := 81) (q198 78) rfl m199 (by decide) (a_ok_i rfl (r56 hB) rfl) rfl rfl (Nat.le_of_ble_eq_true rfl) (by omega) rfl rfl (a_W.imp w ?_)
      rintro _ ⟨s4, l5, rfl, w⟩
      refine ⟨none, _, rfl, ?_⟩
      show a_W _ 198 81 [.ref 56, iv x1, .retAddr 0] [] (mkH B s4 l5) _
      refine w_inc (p := 84) (ls' := [.ref 56, iv (x1 + 1), .retAddr 0]) (q198 81) rfl rfl rfl ?_
      refine w_goto (q198 84) ?_
      exact w
theorem w198_87 {d : Nat} {B : aH} {Q : aR → Prop} (hB : a_Can B) (x1 : Int) (s : Nat → Nat → Int32) (l : Nat → Nat → Int64) (w : a_W d 198 89 [.ref 56, iv 0, .retAddr 0] [] (mkH B s l) Q) : a_W d 198 87 [.ref 56, iv x1, .retAddr 0] [] (mkH B s l) Q := by
  refine w_ic (p := 88) (q198 87) rfl ?_
  refine w_isn (p := 89) (ls' := [.ref 56, iv 0, .retAddr 0]) (q198 88) rfl (Nat.le_of_ble_eq_true rfl) rfl ?_
  exact w
theorem w198_89 {d : Nat} {B : aH} {Q : aR → Prop} (hB : a_Can B) (hd : 1 ≤ d) (x1 : Int) (u2 : Value) (s : Nat → Nat → Int32) (l : Nat → Nat → Int64) (w : (inR x1 ∧ (((zz s 56 62) ≤ x1 → a_W d 198 155 [.ref 56, iv x1, u2] [] (mkH B s l) Q) ∧ (x1 < (zz s 56 62) → (((zz s 56 22) ≠ 0 → a_W d 198 155 [.ref 56, iv x1, u2] [] (mkH B s l) Q) ∧ ((zz s 56 22) = 0 → ((0 ≤ x1 ∧ x1 < 520) ∧ a_W (d - 1) 194 0 [.ref 56, iv (zz s 99 x1.toNat), .retAddr 0] [] (mkH B s l) (fun r => ∃ (v7 : Int) (s5 : Nat → Nat → Int32) (l6 : Nat → Nat → Int64), r = (.inl (some (iv v7)), mkH B s5 l6) ∧ ((0 ≤ v7 ∧ v7 < 60000) ∧ ((40 < (zz s5 101 v7.toNat) → a_W d 198 137 [.ref 56, iv x1, iv v7] [] (mkH B s5 l6) Q) ∧ ((zz s5 101 v7.toNat) ≤ 40 → (((zz s5 102 v7.toNat) ≤ 12 → a_W d 198 149 [.ref 56, iv x1, iv v7] [] (mkH B s5 l6) Q) ∧ (12 < (zz s5 102 v7.toNat) → a_W d 198 137 [.ref 56, iv x1, iv v7] [] (mkH B s5 l6) Q))))))))))))) : a_W d 198 89 [.ref 56, iv x1, u2] [] (mkH B s l) Q := by
  refine w_iln (p := 90) (q198 89) rfl rfl ?_
  refine w_aln (p := 91) (q198 90) rfl rfl ?_
  refine w_gI (p := 94) (j := 62) (v := (zz s 56 62)) (q198 91) rfl (r56 hB) (by decide) (iv_zz s 56 62) ?_
  obtain ⟨h1, w⟩ := w
  by_cases c2 : (zz s 56 62) ≤ x1
  · replace w := w.1 c2
    refine w_i2t (q198 94) h1 (inR_zz _ _ _) c2 ?_
    exact w
  · replace w := w.2 (Int.not_le.mp c2)
    refine w_i2f (p := 97) (q198 94) rfl h1 (inR_zz _ _ _) c2 ?_
    refine w_aln (p := 98) (q198 97) rfl rfl ?_
    refine w_gI (p := 101) (j := 22) (v := (zz s 56 22)) (q198 98) rfl (r56 hB) (by decide) (iv_zz s 56 22) ?_
    by_cases c3 : (zz s 56 22) ≠ 0
    · replace w := w.1 c3
      refine w_i1t (q198 101) (inR_zz _ _ _) c3 ?_
      exact w
    · replace w := w.2 (Decidable.not_not.mp c3)
      refine w_i1f (p := 104) (q198 101) rfl (inR_zz _ _ _) c3 ?_
      refine w_aln (p := 105) (q198 104) rfl rfl ?_
      refine w_aln (p := 106) (q198 105) rfl rfl ?_
      refine w_gR (p := 109) (j := 64) (v := 99) (q198 106) rfl (r56 hB) (by decide) (f56_64 hB) ?_
      refine w_iln (p := 110) (q198 109) rfl rfl ?_
      obtain ⟨o4, w⟩ := w
      refine w_ia (p := 111) (v := (zz s 99 x1.toNat)) (q198 110) rfl (r99 hB) (by decide) o4 (iv_zz s 99 x1.toNat) ?_
      refine w_call (st := []) (as := [.ref 56, iv (zz s 99 x1.toNat)]) (as' := [iv (zz s 99 x1.toNat), .ref 56]) (p := 114) (q198 111) rfl m194 (by decide) (a_ok_i rfl (r56 hB) rfl) rfl rfl (Nat.le_of_ble_eq_true rfl) (by omega) rfl rfl (a_W.imp w ?_)
      rintro _ ⟨v7, s5, l6, rfl, w⟩
      refine ⟨some (iv v7), _, rfl, ?_⟩
      show a_W _ 198 114 [.ref 56, iv x1, u2] [iv v7] (mkH B s5 l6) _
      refine w_isn (p := 115) (ls' := [.ref 56, iv x1, iv v7]) (q198 114) rfl (Nat.le_of_ble_eq_true rfl) rfl ?_
      refine w_aln (p := 116) (q198 115) rfl rfl ?_
      refine w_gR (p := 119) (j := 66) (v := 101) (q198 116) rfl (r56 hB) (by decide) (f56_66 hB) ?_
      refine w_iln (p := 120) (q198 119) rfl rfl ?_
      obtain ⟨o8, w⟩ := w
      refine w_ia (p := 121) (v := (zz s5 101 v7.toNat)) (q198 120) rfl (r101 hB) (by decide) o8 (iv_zz s5 101 v7.toNat) ?_
      refine w_bp (p := 123) (q198 121) rfl (by decide) ?_
      by_cases c9 : 40 < (zz s5 101 v7.toNat)
      · replace w := w.1 c9
        refine w_i2t (q198 123) (inR_zz _ _ _) (by decide) c9 ?_
        exact w
      · replace w := w.2 (Int.not_lt.mp c9)
        refine w_i2f (p := 126) (q198 123) rfl (inR_zz _ _ _) (by decide) c9 ?_
        refine w_aln (p := 127) (q198 126) rfl rfl ?_
        refine w_gR (p := 130) (j := 67) (v := 102) (q198 127) rfl (r56 hB) (by decide) (f56_67 hB) ?_
        refine w_iln (p := 131) (q198 130) rfl rfl ?_
        refine w_ia (p := 132) (v := (zz s5 102 v7.toNat)) (q198 131) rfl (r102 hB) (by decide) o8 (iv_zz s5 102 v7.toNat) ?_
        refine w_bp (p := 134) (q198 132) rfl (by decide) ?_
        by_cases c10 : (zz s5 102 v7.toNat) ≤ 12
        · replace w := w.1 c10
          refine w_i2t (q198 134) (inR_zz _ _ _) (by decide) c10 ?_
          exact w
        · replace w := w.2 (Int.not_le.mp c10)
          refine w_i2f (p := 137) (q198 134) rfl (inR_zz _ _ _) (by decide) c10 ?_
          exact w
theorem w198_137 {d : Nat} {B : aH} {Q : aR → Prop} (hB : a_Can B) (hd : 1 ≤ d) (x1 x2 : Int) (s : Nat → Nat → Int32) (l : Nat → Nat → Int64) (w : (((zz s 56 22) ≤ 0 → a_W d 198 149 [.ref 56, iv x1, iv x2] [] (mkH B (zu (zu s 56 22 8) 56 23 (zz s 72 0)) l) Q) ∧ (0 < (zz s 56 22) → a_W d 198 149 [.ref 56, iv x1, iv x2] [] (mkH B s l) Q))) : a_W d 198 137 [.ref 56, iv x1, iv x2] [] (mkH B s l) Q := by
  refine w_aln (p := 138) (q198 137) rfl rfl ?_
  refine w_bp (p := 140) (q198 138) rfl (by decide) ?_
  refine w_aln (p := 141) (q198 140) rfl rfl ?_
  refine w_gR (p := 144) (j := 28) (v := 72) (q198 141) rfl (r56 hB) (by decide) (f56_28 hB) ?_
  refine w_ic (p := 145) (q198 144) rfl ?_
  refine w_ia (p := 146) (v := (zz s 72 0)) (q198 145) rfl (r72 hB) (by decide) (by decide) (iv_zz s 72 0) ?_
  refine w_call (st := []) (as := [.ref 56, iv 8, iv (zz s 72 0)]) (as' := [iv (zz s 72 0), iv 8, .ref 56]) (p := 149) (q198 146) rfl m152 (by decide) (a_ok_i rfl (r56 hB) rfl) rfl rfl (Nat.le_of_ble_eq_true rfl) (by omega) rfl rfl ?_
  refine w_aln (p := 1) (q152 0) rfl rfl ?_
  refine w_gI (p := 4) (j := 22) (v := (zz s 56 22)) (q152 1) rfl (r56 hB) (by decide) (iv_zz s 56 22) ?_
  by_cases c1 : (zz s 56 22) ≤ 0
  · replace w := w.1 c1
    refine w_i1t (q152 4) (inR_zz _ _ _) c1 ?_
    refine w_aln (p := 9) (q152 8) rfl rfl ?_
    refine w_iln (p := 10) (q152 9) rfl rfl ?_
    refine w_pI (p := 13) (j := 22) (q152 10) rfl (r56 hB) (by decide) rfl ?_
    refine w_aln (p := 14) (q152 13) rfl rfl ?_
    refine w_iln (p := 15) (q152 14) rfl rfl ?_
    refine w_pI (p := 18) (j := 23) (q152 15) rfl (r56 hB) (by decide) rfl ?_
    refine w_rv (q152 18) rfl ⟨_, _, rfl, ?_⟩
    show a_W _ 198 149 [.ref 56, iv x1, iv x2] [] _ _
    exact w
  · replace w := w.2 (Int.not_le.mp c1)
    refine w_i1f (p := 7) (q152 4) rfl (inR_zz _ _ _) c1 ?_
    refine w_rv (q152 7) rfl ⟨_, _, rfl, ?_⟩
    show a_W _ 198 149 [.ref 56, iv x1, iv x2] [] _ _
    exact w
theorem w198_149 {d : Nat} {B : aH} {Q : aR → Prop} (hB : a_Can B) (x1 x2 : Int) (s : Nat → Nat → Int32) (l : Nat → Nat → Int64) (w : a_W d 198 89 [.ref 56, iv (x1 + 1), iv x2] [] (mkH B s l) Q) : a_W d 198 149 [.ref 56, iv x1, iv x2] [] (mkH B s l) Q := by
  refine w_inc (p := 152) (ls' := [.ref 56, iv (x1 + 1), iv x2]) (q198 149) rfl rfl rfl ?_
  refine w_goto (q198 152) ?_
  exact w
theorem w198_155 {d : Nat} {B : aH} {Q : aR → Prop} (hB : a_Can B) (x1 : Int) (u2 : Value) (s : Nat → Nat → Int32) (l : Nat → Nat → Int64) (w : Q (.inl none, (mkH B s l))) : a_W d 198 155 [.ref 56, iv x1, u2] [] (mkH B s l) Q := by
  exact w_rv (q198 155) rfl w
theorem w201_0 {d : Nat} {B : aH} {Q : aR → Prop} (hB : a_Can B) (x1 x2 : Int) (s : Nat → Nat → Int32) (l : Nat → Nat → Int64) (w : a_W d 201 12 [.ref 56, iv x1, iv x2, iv x2, iv 1, .retAddr 0] [] (mkH B (zu s 103 0 x1) l) Q) : a_W d 201 0 [.ref 56, iv x1, iv x2, .retAddr 0, .retAddr 0, .retAddr 0] [] (mkH B s l) Q := by
  refine w_iln (p := 1) (q201 0) rfl rfl ?_
  refine w_isn (p := 2) (ls' := [.ref 56, iv x1, iv x2, iv x2, .retAddr 0, .retAddr 0]) (q201 1) rfl (Nat.le_of_ble_eq_true rfl) rfl ?_
  refine w_ic (p := 3) (q201 2) rfl ?_
  refine w_is (p := 5) (ls' := [.ref 56, iv x1, iv x2, iv x2, iv 1, .retAddr 0]) (q201 3) rfl (Nat.le_of_ble_eq_true rfl) rfl ?_
  refine w_aln (p := 6) (q201 5) rfl rfl ?_
  refine w_gR (p := 9) (j := 68) (v := 103) (q201 6) rfl (r56 hB) (by decide) (f56_68 hB) ?_
  refine w_ic (p := 10) (q201 9) rfl ?_
  refine w_iln (p := 11) (q201 10) rfl rfl ?_
  refine w_ias (p := 12) (q201 11) rfl (r103 hB) (by decide) (by decide) ?_
  exact w
theorem w201_12 {d : Nat} {B : aH} {Q : aR → Prop} (hB : a_Can B) (hd : 1 ≤ d) (x1 x2 x3 x4 : Int) (u5 : Value) (s : Nat → Nat → Int32) (l : Nat → Nat → Int64) (w : (inR x4 ∧ ((x4 ≤ 0 → Q (.inl (some (iv x3)), (mkH B s l))) ∧ (0 < x4 → ((0 ≤ (x4 + (-1)) ∧ (x4 + (-1)) < 60000) ∧ a_W (d - 1) 194 0 [.ref 56, iv (zz s 103 (x4 + (-1)).toNat), .retAddr 0] [] (mkH B s l) (fun r => ∃ (v6 : Int) (s4 : Nat → Nat → Int32) (l5 : Nat → Nat → Int64), r = (.inl (some (iv v6)), mkH B s4 l5) ∧ ((0 ≤ v6 ∧ v6 < 60000) ∧ (((zz s4 64 v6.toNat) ≠ (-1) → a_W d 201 76 [.ref 56, iv x1, iv x2, iv x3, iv (x4 + (-1)), iv v6] [] (mkH B s4 l5) Q) ∧ ((zz s4 64 v6.toNat) = (-1) → (((zz s4 104 v6.toNat) ≠ (-1) → a_W d 201 76 [.ref 56, iv x1, iv x2, iv x3, iv (x4 + (-1)), iv v6] [] (mkH B s4 l5) Q) ∧ ((zz s4 104 v6.toNat) = (-1) → a_W d 201 76 [.ref 56, iv x1, iv x2, iv x3, iv (x4 + (-1)), iv v6] [] (mkH B (zu (zu s4 104 v6.toNat (zz s4 56 69)) 56 69 ((zz s4 56 69) + 1)) l5) Q))))))))))) : a_W d 201 12 [.ref 56, iv x1, iv x2, iv x3, iv x4, u5] [] (mkH B s l) Q := by
  refine w_il (p := 14) (q201 12) rfl rfl ?_
  obtain ⟨h1, w⟩ := w
  by_cases c2 : x4 ≤ 0
  · replace w := w.1 c2
    refine w_i1t (q201 14) h1 c2 ?_
    refine w_iln (p := 175) (q201 174) rfl rfl ?_
    exact w_ret (q201 175) rfl w
  · replace w := w.2 (Int.not_le.mp c2)
    refine w_i1f (p := 17) (q201 14) rfl h1 c2 ?_
    refine w_inc (p := 20) (ls' := [.ref 56, iv x1, iv x2, iv x3, iv (x4 + (-1)), u5]) (q201 17) rfl rfl rfl ?_
    refine w_aln (p := 21) (q201 20) rfl rfl ?_
    refine w_aln (p := 22) (q201 21) rfl rfl ?_
    refine w_gR (p := 25) (j := 68) (v := 103) (q201 22) rfl (r56 hB) (by decide) (f56_68 hB) ?_
    refine w_il (p := 27) (q201 25) rfl rfl ?_
    obtain ⟨o3, w⟩ := w
    refine w_ia (p := 28) (v := (zz s 103 (x4 + (-1)).toNat)) (q201 27) rfl (r103 hB) (by decide) o3 (iv_zz s 103 (x4 + (-1)).toNat) ?_
    refine w_call (st := []) (as := [.ref 56, iv (zz s 103 (x4 + (-1)).toNat)]) (as' := [iv (zz s 103 (x4 + (-1)).toNat), .ref 56]) (p := 31) (q201 28) rfl m194 (by decide) (a_ok_i rfl (r56 hB) rfl) rfl rfl (Nat.le_of_ble_eq_true rfl) (by omega) rfl rfl (a_W.imp w ?_)
    rintro _ ⟨v6, s4, l5, rfl, w⟩
    refine ⟨some (iv v6), _, rfl, ?_⟩
    show a_W _ 201 31 [.ref 56, iv x1, iv x2, iv x3, iv (x4 + (-1)), u5] [iv v6] (mkH B s4 l5) _
    refine w_is (p := 33) (ls' := [.ref 56, iv x1, iv x2, iv x3, iv (x4 + (-1)), iv v6]) (q201 31) rfl (Nat.le_of_ble_eq_true rfl) rfl ?_
    refine w_aln (p := 34) (q201 33) rfl rfl ?_
    refine w_gR (p := 37) (j := 12) (v := 64) (q201 34) rfl (r56 hB) (by decide) (f56_12 hB) ?_
    refine w_il (p := 39) (q201 37) rfl rfl ?_
    obtain ⟨o7, w⟩ := w
    refine w_ia (p := 40) (v := (zz s4 64 v6.toNat)) (q201 39) rfl (r64 hB) (by decide) o7 (iv_zz s4 64 v6.toNat) ?_
    refine w_ic (p := 41) (q201 40) rfl ?_
    by_cases c8 : (zz s4 64 v6.toNat) ≠ (-1)
    · replace w := w.1 c8
      refine w_i2t (q201 41) (inR_zz _ _ _) (by decide) c8 ?_
      exact w
    · replace w := w.2 (Decidable.not_not.mp c8)
      refine w_i2f (p := 44) (q201 41) rfl (inR_zz _ _ _) (by decide) c8 ?_
      refine w_aln (p := 45) (q201 44) rfl rfl ?_
      refine w_gR (p := 48) (j := 70) (v := 104) (q201 45) rfl (r56 hB) (by decide) (f56_70 hB) ?_
      refine w_il (p := 50) (q201 48) rfl rfl ?_
      refine w_ia (p := 51) (v := (zz s4 104 v6.toNat)) (q201 50) rfl (r104 hB) (by decide) o7 (iv_zz s4 104 v6.toNat) ?_
      refine w_ic (p := 52) (q201 51) rfl ?_
      by_cases c9 : (zz s4 104 v6.toNat) ≠ (-1)
      · replace w := w.1 c9
        refine w_i2t (q201 52) (inR_zz _ _ _) (by decide) c9 ?_
        exact w
      · replace w := w.2 (Decidable.not_not.mp c9)
        refine w_i2f (p := 55) (q201 52) rfl (inR_zz _ _ _) (by decide) c9 ?_
        refine w_aln (p := 56) (q201 55) rfl rfl ?_
        refine w_gR (p := 59) (j := 70) (v := 104) (q201 56) rfl (r56 hB) (by decide) (f56_70 hB) ?_
        refine w_il (p := 61) (q201 59) rfl rfl ?_
        refine w_aln (p := 62) (q201 61) rfl rfl ?_
        refine w_gI (p := 65) (j := 69) (v := (zz s4 56 69)) (q201 62) rfl (r56 hB) (by decide) (iv_zz s4 56 69) ?_
        refine w_ias (p := 66) (q201 65) rfl (r104 hB) (by decide) o7 ?_
        refine w_aln (p := 67) (q201 66) rfl rfl ?_
        refine w_dupr (p := 68) (q201 67) rfl ?_
        refine w_gI (p := 71) (j := 69) (v := (zz s4 56 69)) (q201 68) rfl (r56 hB) (by decide) (iv_zz s4 56 69) ?_
        refine w_ic (p := 72) (q201 71) rfl ?_
        refine w_add (p := 73) (q201 72) rfl ?_
        refine w_pI (p := 76) (j := 69) (q201 73) rfl (r56 hB) (by decide) rfl ?_
        exact w
theorem w201_76 {d : Nat} {B : aH} {Q : aR → Prop} (hB : a_Can B) (x1 x2 x3 x4 x5 : Int) (s : Nat → Nat → Int32) (l : Nat → Nat → Int64) (w : ((0 ≤ x5 ∧ x5 < 60000) ∧ (((zz s 64 x5.toNat) ≠ (-1) → ((0 ≤ x3 ∧ x3 < 20800) ∧ (((zz s 66 x5.toNat) = (-1) → a_W d 201 143 [.ref 56, iv x1, iv x2, iv (x3 + 1), iv x4, iv x5] [] (mkH B (zu s 70 x3.toNat (zz s 64 x5.toNat)) l) Q) ∧ ((zz s 66 x5.toNat) ≠ (-1) → ((0 ≤ x4 ∧ x4 < 60000) ∧ a_W d 201 143 [.ref 56, iv x1, iv x2, iv (x3 + 1), iv (x4 + 1), iv x5] [] (mkH B (zu (zu s 70 x3.toNat (zz s 64 x5.toNat)) 103 x4.toNat (zz s 66 x5.toNat)) l) Q))))) ∧ ((zz s 64 x5.toNat) = (-1) → ((0 ≤ x3 ∧ x3 < 20800) ∧ (((zz s 66 x5.toNat) = (-1) → a_W d 201 143 [.ref 56, iv x1, iv x2, iv (x3 + 1), iv x4, iv x5] [] (mkH B (zu s 70 x3.toNat ((-1) - (zz s 104 x5.toNat))) l) Q) ∧ ((zz s 66 x5.toNat) ≠ (-1) → ((0 ≤ x4 ∧ x4 < 60000) ∧ a_W d 201 143 [.ref 56, iv x1, iv x2, iv (x3 + 1), iv (x4 + 1), iv x5] [] (mkH B (zu (zu s 70 x3.toNat ((-1) - (zz s 104 x5.toNat))) 103 x4.toNat (zz s 66 x5.toNat)) l) Q)))))))) : a_W d 201 76 [.ref 56, iv x1, iv x2, iv x3, iv x4, iv x5] [] (mkH B s l) Q := by
  refine w_aln (p := 77) (q201 76) rfl rfl ?_
  refine w_gR (p := 80) (j := 21) (v := 70) (q201 77) rfl (r56 hB) (by decide) (f56_21 hB) ?_
  refine w_iln (p := 81) (q201 80) rfl rfl ?_
  refine w_aln (p := 82) (q201 81) rfl rfl ?_
  refine w_gR (p := 85) (j := 12) (v := 64) (q201 82) rfl (r56 hB) (by decide) (f56_12 hB) ?_
  refine w_il (p := 87) (q201 85) rfl rfl ?_
  obtain ⟨o1, w⟩ := w
  refine w_ia (p := 88) (v := (zz s 64 x5.toNat)) (q201 87) rfl (r64 hB) (by decide) o1 (iv_zz s 64 x5.toNat) ?_
  refine w_ic (p := 89) (q201 88) rfl ?_
  by_cases c2 : (zz s 64 x5.toNat) ≠ (-1)
  · replace w := w.1 c2
    refine w_i2t (q201 89) (inR_zz _ _ _) (by decide) c2 ?_
    refine w_aln (p := 105) (q201 104) rfl rfl ?_
    refine w_gR (p := 108) (j := 12) (v := 64) (q201 105) rfl (r56 hB) (by decide) (f56_12 hB) ?_
    refine w_il (p := 110) (q201 108) rfl rfl ?_
    refine w_ia (p := 111) (v := (zz s 64 x5.toNat)) (q201 110) rfl (r64 hB) (by decide) o1 (iv_zz s 64 x5.toNat) ?_
    obtain ⟨o3, w⟩ := w
    refine w_ias (p := 112) (q201 111) rfl (r70 hB) (by decide) o3 ?_
    refine w_inc (p := 115) (ls' := [.ref 56, iv x1, iv x2, iv (x3 + 1), iv x4, iv x5]) (q201 112) rfl rfl rfl ?_
    refine w_aln (p := 116) (q201 115) rfl rfl ?_
    refine w_gR (p := 119) (j := 14) (v := 66) (q201 116) rfl (r56 hB) (by decide) (f56_14 hB) ?_
    refine w_il (p := 121) (q201 119) rfl rfl ?_
    refine w_ia (p := 122) (v := (zz s 66 x5.toNat)) (q201 121) rfl (r66 hB) (by decide) o1 (iv_zz s 66 x5.toNat) ?_
    refine w_ic (p := 123) (q201 122) rfl ?_
    by_cases c4 : (zz s 66 x5.toNat) = (-1)
    · replace w := w.1 c4
      refine w_i2t (q201 123) (inR_zz _ _ _) (by decide) c4 ?_
      exact w
    · replace w := w.2 c4
      refine w_i2f (p := 126) (q201 123) rfl (inR_zz _ _ _) (by decide) c4 ?_
      refine w_aln (p := 127) (q201 126) rfl rfl ?_
      refine w_gR (p := 130) (j := 68) (v := 103) (q201 127) rfl (r56 hB) (by decide) (f56_68 hB) ?_
      refine w_il (p := 132) (q201 130) rfl rfl ?_
      refine w_aln (p := 133) (q201 132) rfl rfl ?_
      refine w_gR (p := 136) (j := 14) (v := 66) (q201 133) rfl (r56 hB) (by decide) (f56_14 hB) ?_
      refine w_il (p := 138) (q201 136) rfl rfl ?_
      refine w_ia (p := 139) (v := (zz s 66 x5.toNat)) (q201 138) rfl (r66 hB) (by decide) o1 (iv_zz s 66 x5.toNat) ?_
      obtain ⟨o5, w⟩ := w
      refine w_ias (p := 140) (q201 139) rfl (r103 hB) (by decide) o5 ?_
      refine w_inc (p := 143) (ls' := [.ref 56, iv x1, iv x2, iv (x3 + 1), iv (x4 + 1), iv x5]) (q201 140) rfl rfl rfl ?_
      exact w
  · replace w := w.2 (Decidable.not_not.mp c2)
    refine w_i2f (p := 92) (q201 89) rfl (inR_zz _ _ _) (by decide) c2 ?_
    refine w_ic (p := 93) (q201 92) rfl ?_
    refine w_aln (p := 94) (q201 93) rfl rfl ?_
    refine w_gR (p := 97) (j := 70) (v := 104) (q201 94) rfl (r56 hB) (by decide) (f56_70 hB) ?_
    refine w_il (p := 99) (q201 97) rfl rfl ?_
    refine w_ia (p := 100) (v := (zz s 104 x5.toNat)) (q201 99) rfl (r104 hB) (by decide) o1 (iv_zz s 104 x5.toNat) ?_
    refine w_sub (p := 101) (q201 100) rfl ?_
    refine w_goto (q201 101) ?_
    obtain ⟨o6, w⟩ := w
    refine w_ias (p := 112) (q201 111) rfl (r70 hB) (by decide) o6 ?_
    refine w_inc (p := 115) (ls' := [.ref 56, iv x1, iv x2, iv (x3 + 1), iv x4, iv x5]) (q201 112) rfl rfl rfl ?_
    refine w_aln (p := 116) (q201 115) rfl rfl ?_
    refine w_gR (p := 119) (j := 14) (v := 66) (q201 116) rfl (r56 hB) (by decide) (f56_14 hB) ?_
    refine w_il (p := 121) (q201 119) rfl rfl ?_
    refine w_ia (p := 122) (v := (zz s 66 x5.toNat)) (q201 121) rfl (r66 hB) (by decide) o1 (iv_zz s 66 x5.toNat) ?_
    refine w_ic (p := 123) (q201 122) rfl ?_
    by_cases c7 : (zz s 66 x5.toNat) = (-1)
    · replace w := w.1 c7
      refine w_i2t (q201 123) (inR_zz _ _ _) (by decide) c7 ?_
      exact w
    · replace w := w.2 c7
      refine w_i2f (p := 126) (q201 123) rfl (inR_zz _ _ _) (by decide) c7 ?_
      refine w_aln (p := 127) (q201 126) rfl rfl ?_
      refine w_gR (p := 130) (j := 68) (v := 103) (q201 127) rfl (r56 hB) (by decide) (f56_68 hB) ?_
      refine w_il (p := 132) (q201 130) rfl rfl ?_
      refine w_aln (p := 133) (q201 132) rfl rfl ?_
      refine w_gR (p := 136) (j := 14) (v := 66) (q201 133) rfl (r56 hB) (by decide) (f56_14 hB) ?_
      refine w_il (p := 138) (q201 136) rfl rfl ?_
      refine w_ia (p := 139) (v := (zz s 66 x5.toNat)) (q201 138) rfl (r66 hB) (by decide) o1 (iv_zz s 66 x5.toNat) ?_
      obtain ⟨o8, w⟩ := w
      refine w_ias (p := 140) (q201 139) rfl (r103 hB) (by decide) o8 ?_
      refine w_inc (p := 143) (ls' := [.ref 56, iv x1, iv x2, iv (x3 + 1), iv (x4 + 1), iv x5]) (q201 140) rfl rfl rfl ?_
      exact w
theorem w201_143 {d : Nat} {B : aH} {Q : aR → Prop} (hB : a_Can B) (x1 x2 x3 x4 x5 : Int) (s : Nat → Nat → Int32) (l : Nat → Nat → Int64) (w : ((0 ≤ x5 ∧ x5 < 60000) ∧ (((zz s 65 x5.toNat) = (-1) → a_W d 201 171 [.ref 56, iv x1, iv x2, iv x3, iv x4, iv x5] [] (mkH B s l) Q) ∧ ((zz s 65 x5.toNat) ≠ (-1) → ((0 ≤ x4 ∧ x4 < 60000) ∧ a_W d 201 171 [.ref 56, iv x1, iv x2, iv x3, iv (x4 + 1), iv x5] [] (mkH B (zu s 103 x4.toNat (zz s 65 x5.toNat)) l) Q))))) : a_W d 201 143 [.ref 56, iv x1, iv x2, iv x3, iv x4, iv x5] [] (mkH B s l) Q := by
  refine w_aln (p := 144) (q201 143) rfl rfl ?_
  refine w_gR (p := 147) (j := 13) (v := 65) (q201 144) rfl (r56 hB) (by decide) (f56_13 hB) ?_
  refine w_il (p := 149) (q201 147) rfl rfl ?_
  obtain ⟨o1, w⟩ := w
  refine w_ia (p := 150) (v := (zz s 65 x5.toNat)) (q201 149) rfl (r65 hB) (by decide) o1 (iv_zz s 65 x5.toNat) ?_
  refine w_ic (p := 151) (q201 150) rfl ?_
  by_cases c2 : (zz s 65 x5.toNat) = (-1)
  · replace w := w.1 c2
    refine w_i2t (q201 151) (inR_zz _ _ _) (by decide) c2 ?_
    exact w
  · replace w := w.2 c2
    refine w_i2f (p := 154) (q201 151) rfl (inR_zz _ _ _) (by decide) c2 ?_
    refine w_aln (p := 155) (q201 154) rfl rfl ?_
    refine w_gR (p := 158) (j := 68) (v := 103) (q201 155) rfl (r56 hB) (by decide) (f56_68 hB) ?_
    refine w_il (p := 160) (q201 158) rfl rfl ?_
    refine w_aln (p := 161) (q201 160) rfl rfl ?_
    refine w_gR (p := 164) (j := 13) (v := 65) (q201 161) rfl (r56 hB) (by decide) (f56_13 hB) ?_
    refine w_il (p := 166) (q201 164) rfl rfl ?_
    refine w_ia (p := 167) (v := (zz s 65 x5.toNat)) (q201 166) rfl (r65 hB) (by decide) o1 (iv_zz s 65 x5.toNat) ?_
    obtain ⟨o3, w⟩ := w
    refine w_ias (p := 168) (q201 167) rfl (r103 hB) (by decide) o3 ?_
    refine w_inc (p := 171) (ls' := [.ref 56, iv x1, iv x2, iv x3, iv (x4 + 1), iv x5]) (q201 168) rfl rfl rfl ?_
    exact w
theorem w201_171 {d : Nat} {B : aH} {Q : aR → Prop} (hB : a_Can B) (x1 x2 x3 x4 x5 : Int) (s : Nat → Nat → Int32) (l : Nat → Nat → Int64) (w : a_W d 201 12 [.ref 56, iv x1, iv x2, iv x3, iv x4, iv x5] [] (mkH B s l) Q) : a_W d 201 171 [.ref 56, iv x1, iv x2, iv x3, iv x4, iv x5] [] (mkH B s l) Q := by
  refine w_goto (q201 171) ?_
  exact w
theorem w200_0 {d : Nat} {B : aH} {Q : aR → Prop} (hB : a_Can B) (s : Nat → Nat → Int32) (l : Nat → Nat → Int64) (w : a_W d 200 15 [.ref 56, iv 0] [] (mkH B (zu (zu s 56 18 (zz s 56 62)) 56 69 0) l) Q) : a_W d 200 0 [.ref 56, .retAddr 0] [] (mkH B s l) Q := by
  refine w_aln (p := 1) (q200 0) rfl rfl ?_
  refine w_aln (p := 2) (q200 1) rfl rfl ?_
  refine w_gI (p := 5) (j := 62) (v := (zz s 56 62)) (q200 2) rfl (r56 hB) (by decide) (iv_zz s 56 62) ?_
  refine w_pI (p := 8) (j := 18) (q200 5) rfl (r56 hB) (by decide) rfl ?_
  refine w_aln (p := 9) (q200 8) rfl rfl ?_
  refine w_ic (p := 10) (q200 9) rfl ?_
  refine w_pI (p := 13) (j := 69) (q200 10) rfl (r56 hB) (by decide) rfl ?_
  refine w_ic (p := 14) (q200 13) rfl ?_
  refine w_isn (p := 15) (ls' := [.ref 56, iv 0]) (q200 14) rfl (Nat.le_of_ble_eq_true rfl) rfl ?_
  exact w
theorem w200_15 {d : Nat} {B : aH} {Q : aR → Prop} (hB : a_Can B) (x1 : Int) (s : Nat → Nat → Int32) (l : Nat → Nat → Int64) (w : (inR x1 ∧ (((zz s 56 16) ≤ x1 → a_W d 200 45 [.ref 56, iv 0] [] (mkH B (zu s 69 0 0) l) Q) ∧ (x1 < (zz s 56 16) → ((0 ≤ x1 ∧ x1 < 60000) ∧ a_W d 200 15 [.ref 56, iv (x1 + 1)] [] (mkH B (zu s 104 x1.toNat (-1)) l) Q))))) : a_W d 200 15 [.ref 56, iv x1] [] (mkH B s l) Q := by
  refine w_iln (p := 16) (q200 15) rfl rfl ?_
  refine w_aln (p := 17) (q200 16) rfl rfl ?_
  refine w_gI (p := 20) (j := 16) (v := (zz s 56 16)) (q200 17) rfl (r56 hB) (by decide) (iv_zz s 56 16) ?_
  obtain ⟨h1, w⟩ := w
  by_cases c2 : (zz s 56 16) ≤ x1
  · replace w := w.1 c2
    refine w_i2t (q200 20) h1 (inR_zz _ _ _) c2 ?_
    refine w_aln (p := 37) (q200 36) rfl rfl ?_
    refine w_gR (p := 40) (j := 20) (v := 69) (q200 37) rfl (r56 hB) (by decide) (f56_20 hB) ?_
    refine w_ic (p := 41) (q200 40) rfl ?_
    refine w_ic (p := 42) (q200 41) rfl ?_
    refine w_ias (p := 43) (q200 42) rfl (r69 hB) (by decide) (by decide) ?_
    refine w_ic (p := 44) (q200 43) rfl ?_
    refine w_isn (p := 45) (ls' := [.ref 56, iv 0]) (q200 44) rfl (Nat.le_of_ble_eq_true rfl) rfl ?_
    exact w
  · replace w := w.2 (Int.not_le.mp c2)
    refine w_i2f (p := 23) (q200 20) rfl h1 (inR_zz _ _ _) c2 ?_
    refine w_aln (p := 24) (q200 23) rfl rfl ?_
    refine w_gR (p := 27) (j := 70) (v := 104) (q200 24) rfl (r56 hB) (by decide) (f56_70 hB) ?_
    refine w_iln (p := 28) (q200 27) rfl rfl ?_
    refine w_ic (p := 29) (q200 28) rfl ?_
    obtain ⟨o3, w⟩ := w
    refine w_ias (p := 30) (q200 29) rfl (r104 hB) (by decide) o3 ?_
    refine w_inc (p := 33) (ls' := [.ref 56, iv (x1 + 1)]) (q200 30) rfl rfl rfl ?_
    refine w_goto (q200 33) ?_
    exact w
theorem w200_45 {d : Nat} {B : aH} {Q : aR → Prop} (hB : a_Can B) (hd : 1 ≤ d) (x1 : Int) (s : Nat → Nat → Int32) (l : Nat → Nat → Int64) (w : (inR x1 ∧ (((zz s 56 62) ≤ x1 → Q (.inl none, (mkH B s l))) ∧ (x1 < (zz s 56 62) → ((0 ≤ x1 ∧ x1 < 520) ∧ ((0 ≤ x1 ∧ x1 < 521) ∧ a_W (d - 1) 201 0 [.ref 56, iv (zz s 99 x1.toNat), iv (zz s 69 x1.toNat), .retAddr 0, .retAddr 0, .retAddr 0] [] (mkH B (zu s 68 x1.toNat (zz s 98 x1.toNat)) l) (fun r => ∃ (v7 : Int) (s5 : Nat → Nat → Int32) (l6 : Nat → Nat → Int64), r = (.inl (some (iv v7)), mkH B s5 l6) ∧ ((0 ≤ (x1 + 1) ∧ (x1 + 1) < 521) ∧ a_W d 200 45 [.ref 56, iv (x1 + 1)] [] (mkH B (zu s5 69 (x1 + 1).toNat v7) l6) Q)))))))) : a_W d 200 45 [.ref 56, iv x1] [] (mkH B s l) Q := by
  refine w_iln (p := 46) (q200 45) rfl rfl ?_
  refine w_aln (p := 47) (q200 46) rfl rfl ?_
  refine w_gI (p := 50) (j := 62) (v := (zz s 56 62)) (q200 47) rfl (r56 hB) (by decide) (iv_zz s 56 62) ?_
  obtain ⟨h1, w⟩ := w
  by_cases c2 : (zz s 56 62) ≤ x1
  · replace w := w.1 c2
    refine w_i2t (q200 50) h1 (inR_zz _ _ _) c2 ?_
    exact w_rv (q200 95) rfl w
  · replace w := w.2 (Int.not_le.mp c2)
    refine w_i2f (p := 53) (q200 50) rfl h1 (inR_zz _ _ _) c2 ?_
    refine w_aln (p := 54) (q200 53) rfl rfl ?_
    refine w_gR (p := 57) (j := 19) (v := 68) (q200 54) rfl (r56 hB) (by decide) (f56_19 hB) ?_
    refine w_iln (p := 58) (q200 57) rfl rfl ?_
    refine w_aln (p := 59) (q200 58) rfl rfl ?_
    refine w_gR (p := 62) (j := 63) (v := 98) (q200 59) rfl (r56 hB) (by decide) (f56_63 hB) ?_
    refine w_iln (p := 63) (q200 62) rfl rfl ?_
    obtain ⟨o3, w⟩ := w
    refine w_ia (p := 64) (v := (zz s 98 x1.toNat)) (q200 63) rfl (r98 hB) (by decide) o3 (iv_zz s 98 x1.toNat) ?_
    refine w_ias (p := 65) (q200 64) rfl (r68 hB) (by decide) o3 ?_
    refine w_aln (p := 66) (q200 65) rfl rfl ?_
    refine w_gR (p := 69) (j := 20) (v := 69) (q200 66) rfl (r56 hB) (by decide) (f56_20 hB) ?_
    refine w_iln (p := 70) (q200 69) rfl rfl ?_
    refine w_ic (p := 71) (q200 70) rfl ?_
    refine w_add (p := 72) (q200 71) rfl ?_
    refine w_aln (p := 73) (q200 72) rfl rfl ?_
    refine w_aln (p := 74) (q200 73) rfl rfl ?_
    refine w_gR (p := 77) (j := 64) (v := 99) (q200 74) rfl (r56 hB) (by decide) (f56_64 hB) ?_
    refine w_iln (p := 78) (q200 77) rfl rfl ?_
    refine w_ia (p := 79) (v := (zz s 99 x1.toNat)) (q200 78) rfl (r99 hB) (by decide) o3 (iv_zz s 99 x1.toNat) ?_
    refine w_aln (p := 80) (q200 79) rfl rfl ?_
    refine w_gR (p := 83) (j := 20) (v := 69) (q200 80) rfl (r56 hB) (by decide) (f56_20 hB) ?_
    refine w_iln (p := 84) (q200 83) rfl rfl ?_
    obtain ⟨o4, w⟩ := w
    refine w_ia (p := 85) (v := (zz s 69 x1.toNat)) (q200 84) rfl (r69 hB) (by decide) o4 (iv_zz s 69 x1.toNat) ?_
    refine w_call (st := [iv (x1 + 1), .ref 69]) (as := [.ref 56, iv (zz s 99 x1.toNat), iv (zz s 69 x1.toNat)]) (as' := [iv (zz s 69 x1.toNat), iv (zz s 99 x1.toNat), .ref 56]) (p := 88) (q200 85) rfl m201 (by decide) (a_ok_i rfl (r56 hB) rfl) rfl rfl (Nat.le_of_ble_eq_true rfl) (by omega) rfl rfl (a_W.imp w ?_)
    rintro _ ⟨v7, s5, l6, rfl, w⟩
    refine ⟨some (iv v7), _, rfl, ?_⟩
    show a_W _ 200 88 [.ref 56, iv x1] [iv v7, iv (x1 + 1), .ref 69] (mkH B s5 l6) _
    obtain ⟨o8, w⟩ := w
    refine w_ias (p := 89) (q200 88) rfl (r69 hB) (by decide) o8 ?_
    refine w_inc (p := 92) (ls' := [.ref 56, iv (x1 + 1)]) (q200 89) rfl rfl rfl ?_
    refine w_goto (q200 92) ?_
    exact w
