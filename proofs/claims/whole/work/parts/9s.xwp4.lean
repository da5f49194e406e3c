/-! printed by wip/am/mk9s.py: the reader makes types equal -/
theorem w90_0 {d : Nat} {B : aH} {Q : aR → Prop} (hB : a_Can B) (hd : 1 ≤ d) (x1 x2 : Int) (s : Nat → Nat → Int32) (l : Nat → Nat → Int64) (w : (inR x1 ∧ ((x1 < 0 → a_W d 90 8 [.ref 17, iv x1, iv x2, .retAddr 0, .retAddr 0] [] (mkH B s l) Q) ∧ (0 ≤ x1 → (inR x2 ∧ ((0 ≤ x2 → a_W (d - 1) 51 0 [.ref 17, iv x1, .retAddr 0, .retAddr 0] [] (mkH B s l) (fun r => ∃ (v7 : Int) (s5 : Nat → Nat → Int32) (l6 : Nat → Nat → Int64), r = (.inl (some (iv v7)), mkH B s5 l6) ∧ a_W (d - 1) 51 0 [.ref 17, iv x2, .retAddr 0, .retAddr 0] [] (mkH B s5 l6) (fun r => ∃ (v10 : Int) (s8 : Nat → Nat → Int32) (l9 : Nat → Nat → Int64), r = (.inl (some (iv v10)), mkH B s8 l9) ∧ (inR v7 ∧ inR v10 ∧ ((v7 ≠ v10 → ((0 ≤ v7 ∧ v7 < 17000) ∧ (((zz s8 18 v7.toNat) ≠ (-1000000) → ((0 ≤ v10 ∧ v10 < 17000) ∧ (((zz s8 18 v10.toNat) ≠ (-1000000) → (((zz s8 18 v7.toNat) = (zz s8 18 v10.toNat) → (((zz s8 19 v7.toNat) < 0 → a_W d 90 145 [.ref 17, iv x1, iv x2, iv v7, iv v10] [] (mkH B (zu s8 21 v7.toNat v10) l9) Q) ∧ (0 ≤ (zz s8 19 v7.toNat) → ((17000 ≤ (zz s8 17 7) → a_W d 90 145 [.ref 17, iv x1, iv x2, iv v7, iv v10] [] (mkH B (zu s8 21 v7.toNat v10) l9) Q) ∧ ((zz s8 17 7) < 17000 → ((0 ≤ (zz s8 17 7) ∧ (zz s8 17 7) < 17000) ∧ a_W d 90 145 [.ref 17, iv x1, iv x2, iv v7, iv v10] [] (mkH B (zu (zu (zu s8 21 v7.toNat v10) 24 (zz s8 17 7).toNat v7) 17 7 ((zz s8 17 7) + 1)) l9) Q)))))) ∧ ((zz s8 18 v7.toNat) ≠ (zz s8 18 v10.toNat) → a_W d 90 145 [.ref 17, iv x1, iv x2, iv v7, iv v10] [] (mkH B (zu s8 17 10 1) l9) Q))) ∧ ((zz s8 18 v10.toNat) = (-1000000) → a_W d 90 145 [.ref 17, iv x1, iv x2, iv v7, iv v10] [] (mkH B (zu s8 21 v10.toNat v7) l9) Q)))) ∧ ((zz s8 18 v7.toNat) = (-1000000) → a_W d 90 145 [.ref 17, iv x1, iv x2, iv v7, iv v10] [] (mkH B (zu s8 21 v7.toNat v10) l9) Q)))) ∧ (v7 = v10 → Q (.inl none, (mkH B s8 l9)))))))) ∧ (x2 < 0 → a_W d 90 8 [.ref 17, iv x1, iv x2, .retAddr 0, .retAddr 0] [] (mkH B s l) Q))))))) : a_W d 90 0 [.ref 17, iv x1, iv x2, .retAddr 0, .retAddr 0] [] (mkH B s l) Q := by
  refine w_iln (p := 1) (q90 0) rfl rfl ?_
  obtain ⟨h1, w⟩ := w
  by_cases c2 : x1 < 0
  · replace w := w.1 c2
    refine w_i1t (q90 1) h1 c2 ?_
    exact w
  · replace w := w.2 (Int.not_lt.mp c2)
    refine w_i1f (p := 4) (q90 1) rfl h1 c2 ?_
    refine w_iln (p := 5) (q90 4) rfl rfl ?_
    obtain ⟨h3, w⟩ := w
    by_cases c4 : 0 ≤ x2
    · replace w := w.1 c4
      refine w_i1t (q90 5) h3 c4 ?_
      refine w_aln (p := 10) (q90 9) rfl rfl ?_
      refine w_iln (p := 11) (q90 10) rfl rfl ?_
      refine w_call (st := []) (as := [.ref 17, iv x1]) (as' := [iv x1, .ref 17]) (p := 14) (q90 11) rfl m51 (by decide) (a_ok_i rfl (r17 hB) rfl) rfl rfl (Nat.le_of_ble_eq_true rfl) (by omega) rfl rfl (a_W.imp w ?_)
      rintro _ ⟨v7, s5, l6, rfl, w⟩
      refine ⟨some (iv v7), _, rfl, ?_⟩
      show a_W _ 90 14 [.ref 17, iv x1, iv x2, .retAddr 0, .retAddr 0] [iv v7] (mkH B s5 l6) _
      refine w_isn (p := 15) (ls' := [.ref 17, iv x1, iv x2, iv v7, .retAddr 0]) (q90 14) rfl (Nat.le_of_ble_eq_true rfl) rfl ?_
      refine w_aln (p := 16) (q90 15) rfl rfl ?_
      refine w_iln (p := 17) (q90 16) rfl rfl ?_
      refine w_call (st := []) (as := [.ref 17, iv x2]) (as' := [iv x2, .ref 17]) (p := 20) (q90 17) rfl m51 (by decide) (a_ok_i rfl (r17 hB) rfl) rfl rfl (Nat.le_of_ble_eq_true rfl) (by omega) rfl rfl (a_W.imp w ?_)
      rintro _ ⟨v10, s8, l9, rfl, w⟩
      refine ⟨some (iv v10), _, rfl, ?_⟩
      show a_W _ 90 20 [.ref 17, iv x1, iv x2, iv v7, .retAddr 0] [iv v10] (mkH B s8 l9) _
      refine w_is (p := 22) (ls' := [.ref 17, iv x1, iv x2, iv v7, iv v10]) (q90 20) rfl (Nat.le_of_ble_eq_true rfl) rfl ?_
      refine w_iln (p := 23) (q90 22) rfl rfl ?_
      refine w_il (p := 25) (q90 23) rfl rfl ?_
      obtain ⟨h11, w⟩ := w
      obtain ⟨h12, w⟩ := w
      by_cases c13 : v7 ≠ v10
      · replace w := w.1 c13
        refine w_i2t (q90 25) h11 h12 c13 ?_
        refine w_aln (p := 30) (q90 29) rfl rfl ?_
        refine w_gR (p := 33) (j := 0) (v := 18) (q90 30) rfl (r17 hB) (by decide) (f17_0 hB) ?_
        refine w_iln (p := 34) (q90 33) rfl rfl ?_
        obtain ⟨o14, w⟩ := w
        refine w_ia (p := 35) (v := (zz s8 18 v7.toNat)) (q90 34) rfl (r18 hB) (by decide) o14 (iv_zz s8 18 v7.toNat) ?_
        refine w_ldc (p := 37) (n := (-1000000)) (q90 35) rfl (by decide) ?_
        by_cases c15 : (zz s8 18 v7.toNat) ≠ (-1000000)
        · replace w := w.1 c15
          refine w_i2t (q90 37) (inR_zz _ _ _) (by decide) c15 ?_
          refine w_aln (p := 52) (q90 51) rfl rfl ?_
          refine w_gR (p := 55) (j := 0) (v := 18) (q90 52) rfl (r17 hB) (by decide) (f17_0 hB) ?_
          refine w_il (p := 57) (q90 55) rfl rfl ?_
          obtain ⟨o16, w⟩ := w
          refine w_ia (p := 58) (v := (zz s8 18 v10.toNat)) (q90 57) rfl (r18 hB) (by decide) o16 (iv_zz s8 18 v10.toNat) ?_
          refine w_ldc (p := 60) (n := (-1000000)) (q90 58) rfl (by decide) ?_
          by_cases c17 : (zz s8 18 v10.toNat) ≠ (-1000000)
          · replace w := w.1 c17
            refine w_i2t (q90 60) (inR_zz _ _ _) (by decide) c17 ?_
            refine w_aln (p := 75) (q90 74) rfl rfl ?_
            refine w_gR (p := 78) (j := 0) (v := 18) (q90 75) rfl (r17 hB) (by decide) (f17_0 hB) ?_
            refine w_iln (p := 79) (q90 78) rfl rfl ?_
            refine w_ia (p := 80) (v := (zz s8 18 v7.toNat)) (q90 79) rfl (r18 hB) (by decide) o14 (iv_zz s8 18 v7.toNat) ?_
            refine w_aln (p := 81) (q90 80) rfl rfl ?_
            refine w_gR (p := 84) (j := 0) (v := 18) (q90 81) rfl (r17 hB) (by decide) (f17_0 hB) ?_
            refine w_il (p := 86) (q90 84) rfl rfl ?_
            refine w_ia (p := 87) (v := (zz s8 18 v10.toNat)) (q90 86) rfl (r18 hB) (by decide) o16 (iv_zz s8 18 v10.toNat) ?_
            by_cases c18 : (zz s8 18 v7.toNat) = (zz s8 18 v10.toNat)
            · replace w := w.1 c18
              refine w_i2t (q90 87) (inR_zz _ _ _) (inR_zz _ _ _) c18 ?_
              refine w_aln (p := 99) (q90 98) rfl rfl ?_
              refine w_gR (p := 102) (j := 3) (v := 21) (q90 99) rfl (r17 hB) (by decide) (f17_3 hB) ?_
              refine w_iln (p := 103) (q90 102) rfl rfl ?_
              refine w_il (p := 105) (q90 103) rfl rfl ?_
              refine w_ias (p := 106) (q90 105) rfl (r21 hB) (by decide) o14 ?_
              refine w_aln (p := 107) (q90 106) rfl rfl ?_
              refine w_gR (p := 110) (j := 1) (v := 19) (q90 107) rfl (r17 hB) (by decide) (f17_1 hB) ?_
              refine w_iln (p := 111) (q90 110) rfl rfl ?_
              refine w_ia (p := 112) (v := (zz s8 19 v7.toNat)) (q90 111) rfl (r19 hB) (by decide) o14 (iv_zz s8 19 v7.toNat) ?_
              by_cases c19 : (zz s8 19 v7.toNat) < 0
              · replace w := w.1 c19
                refine w_i1t (q90 112) (inR_zz _ _ _) c19 ?_
                exact w
              · replace w := w.2 (Int.not_lt.mp c19)
                refine w_i1f (p := 115) (q90 112) rfl (inR_zz _ _ _) c19 ?_
                refine w_aln (p := 116) (q90 115) rfl rfl ?_
                refine w_gI (p := 119) (j := 7) (v := (zz s8 17 7)) (q90 116) rfl (r17 hB) (by decide) (iv_zz s8 17 7) ?_
                refine w_sp (p := 122) (q90 119) rfl (by decide) ?_
                by_cases c20 : 17000 ≤ (zz s8 17 7)
                · replace w := w.1 c20
                  refine w_i2t (q90 122) (inR_zz _ _ _) (by decide) c20 ?_
                  exact w
                · replace w := w.2 (Int.not_le.mp c20)
                  refine w_i2f (p := 125) (q90 122) rfl (inR_zz _ _ _) (by decide) c20 ?_
                  refine w_aln (p := 126) (q90 125) rfl rfl ?_
                  refine w_gR (p := 129) (j := 6) (v := 24) (q90 126) rfl (r17 hB) (by decide) (f17_6 hB) ?_
                  refine w_aln (p := 130) (q90 129) rfl rfl ?_
                  refine w_gI (p := 133) (j := 7) (v := (zz s8 17 7)) (q90 130) rfl (r17 hB) (by decide) (iv_zz s8 17 7) ?_
                  refine w_iln (p := 134) (q90 133) rfl rfl ?_
                  obtain ⟨o21, w⟩ := w
                  refine w_ias (p := 135) (q90 134) rfl (r24 hB) (by decide) o21 ?_
                  refine w_aln (p := 136) (q90 135) rfl rfl ?_
                  refine w_dupr (p := 137) (q90 136) rfl ?_
                  refine w_gI (p := 140) (j := 7) (v := (zz s8 17 7)) (q90 137) rfl (r17 hB) (by decide) (iv_zz s8 17 7) ?_
                  refine w_ic (p := 141) (q90 140) rfl ?_
                  refine w_add (p := 142) (q90 141) rfl ?_
                  refine w_pI (p := 145) (j := 7) (q90 142) rfl (r17 hB) (by decide) rfl ?_
                  exact w
            · replace w := w.2 c18
              refine w_i2f (p := 90) (q90 87) rfl (inR_zz _ _ _) (inR_zz _ _ _) c18 ?_
              refine w_aln (p := 91) (q90 90) rfl rfl ?_
              refine w_ic (p := 92) (q90 91) rfl ?_
              refine w_pI (p := 95) (j := 10) (q90 92) rfl (r17 hB) (by decide) rfl ?_
              refine w_goto (q90 95) ?_
              exact w
          · replace w := w.2 (Decidable.not_not.mp c17)
            refine w_i2f (p := 63) (q90 60) rfl (inR_zz _ _ _) (by decide) c17 ?_
            refine w_aln (p := 64) (q90 63) rfl rfl ?_
            refine w_gR (p := 67) (j := 3) (v := 21) (q90 64) rfl (r17 hB) (by decide) (f17_3 hB) ?_
            refine w_il (p := 69) (q90 67) rfl rfl ?_
            refine w_iln (p := 70) (q90 69) rfl rfl ?_
            refine w_ias (p := 71) (q90 70) rfl (r21 hB) (by decide) o16 ?_
            refine w_goto (q90 71) ?_
            exact w
        · replace w := w.2 (Decidable.not_not.mp c15)
          refine w_i2f (p := 40) (q90 37) rfl (inR_zz _ _ _) (by decide) c15 ?_
          refine w_aln (p := 41) (q90 40) rfl rfl ?_
          refine w_gR (p := 44) (j := 3) (v := 21) (q90 41) rfl (r17 hB) (by decide) (f17_3 hB) ?_
          refine w_iln (p := 45) (q90 44) rfl rfl ?_
          refine w_il (p := 47) (q90 45) rfl rfl ?_
          refine w_ias (p := 48) (q90 47) rfl (r21 hB) (by decide) o14 ?_
          refine w_goto (q90 48) ?_
          exact w
      · replace w := w.2 (Decidable.not_not.mp c13)
        refine w_i2f (p := 28) (q90 25) rfl h11 h12 c13 ?_
        exact w_rv (q90 28) rfl w
    · replace w := w.2 (Int.not_le.mp c4)
      refine w_i1f (p := 8) (q90 5) rfl h3 c4 ?_
      exact w
theorem w90_8 {d : Nat} {B : aH} {Q : aR → Prop} (hB : a_Can B) (x1 x2 : Int) (s : Nat → Nat → Int32) (l : Nat → Nat → Int64) (w : Q (.inl none, (mkH B s l))) : a_W d 90 8 [.ref 17, iv x1, iv x2, .retAddr 0, .retAddr 0] [] (mkH B s l) Q := by
  exact w_rv (q90 8) rfl w
theorem w90_145 {d : Nat} {B : aH} {Q : aR → Prop} (hB : a_Can B) (x1 x2 x3 x4 : Int) (s : Nat → Nat → Int32) (l : Nat → Nat → Int64) (w : Q (.inl none, (mkH B s l))) : a_W d 90 145 [.ref 17, iv x1, iv x2, iv x3, iv x4] [] (mkH B s l) Q := by
  exact w_rv (q90 145) rfl w
theorem w89_0 {d : Nat} {B : aH} {Q : aR → Prop} (hB : a_Can B) (hd : 1 ≤ d) (x1 x2 : Int) (s : Nat → Nat → Int32) (l : Nat → Nat → Int64) (w : a_W (d - 1) 90 0 [.ref 17, iv x1, iv x2, .retAddr 0, .retAddr 0] [] (mkH B (zu s 17 7 0) l) (fun r => ∃ (s1 : Nat → Nat → Int32) (l2 : Nat → Nat → Int64), r = (.inl none, mkH B s1 l2) ∧ a_W d 89 13 [.ref 17, iv x1, iv x2, iv 0, .retAddr 0, .retAddr 0] [] (mkH B s1 l2) Q)) : a_W d 89 0 [.ref 17, iv x1, iv x2, .retAddr 0, .retAddr 0, .retAddr 0] [] (mkH B s l) Q := by
  refine w_aln (p := 1) (q89 0) rfl rfl ?_
  refine w_ic (p := 2) (q89 1) rfl ?_
  refine w_pI (p := 5) (j := 7) (q89 2) rfl (r17 hB) (by decide) rfl ?_
  refine w_aln (p := 6) (q89 5) rfl rfl ?_
  refine w_iln (p := 7) (q89 6) rfl rfl ?_
  refine w_iln (p := 8) (q89 7) rfl rfl ?_
  refine w_call (st := []) (as := [.ref 17, iv x1, iv x2]) (as' := [iv x2, iv x1, .ref 17]) (p := 11) (q89 8) rfl m90 (by decide) (a_ok_i rfl (r17 hB) rfl) rfl rfl (Nat.le_of_ble_eq_true rfl) (by omega) rfl rfl (a_W.imp w ?_)
  rintro _ ⟨s1, l2, rfl, w⟩
  refine ⟨none, _, rfl, ?_⟩
  show a_W _ 89 11 [.ref 17, iv x1, iv x2, .retAddr 0, .retAddr 0, .retAddr 0] [] (mkH B s1 l2) _
  refine w_ic (p := 12) (q89 11) rfl ?_
  refine w_isn (p := 13) (ls' := [.ref 17, iv x1, iv x2, iv 0, .retAddr 0, .retAddr 0]) (q89 12) rfl (Nat.le_of_ble_eq_true rfl) rfl ?_
  exact w
theorem w89_13 {d : Nat} {B : aH} {Q : aR → Prop} (hB : a_Can B) (hd : 1 ≤ d) (x1 x2 x3 : Int) (u4 u5 : Value) (s : Nat → Nat → Int32) (l : Nat → Nat → Int64) (w : (inR x3 ∧ ((17000 ≤ x3 → a_W d 89 105 [.ref 17, iv x1, iv x2, iv x3, u4, u5] [] (mkH B s l) Q) ∧ (x3 < 17000 → (((zz s 17 7) ≤ 0 → a_W d 89 105 [.ref 17, iv x1, iv x2, iv x3, u4, u5] [] (mkH B s l) Q) ∧ (0 < (zz s 17 7) → (((zz s 17 10) ≠ 0 → a_W d 89 105 [.ref 17, iv x1, iv x2, iv x3, u4, u5] [] (mkH B s l) Q) ∧ ((zz s 17 10) = 0 → ((0 ≤ ((zz s 17 7) - 1) ∧ ((zz s 17 7) - 1) < 17000) ∧ a_W (d - 1) 51 0 [.ref 17, iv (zz s 24 ((zz s 17 7) - 1).toNat), .retAddr 0, .retAddr 0] [] (mkH B (zu s 17 7 ((zz s 17 7) - 1)) l) (fun r => ∃ (v8 : Int) (s6 : Nat → Nat → Int32) (l7 : Nat → Nat → Int64), r = (.inl (some (iv v8)), mkH B s6 l7) ∧ ((0 ≤ (zz s 24 ((zz s 17 7) - 1).toNat) ∧ (zz s 24 ((zz s 17 7) - 1).toNat) < 17000) ∧ ((0 ≤ v8 ∧ v8 < 17000) ∧ a_W (d - 1) 90 0 [.ref 17, iv (zz s6 19 (zz s 24 ((zz s 17 7) - 1).toNat).toNat), iv (zz s6 19 v8.toNat), .retAddr 0, .retAddr 0] [] (mkH B s6 l7) (fun r => ∃ (s11 : Nat → Nat → Int32) (l12 : Nat → Nat → Int64), r = (.inl none, mkH B s11 l12) ∧ a_W (d - 1) 90 0 [.ref 17, iv (zz s11 20 (zz s 24 ((zz s 17 7) - 1).toNat).toNat), iv (zz s11 20 v8.toNat), .retAddr 0, .retAddr 0] [] (mkH B s11 l12) (fun r => ∃ (s13 : Nat → Nat → Int32) (l14 : Nat → Nat → Int64), r = (.inl none, mkH B s13 l14) ∧ a_W d 89 13 [.ref 17, iv x1, iv x2, iv (x3 + 1), iv (zz s 24 ((zz s 17 7) - 1).toNat), iv v8] [] (mkH B s13 l14) Q)))))))))))))) : a_W d 89 13 [.ref 17, iv x1, iv x2, iv x3, u4, u5] [] (mkH B s l) Q := by
  refine w_iln (p := 14) (q89 13) rfl rfl ?_
  refine w_sp (p := 17) (q89 14) rfl (by decide) ?_
  obtain ⟨h1, w⟩ := w
  by_cases c2 : 17000 ≤ x3
  · replace w := w.1 c2
    refine w_i2t (q89 17) h1 (by decide) c2 ?_
    exact w
  · replace w := w.2 (Int.not_le.mp c2)
    refine w_i2f (p := 20) (q89 17) rfl h1 (by decide) c2 ?_
    refine w_aln (p := 21) (q89 20) rfl rfl ?_
    refine w_gI (p := 24) (j := 7) (v := (zz s 17 7)) (q89 21) rfl (r17 hB) (by decide) (iv_zz s 17 7) ?_
    by_cases c3 : (zz s 17 7) ≤ 0
    · replace w := w.1 c3
      refine w_i1t (q89 24) (inR_zz _ _ _) c3 ?_
      exact w
    · replace w := w.2 (Int.not_le.mp c3)
      refine w_i1f (p := 27) (q89 24) rfl (inR_zz _ _ _) c3 ?_
      refine w_aln (p := 28) (q89 27) rfl rfl ?_
      refine w_gI (p := 31) (j := 10) (v := (zz s 17 10)) (q89 28) rfl (r17 hB) (by decide) (iv_zz s 17 10) ?_
      by_cases c4 : (zz s 17 10) ≠ 0
      · replace w := w.1 c4
        refine w_i1t (q89 31) (inR_zz _ _ _) c4 ?_
        exact w
      · replace w := w.2 (Decidable.not_not.mp c4)
        refine w_i1f (p := 34) (q89 31) rfl (inR_zz _ _ _) c4 ?_
        refine w_aln (p := 35) (q89 34) rfl rfl ?_
        refine w_dupr (p := 36) (q89 35) rfl ?_
        refine w_gI (p := 39) (j := 7) (v := (zz s 17 7)) (q89 36) rfl (r17 hB) (by decide) (iv_zz s 17 7) ?_
        refine w_ic (p := 40) (q89 39) rfl ?_
        refine w_sub (p := 41) (q89 40) rfl ?_
        refine w_pI (p := 44) (j := 7) (q89 41) rfl (r17 hB) (by decide) rfl ?_
        refine w_aln (p := 45) (q89 44) rfl rfl ?_
        refine w_gR (p := 48) (j := 6) (v := 24) (q89 45) rfl (r17 hB) (by decide) (f17_6 hB) ?_
        refine w_aln (p := 49) (q89 48) rfl rfl ?_
        refine w_gI (p := 52) (j := 7) (v := ((zz s 17 7) - 1)) (q89 49) rfl (r17 hB) (by decide) rfl ?_
        obtain ⟨o5, w⟩ := w
        refine w_ia (p := 53) (v := (zz s 24 ((zz s 17 7) - 1).toNat)) (q89 52) rfl (r24 hB) (by decide) o5 (iv_zz s 24 ((zz s 17 7) - 1).toNat) ?_
        refine w_is (p := 55) (ls' := [.ref 17, iv x1, iv x2, iv x3, iv (zz s 24 ((zz s 17 7) - 1).toNat), u5]) (q89 53) rfl (Nat.le_of_ble_eq_true rfl) rfl ?_
        refine w_aln (p := 56) (q89 55) rfl rfl ?_
        refine w_il (p := 58) (q89 56) rfl rfl ?_
        refine w_call (st := []) (as := [.ref 17, iv (zz s 24 ((zz s 17 7) - 1).toNat)]) (as' := [iv (zz s 24 ((zz s 17 7) - 1).toNat), .ref 17]) (p := 61) (q89 58) rfl m51 (by decide) (a_ok_i rfl (r17 hB) rfl) rfl rfl (Nat.le_of_ble_eq_true rfl) (by omega) rfl rfl (a_W.imp w ?_)
        rintro _ ⟨v8, s6, l7, rfl, w⟩
        refine ⟨some (iv v8), _, rfl, ?_⟩
        show a_W _ 89 61 [.ref 17, iv x1, iv x2, iv x3, iv (zz s 24 ((zz s 17 7) - 1).toNat), u5] [iv v8] (mkH B s6 l7) _
        refine w_is (p := 63) (ls' := [.ref 17, iv x1, iv x2, iv x3, iv (zz s 24 ((zz s 17 7) - 1).toNat), iv v8]) (q89 61) rfl (Nat.le_of_ble_eq_true rfl) rfl ?_
        refine w_aln (p := 64) (q89 63) rfl rfl ?_
        refine w_aln (p := 65) (q89 64) rfl rfl ?_
        refine w_gR (p := 68) (j := 1) (v := 19) (q89 65) rfl (r17 hB) (by decide) (f17_1 hB) ?_
        refine w_il (p := 70) (q89 68) rfl rfl ?_
        obtain ⟨o9, w⟩ := w
        refine w_ia (p := 71) (v := (zz s6 19 (zz s 24 ((zz s 17 7) - 1).toNat).toNat)) (q89 70) rfl (r19 hB) (by decide) o9 (iv_zz s6 19 (zz s 24 ((zz s 17 7) - 1).toNat).toNat) ?_
        refine w_aln (p := 72) (q89 71) rfl rfl ?_
        refine w_gR (p := 75) (j := 1) (v := 19) (q89 72) rfl (r17 hB) (by decide) (f17_1 hB) ?_
        refine w_il (p := 77) (q89 75) rfl rfl ?_
        obtain ⟨o10, w⟩ := w
        refine w_ia (p := 78) (v := (zz s6 19 v8.toNat)) (q89 77) rfl (r19 hB) (by decide) o10 (iv_zz s6 19 v8.toNat) ?_
        refine w_call (st := []) (as := [.ref 17, iv (zz s6 19 (zz s 24 ((zz s 17 7) - 1).toNat).toNat), iv (zz s6 19 v8.toNat)]) (as' := [iv (zz s6 19 v8.toNat), iv (zz s6 19 (zz s 24 ((zz s 17 7) - 1).toNat).toNat), .ref 17]) (p := 81) (q89 78) rfl m90 (by decide) (a_ok_i rfl (r17 hB) rfl) rfl rfl (Nat.le_of_ble_eq_true rfl) (by omega) rfl rfl (a_W.imp w ?_)
        rintro _ ⟨s11, l12, rfl, w⟩
        refine ⟨none, _, rfl, ?_⟩
        show a_W _ 89 81 [.ref 17, iv x1, iv x2, iv x3, iv (zz s 24 ((zz s 17 7) - 1).toNat), iv v8] [] (mkH B s11 l12) _
        refine w_aln (p := 82) (q89 81) rfl rfl ?_
        refine w_aln (p := 83) (q89 82) rfl rfl ?_
        refine w_gR (p := 86) (j := 2) (v := 20) (q89 83) rfl (r17 hB) (by decide) (f17_2 hB) ?_
        refine w_il (p := 88) (q89 86) rfl rfl ?_
        refine w_ia (p := 89) (v := (zz s11 20 (zz s 24 ((zz s 17 7) - 1).toNat).toNat)) (q89 88) rfl (r20 hB) (by decide) o9 (iv_zz s11 20 (zz s 24 ((zz s 17 7) - 1).toNat).toNat) ?_
        refine w_aln (p := 90) (q89 89) rfl rfl ?_
        refine w_gR (p := 93) (j := 2) (v := 20) (q89 90) rfl (r17 hB) (by decide) (f17_2 hB) ?_
        refine w_il (p := 95) (q89 93) rfl rfl ?_
        refine w_ia (p := 96) (v := (zz s11 20 v8.toNat)) (q89 95) rfl (r20 hB) (by decide) o10 (iv_zz s11 20 v8.toNat) ?_
        refine w_call (st := []) (as := [.ref 17, iv (zz s11 20 (zz s 24 ((zz s 17 7) - 1).toNat).toNat), iv (zz s11 20 v8.toNat)]) (as' := [iv (zz s11 20 v8.toNat), iv (zz s11 20 (zz s 24 ((zz s 17 7) - 1).toNat).toNat), .ref 17]) (p := 99) (q89 96) rfl m90 (by decide) (a_ok_i rfl (r17 hB) rfl) rfl rfl (Nat.le_of_ble_eq_true rfl) (by omega) rfl rfl (a_W.imp w ?_)
        rintro _ ⟨s13, l14, rfl, w⟩
        refine ⟨none, _, rfl, ?_⟩
        show a_W _ 89 99 [.ref 17, iv x1, iv x2, iv x3, iv (zz s 24 ((zz s 17 7) - 1).toNat), iv v8] [] (mkH B s13 l14) _
        refine w_inc (p := 102) (ls' := [.ref 17, iv x1, iv x2, iv (x3 + 1), iv (zz s 24 ((zz s 17 7) - 1).toNat), iv v8]) (q89 99) rfl rfl rfl ?_
        refine w_goto (q89 102) ?_
        exact w
theorem w89_105 {d : Nat} {B : aH} {Q : aR → Prop} (hB : a_Can B) (x1 x2 x3 : Int) (u4 u5 : Value) (s : Nat → Nat → Int32) (l : Nat → Nat → Int64) (w : Q (.inl none, (mkH B s l))) : a_W d 89 105 [.ref 17, iv x1, iv x2, iv x3, u4, u5] [] (mkH B s l) Q := by
  exact w_rv (q89 105) rfl w
theorem w88_0 {d : Nat} {B : aH} {Q : aR → Prop} (hB : a_Can B) (hd : 1 ≤ d) (x1 x2 : Int) (s : Nat → Nat → Int32) (l : Nat → Nat → Int64) (w : a_W (d - 1) 51 0 [.ref 17, iv x1, .retAddr 0, .retAddr 0] [] (mkH B s l) (fun r => ∃ (v3 : Int) (s1 : Nat → Nat → Int32) (l2 : Nat → Nat → Int64), r = (.inl (some (iv v3)), mkH B s1 l2) ∧ ((0 ≤ v3 ∧ v3 < 17000) ∧ (((zz s1 18 v3.toNat) ≠ 2 → a_W (d - 1) 47 0 [.ref 17] [] (mkH B s1 l2) (fun r => ∃ (v8 : Int) (s6 : Nat → Nat → Int32) (l7 : Nat → Nat → Int64), r = (.inl (some (iv v8)), mkH B s6 l7) ∧ a_W (d - 1) 74 0 [.ref 17, iv x2, iv v8] [] (mkH B s6 l7) (fun r => ∃ (v11 : Int) (s9 : Nat → Nat → Int32) (l10 : Nat → Nat → Int64), r = (.inl (some (iv v11)), mkH B s9 l10) ∧ a_W (d - 1) 89 0 [.ref 17, iv v3, iv v11, .retAddr 0, .retAddr 0, .retAddr 0] [] (mkH B s9 l10) (fun r => ∃ (s12 : Nat → Nat → Int32) (l13 : Nat → Nat → Int64), r = (.inl none, mkH B s12 l13) ∧ Q (.inl (some (iv v8)), (mkH B s12 l13)))))) ∧ ((zz s1 18 v3.toNat) = 2 → a_W (d - 1) 89 0 [.ref 17, iv (zz s1 19 v3.toNat), iv x2, .retAddr 0, .retAddr 0, .retAddr 0] [] (mkH B s1 l2) (fun r => ∃ (s14 : Nat → Nat → Int32) (l15 : Nat → Nat → Int64), r = (.inl none, mkH B s14 l15) ∧ Q (.inl (some (iv (zz s14 20 v3.toNat))), (mkH B s14 l15)))))))) : a_W d 88 0 [.ref 17, iv x1, iv x2, .retAddr 0, .retAddr 0] [] (mkH B s l) Q := by
  refine w_aln (p := 1) (q88 0) rfl rfl ?_
  refine w_iln (p := 2) (q88 1) rfl rfl ?_
  refine w_call (st := []) (as := [.ref 17, iv x1]) (as' := [iv x1, .ref 17]) (p := 5) (q88 2) rfl m51 (by decide) (a_ok_i rfl (r17 hB) rfl) rfl rfl (Nat.le_of_ble_eq_true rfl) (by omega) rfl rfl (a_W.imp w ?_)
  rintro _ ⟨v3, s1, l2, rfl, w⟩
  refine ⟨some (iv v3), _, rfl, ?_⟩
  show a_W _ 88 5 [.ref 17, iv x1, iv x2, .retAddr 0, .retAddr 0] [iv v3] (mkH B s1 l2) _
  refine w_isn (p := 6) (ls' := [.ref 17, iv x1, iv x2, iv v3, .retAddr 0]) (q88 5) rfl (Nat.le_of_ble_eq_true rfl) rfl ?_
  refine w_aln (p := 7) (q88 6) rfl rfl ?_
  refine w_gR (p := 10) (j := 0) (v := 18) (q88 7) rfl (r17 hB) (by decide) (f17_0 hB) ?_
  refine w_iln (p := 11) (q88 10) rfl rfl ?_
  obtain ⟨o4, w⟩ := w
  refine w_ia (p := 12) (v := (zz s1 18 v3.toNat)) (q88 11) rfl (r18 hB) (by decide) o4 (iv_zz s1 18 v3.toNat) ?_
  refine w_ic (p := 13) (q88 12) rfl ?_
  by_cases c5 : (zz s1 18 v3.toNat) ≠ 2
  · replace w := w.1 c5
    refine w_i2t (q88 13) (inR_zz _ _ _) (by decide) c5 ?_
    refine w_aln (p := 35) (q88 34) rfl rfl ?_
    refine w_call (st := []) (as := [.ref 17]) (as' := [.ref 17]) (p := 38) (q88 35) rfl m47 (by decide) (a_ok_i rfl (r17 hB) rfl) rfl rfl (Nat.le_of_ble_eq_true rfl) (by omega) rfl rfl (a_W.imp w ?_)
    rintro _ ⟨v8, s6, l7, rfl, w⟩
    refine ⟨some (iv v8), _, rfl, ?_⟩
    show a_W _ 88 38 [.ref 17, iv x1, iv x2, iv v3, .retAddr 0] [iv v8] (mkH B s6 l7) _
    refine w_is (p := 40) (ls' := [.ref 17, iv x1, iv x2, iv v3, iv v8]) (q88 38) rfl (Nat.le_of_ble_eq_true rfl) rfl ?_
    refine w_aln (p := 41) (q88 40) rfl rfl ?_
    refine w_iln (p := 42) (q88 41) rfl rfl ?_
    refine w_aln (p := 43) (q88 42) rfl rfl ?_
    refine w_iln (p := 44) (q88 43) rfl rfl ?_
    refine w_il (p := 46) (q88 44) rfl rfl ?_
    refine w_call (st := [iv v3, .ref 17]) (as := [.ref 17, iv x2, iv v8]) (as' := [iv v8, iv x2, .ref 17]) (p := 49) (q88 46) rfl m74 (by decide) (a_ok_i rfl (r17 hB) rfl) rfl rfl (Nat.le_of_ble_eq_true rfl) (by omega) rfl rfl (a_W.imp w ?_)
    rintro _ ⟨v11, s9, l10, rfl, w⟩
    refine ⟨some (iv v11), _, rfl, ?_⟩
    show a_W _ 88 49 [.ref 17, iv x1, iv x2, iv v3, iv v8] [iv v11, iv v3, .ref 17] (mkH B s9 l10) _
    refine w_call (st := []) (as := [.ref 17, iv v3, iv v11]) (as' := [iv v11, iv v3, .ref 17]) (p := 52) (q88 49) rfl m89 (by decide) (a_ok_i rfl (r17 hB) rfl) rfl rfl (Nat.le_of_ble_eq_true rfl) (by omega) rfl rfl (a_W.imp w ?_)
    rintro _ ⟨s12, l13, rfl, w⟩
    refine ⟨none, _, rfl, ?_⟩
    show a_W _ 88 52 [.ref 17, iv x1, iv x2, iv v3, iv v8] [] (mkH B s12 l13) _
    refine w_il (p := 54) (q88 52) rfl rfl ?_
    exact w_ret (q88 54) rfl w
  · replace w := w.2 (Decidable.not_not.mp c5)
    refine w_i2f (p := 16) (q88 13) rfl (inR_zz _ _ _) (by decide) c5 ?_
    refine w_aln (p := 17) (q88 16) rfl rfl ?_
    refine w_aln (p := 18) (q88 17) rfl rfl ?_
    refine w_gR (p := 21) (j := 1) (v := 19) (q88 18) rfl (r17 hB) (by decide) (f17_1 hB) ?_
    refine w_iln (p := 22) (q88 21) rfl rfl ?_
    refine w_ia (p := 23) (v := (zz s1 19 v3.toNat)) (q88 22) rfl (r19 hB) (by decide) o4 (iv_zz s1 19 v3.toNat) ?_
    refine w_iln (p := 24) (q88 23) rfl rfl ?_
    refine w_call (st := []) (as := [.ref 17, iv (zz s1 19 v3.toNat), iv x2]) (as' := [iv x2, iv (zz s1 19 v3.toNat), .ref 17]) (p := 27) (q88 24) rfl m89 (by decide) (a_ok_i rfl (r17 hB) rfl) rfl rfl (Nat.le_of_ble_eq_true rfl) (by omega) rfl rfl (a_W.imp w ?_)
    rintro _ ⟨s14, l15, rfl, w⟩
    refine ⟨none, _, rfl, ?_⟩
    show a_W _ 88 27 [.ref 17, iv x1, iv x2, iv v3, .retAddr 0] [] (mkH B s14 l15) _
    refine w_aln (p := 28) (q88 27) rfl rfl ?_
    refine w_gR (p := 31) (j := 2) (v := 20) (q88 28) rfl (r17 hB) (by decide) (f17_2 hB) ?_
    refine w_iln (p := 32) (q88 31) rfl rfl ?_
    refine w_ia (p := 33) (v := (zz s14 20 v3.toNat)) (q88 32) rfl (r20 hB) (by decide) o4 (iv_zz s14 20 v3.toNat) ?_
    exact w_ret (q88 33) rfl w
