/-! printed by wip/am/mk9y.py: a constant's type with new unknown types -/
theorem w85_0 {d : Nat} {B : aH} {Q : aR → Prop} (hB : a_Can B) (x1 x2 x3 : Int) (s : Nat → Nat → Int32) (l : Nat → Nat → Int64) (w : a_W d 85 5 [.ref 25, iv x1, iv x2, iv x3, iv (x2 + 1)] [] (mkH B s l) Q) : a_W d 85 0 [.ref 25, iv x1, iv x2, iv x3, .retAddr 0] [] (mkH B s l) Q := by
  refine w_iln (p := 1) (q85 0) rfl rfl ?_
  refine w_ic (p := 2) (q85 1) rfl ?_
  refine w_add (p := 3) (q85 2) rfl ?_
  refine w_is (p := 5) (ls' := [.ref 25, iv x1, iv x2, iv x3, iv (x2 + 1)]) (q85 3) rfl (Nat.le_of_ble_eq_true rfl) rfl ?_
  exact w
theorem w85_5 {d : Nat} {B : aH} {Q : aR → Prop} (hB : a_Can B) (x1 x2 x3 x4 : Int) (s : Nat → Nat → Int32) (l : Nat → Nat → Int64) (w : (inR x4 ∧ inR x3 ∧ ((x3 ≤ x4 → Q (.inl (some (iv (-1))), (mkH B s l))) ∧ (x4 < x3 → ((0 ≤ x4 ∧ x4 < 4480) ∧ ((0 ≤ x2 ∧ x2 < 4480) ∧ (((zz s 32 x4.toNat) ≠ (zz s 32 x2.toNat) → a_W d 85 5 [.ref 25, iv x1, iv x2, iv x3, iv (x4 + 1)] [] (mkH B s l) Q) ∧ ((zz s 32 x4.toNat) = (zz s 32 x2.toNat) → ((0 ≤ (x4 - x1) ∧ (x4 - x1) < 40) ∧ Q (.inl (some (iv (zz s 34 (x4 - x1).toNat))), (mkH B s l))))))))))) : a_W d 85 5 [.ref 25, iv x1, iv x2, iv x3, iv x4] [] (mkH B s l) Q := by
  refine w_il (p := 7) (q85 5) rfl rfl ?_
  refine w_iln (p := 8) (q85 7) rfl rfl ?_
  obtain ⟨h1, w⟩ := w
  obtain ⟨h2, w⟩ := w
  by_cases c3 : x3 ≤ x4
  · replace w := w.1 c3
    refine w_i2t (q85 8) h1 h2 c3 ?_
    refine w_ic (p := 44) (q85 43) rfl ?_
    exact w_ret (q85 44) rfl w
  · replace w := w.2 (Int.not_le.mp c3)
    refine w_i2f (p := 11) (q85 8) rfl h1 h2 c3 ?_
    refine w_aln (p := 12) (q85 11) rfl rfl ?_
    refine w_gR (p := 15) (j := 1) (v := 32) (q85 12) rfl (r25 hB) (by decide) (f25_1 hB) ?_
    refine w_il (p := 17) (q85 15) rfl rfl ?_
    obtain ⟨o4, w⟩ := w
    refine w_ia (p := 18) (v := (zz s 32 x4.toNat)) (q85 17) rfl (r32 hB) (by decide) o4 (iv_zz s 32 x4.toNat) ?_
    refine w_aln (p := 19) (q85 18) rfl rfl ?_
    refine w_gR (p := 22) (j := 1) (v := 32) (q85 19) rfl (r25 hB) (by decide) (f25_1 hB) ?_
    refine w_iln (p := 23) (q85 22) rfl rfl ?_
    obtain ⟨o5, w⟩ := w
    refine w_ia (p := 24) (v := (zz s 32 x2.toNat)) (q85 23) rfl (r32 hB) (by decide) o5 (iv_zz s 32 x2.toNat) ?_
    by_cases c6 : (zz s 32 x4.toNat) ≠ (zz s 32 x2.toNat)
    · replace w := w.1 c6
      refine w_i2t (q85 24) (inR_zz _ _ _) (inR_zz _ _ _) c6 ?_
      refine w_inc (p := 40) (ls' := [.ref 25, iv x1, iv x2, iv x3, iv (x4 + 1)]) (q85 37) rfl rfl rfl ?_
      refine w_goto (q85 40) ?_
      exact w
    · replace w := w.2 (Decidable.not_not.mp c6)
      refine w_i2f (p := 27) (q85 24) rfl (inR_zz _ _ _) (inR_zz _ _ _) c6 ?_
      refine w_aln (p := 28) (q85 27) rfl rfl ?_
      refine w_gR (p := 31) (j := 3) (v := 34) (q85 28) rfl (r25 hB) (by decide) (f25_3 hB) ?_
      refine w_il (p := 33) (q85 31) rfl rfl ?_
      refine w_iln (p := 34) (q85 33) rfl rfl ?_
      refine w_sub (p := 35) (q85 34) rfl ?_
      obtain ⟨o7, w⟩ := w
      refine w_ia (p := 36) (v := (zz s 34 (x4 - x1).toNat)) (q85 35) rfl (r34 hB) (by decide) o7 (iv_zz s 34 (x4 - x1).toNat) ?_
      exact w_ret (q85 36) rfl w
theorem w84_0 {d : Nat} {B : aH} {Q : aR → Prop} (hB : a_Can B) (x1 : Int) (s : Nat → Nat → Int32) (l : Nat → Nat → Int64) (w : ((0 ≤ x1 ∧ x1 < 112) ∧ a_W d 84 17 [.ref 25, iv x1, iv (x1 * 40), iv 0, iv ((zz s 33 x1.toNat) - 1), .retAddr 0, .retAddr 0, .retAddr 0, .retAddr 0, .retAddr 0] [] (mkH B s l) Q)) : a_W d 84 0 [.ref 25, iv x1, .retAddr 0, .retAddr 0, .retAddr 0, .retAddr 0, .retAddr 0, .retAddr 0, .retAddr 0, .retAddr 0] [] (mkH B s l) Q := by
  refine w_iln (p := 1) (q84 0) rfl rfl ?_
  refine w_bp (p := 3) (q84 1) rfl (by decide) ?_
  refine w_mulz (p := 4) (q84 3) rfl ?_
  refine w_isn (p := 5) (ls' := [.ref 25, iv x1, iv (x1 * 40), .retAddr 0, .retAddr 0, .retAddr 0, .retAddr 0, .retAddr 0, .retAddr 0, .retAddr 0]) (q84 4) rfl (Nat.le_of_ble_eq_true rfl) rfl ?_
  refine w_ic (p := 6) (q84 5) rfl ?_
  refine w_isn (p := 7) (ls' := [.ref 25, iv x1, iv (x1 * 40), iv 0, .retAddr 0, .retAddr 0, .retAddr 0, .retAddr 0, .retAddr 0, .retAddr 0]) (q84 6) rfl (Nat.le_of_ble_eq_true rfl) rfl ?_
  refine w_aln (p := 8) (q84 7) rfl rfl ?_
  refine w_gR (p := 11) (j := 2) (v := 33) (q84 8) rfl (r25 hB) (by decide) (f25_2 hB) ?_
  refine w_iln (p := 12) (q84 11) rfl rfl ?_
  obtain ⟨o1, w⟩ := w
  refine w_ia (p := 13) (v := (zz s 33 x1.toNat)) (q84 12) rfl (r33 hB) (by decide) o1 (iv_zz s 33 x1.toNat) ?_
  refine w_ic (p := 14) (q84 13) rfl ?_
  refine w_sub (p := 15) (q84 14) rfl ?_
  refine w_is (p := 17) (ls' := [.ref 25, iv x1, iv (x1 * 40), iv 0, iv ((zz s 33 x1.toNat) - 1), .retAddr 0, .retAddr 0, .retAddr 0, .retAddr 0, .retAddr 0]) (q84 15) rfl (Nat.le_of_ble_eq_true rfl) rfl ?_
  exact w
theorem w84_17 {d : Nat} {B : aH} {Q : aR → Prop} (hB : a_Can B) (hd : 1 ≤ d) (x1 x2 x3 x4 : Int) (u5 u6 u7 u8 u9 : Value) (s : Nat → Nat → Int32) (l : Nat → Nat → Int64) (w : (inR x4 ∧ inR x2 ∧ ((x4 < x2 → Q (.inl (some (iv (zz s 35 0))), (mkH B s l))) ∧ (x2 ≤ x4 → ((0 ≤ x4 ∧ x4 < 4480) ∧ a_W (d - 1) 70 0 [.ref 9, iv (zz s 32 x4.toNat)] [] (mkH B s l) (fun r => ∃ (v7 : Int) (s5 : Nat → Nat → Int32) (l6 : Nat → Nat → Int64), r = (.inl (some (iv v7)), mkH B s5 l6) ∧ (inR v7 ∧ ((v7 ≤ 0 → a_W d 84 63 [.ref 25, iv x1, iv x2, iv x3, iv x4, iv (zz s 32 x4.toNat), iv v7, u7, u8, u9] [] (mkH B s5 l6) Q) ∧ (0 < v7 → (inR x3 ∧ ((x3 ≤ 0 → a_W d 84 63 [.ref 25, iv x1, iv x2, iv x3, iv x4, iv (zz s 32 x4.toNat), iv v7, u7, u8, u9] [] (mkH B s5 l6) Q) ∧ (0 < x3 → ((0 ≤ (x3 - 1) ∧ (x3 - 1) < 40) ∧ ((v7 ≤ 1 → a_W d 84 88 [.ref 25, iv x1, iv x2, iv x3, iv x4, iv (zz s 32 x4.toNat), iv v7, iv (zz s5 35 (x3 - 1).toNat), u8, u9] [] (mkH B s5 l6) Q) ∧ (1 < v7 → ((x3 ≤ 1 → a_W d 84 88 [.ref 25, iv x1, iv x2, iv x3, iv x4, iv (zz s 32 x4.toNat), iv v7, iv (zz s5 35 (x3 - 1).toNat), u8, u9] [] (mkH B s5 l6) Q) ∧ (1 < x3 → ((0 ≤ (x3 - 2) ∧ (x3 - 2) < 40) ∧ ((0 ≤ (zz s 32 x4.toNat) → a_W (d - 1) 48 0 [.ref 17, iv (zz s 32 x4.toNat), iv (zz s5 35 (x3 - 1).toNat), iv (zz s5 35 (x3 - 2).toNat)] [] (mkH B s5 l6) (fun r => ∃ (v19 : Int) (s17 : Nat → Nat → Int32) (l18 : Nat → Nat → Int64), r = (.inl (some (iv v19)), mkH B s17 l18) ∧ a_W d 84 145 [.ref 25, iv x1, iv x2, iv x3, iv x4, iv (zz s 32 x4.toNat), iv v7, iv (zz s5 35 (x3 - 1).toNat), iv (zz s5 35 (x3 - 2).toNat), iv v19] [] (mkH B s17 l18) Q)) ∧ ((zz s 32 x4.toNat) < 0 → ((0 ≤ x1 ∧ x1 < 112) ∧ a_W (d - 1) 85 0 [.ref 25, iv x2, iv x4, iv (zz s5 33 x1.toNat), .retAddr 0] [] (mkH B s5 l6) (fun r => ∃ (v23 : Int) (s21 : Nat → Nat → Int32) (l22 : Nat → Nat → Int64), r = (.inl (some (iv v23)), mkH B s21 l22) ∧ (inR v23 ∧ ((0 ≤ v23 → a_W d 84 145 [.ref 25, iv x1, iv x2, iv x3, iv x4, iv (zz s 32 x4.toNat), iv v7, iv (zz s5 35 (x3 - 1).toNat), iv (zz s5 35 (x3 - 2).toNat), iv v23] [] (mkH B s21 l22) Q) ∧ (v23 < 0 → a_W (d - 1) 48 0 [.ref 17, iv (-1000000), iv (zz s5 35 (x3 - 1).toNat), iv (zz s5 35 (x3 - 2).toNat)] [] (mkH B s21 l22) (fun r => ∃ (v28 : Int) (s26 : Nat → Nat → Int32) (l27 : Nat → Nat → Int64), r = (.inl (some (iv v28)), mkH B s26 l27) ∧ a_W d 84 145 [.ref 25, iv x1, iv x2, iv x3, iv x4, iv (zz s 32 x4.toNat), iv v7, iv (zz s5 35 (x3 - 1).toNat), iv (zz s5 35 (x3 - 2).toNat), iv v28] [] (mkH B s26 l27) Q)))))))))))))))))))))))))) : a_W d 84 17 [.ref 25, iv x1, iv x2, iv x3, iv x4, u5, u6, u7, u8, u9] [] (mkH B s l) Q := by
  refine w_il (p := 19) (q84 17) rfl rfl ?_
  refine w_iln (p := 20) (q84 19) rfl rfl ?_
  obtain ⟨h1, w⟩ := w
  obtain ⟨h2, w⟩ := w
  by_cases c3 : x4 < x2
  · replace w := w.1 c3
    refine w_i2t (q84 20) h1 h2 c3 ?_
    refine w_aln (p := 183) (q84 182) rfl rfl ?_
    refine w_gR (p := 186) (j := 4) (v := 35) (q84 183) rfl (r25 hB) (by decide) (f25_4 hB) ?_
    refine w_ic (p := 187) (q84 186) rfl ?_
    refine w_ia (p := 188) (v := (zz s 35 0)) (q84 187) rfl (r35 hB) (by decide) (by decide) (iv_zz s 35 0) ?_
    exact w_ret (q84 188) rfl w
  · replace w := w.2 (Int.not_lt.mp c3)
    refine w_i2f (p := 23) (q84 20) rfl h1 h2 c3 ?_
    refine w_aln (p := 24) (q84 23) rfl rfl ?_
    refine w_gR (p := 27) (j := 1) (v := 32) (q84 24) rfl (r25 hB) (by decide) (f25_1 hB) ?_
    refine w_il (p := 29) (q84 27) rfl rfl ?_
    obtain ⟨o4, w⟩ := w
    refine w_ia (p := 30) (v := (zz s 32 x4.toNat)) (q84 29) rfl (r32 hB) (by decide) o4 (iv_zz s 32 x4.toNat) ?_
    refine w_is (p := 32) (ls' := [.ref 25, iv x1, iv x2, iv x3, iv x4, iv (zz s 32 x4.toNat), u6, u7, u8, u9]) (q84 30) rfl (Nat.le_of_ble_eq_true rfl) rfl ?_
    refine w_aln (p := 33) (q84 32) rfl rfl ?_
    refine w_gR (p := 36) (j := 5) (v := 9) (q84 33) rfl (r25 hB) (by decide) (f25_5 hB) ?_
    refine w_il (p := 38) (q84 36) rfl rfl ?_
    refine w_call (st := []) (as := [.ref 9, iv (zz s 32 x4.toNat)]) (as' := [iv (zz s 32 x4.toNat), .ref 9]) (p := 41) (q84 38) rfl m70 (by decide) (a_ok_i rfl (r9 hB) rfl) rfl rfl (Nat.le_of_ble_eq_true rfl) (by omega) rfl rfl (a_W.imp w ?_)
    rintro _ ⟨v7, s5, l6, rfl, w⟩
    refine ⟨some (iv v7), _, rfl, ?_⟩
    show a_W _ 84 41 [.ref 25, iv x1, iv x2, iv x3, iv x4, iv (zz s 32 x4.toNat), u6, u7, u8, u9] [iv v7] (mkH B s5 l6) _
    refine w_is (p := 43) (ls' := [.ref 25, iv x1, iv x2, iv x3, iv x4, iv (zz s 32 x4.toNat), iv v7, u7, u8, u9]) (q84 41) rfl (Nat.le_of_ble_eq_true rfl) rfl ?_
    refine w_il (p := 45) (q84 43) rfl rfl ?_
    obtain ⟨h8, w⟩ := w
    by_cases c9 : v7 ≤ 0
    · replace w := w.1 c9
      refine w_i1t (q84 45) h8 c9 ?_
      exact w
    · replace w := w.2 (Int.not_le.mp c9)
      refine w_i1f (p := 48) (q84 45) rfl h8 c9 ?_
      refine w_iln (p := 49) (q84 48) rfl rfl ?_
      obtain ⟨h10, w⟩ := w
      by_cases c11 : x3 ≤ 0
      · replace w := w.1 c11
        refine w_i1t (q84 49) h10 c11 ?_
        exact w
      · replace w := w.2 (Int.not_le.mp c11)
        refine w_i1f (p := 52) (q84 49) rfl h10 c11 ?_
        refine w_aln (p := 53) (q84 52) rfl rfl ?_
        refine w_gR (p := 56) (j := 4) (v := 35) (q84 53) rfl (r25 hB) (by decide) (f25_4 hB) ?_
        refine w_iln (p := 57) (q84 56) rfl rfl ?_
        refine w_ic (p := 58) (q84 57) rfl ?_
        refine w_sub (p := 59) (q84 58) rfl ?_
        obtain ⟨o12, w⟩ := w
        refine w_ia (p := 60) (v := (zz s5 35 (x3 - 1).toNat)) (q84 59) rfl (r35 hB) (by decide) o12 (iv_zz s5 35 (x3 - 1).toNat) ?_
        refine w_goto (q84 60) ?_
        refine w_is (p := 66) (ls' := [.ref 25, iv x1, iv x2, iv x3, iv x4, iv (zz s 32 x4.toNat), iv v7, iv (zz s5 35 (x3 - 1).toNat), u8, u9]) (q84 64) rfl (Nat.le_of_ble_eq_true rfl) rfl ?_
        refine w_il (p := 68) (q84 66) rfl rfl ?_
        refine w_ic (p := 69) (q84 68) rfl ?_
        by_cases c13 : v7 ≤ 1
        · replace w := w.1 c13
          refine w_i2t (q84 69) h8 (by decide) c13 ?_
          exact w
        · replace w := w.2 (Int.not_le.mp c13)
          refine w_i2f (p := 72) (q84 69) rfl h8 (by decide) c13 ?_
          refine w_iln (p := 73) (q84 72) rfl rfl ?_
          refine w_ic (p := 74) (q84 73) rfl ?_
          by_cases c14 : x3 ≤ 1
          · replace w := w.1 c14
            refine w_i2t (q84 74) h10 (by decide) c14 ?_
            exact w
          · replace w := w.2 (Int.not_le.mp c14)
            refine w_i2f (p := 77) (q84 74) rfl h10 (by decide) c14 ?_
            refine w_aln (p := 78) (q84 77) rfl rfl ?_
            refine w_gR (p := 81) (j := 4) (v := 35) (q84 78) rfl (r25 hB) (by decide) (f25_4 hB) ?_
            refine w_iln (p := 82) (q84 81) rfl rfl ?_
            refine w_ic (p := 83) (q84 82) rfl ?_
            refine w_sub (p := 84) (q84 83) rfl ?_
            obtain ⟨o15, w⟩ := w
            refine w_ia (p := 85) (v := (zz s5 35 (x3 - 2).toNat)) (q84 84) rfl (r35 hB) (by decide) o15 (iv_zz s5 35 (x3 - 2).toNat) ?_
            refine w_goto (q84 85) ?_
            refine w_is (p := 91) (ls' := [.ref 25, iv x1, iv x2, iv x3, iv x4, iv (zz s 32 x4.toNat), iv v7, iv (zz s5 35 (x3 - 1).toNat), iv (zz s5 35 (x3 - 2).toNat), u9]) (q84 89) rfl (Nat.le_of_ble_eq_true rfl) rfl ?_
            refine w_il (p := 93) (q84 91) rfl rfl ?_
            by_cases c16 : 0 ≤ (zz s 32 x4.toNat)
            · replace w := w.1 c16
              refine w_i1t (q84 93) (inR_zz _ _ _) c16 ?_
              refine w_ic (p := 113) (q84 112) rfl ?_
              refine w_is (p := 115) (ls' := [.ref 25, iv x1, iv x2, iv x3, iv x4, iv (zz s 32 x4.toNat), iv v7, iv (zz s5 35 (x3 - 1).toNat), iv (zz s5 35 (x3 - 2).toNat), iv (-1)]) (q84 113) rfl (Nat.le_of_ble_eq_true rfl) rfl ?_
              refine w_il (p := 117) (q84 115) rfl rfl ?_
              refine w_i1f (p := 120) (q84 117) rfl (by decide) (show ¬ zc _ _ _ by unfold zc; omega) ?_
              refine w_aln (p := 121) (q84 120) rfl rfl ?_
              refine w_gR (p := 124) (j := 6) (v := 17) (q84 121) rfl (r25 hB) (by decide) (f25_6 hB) ?_
              refine w_il (p := 126) (q84 124) rfl rfl ?_
              refine w_i1t (q84 126) (inR_zz _ _ _) (show zc _ _ _ by unfold zc; omega) ?_
              refine w_il (p := 136) (q84 134) rfl rfl ?_
              refine w_il (p := 138) (q84 136) rfl rfl ?_
              refine w_il (p := 140) (q84 138) rfl rfl ?_
              refine w_call (st := []) (as := [.ref 17, iv (zz s 32 x4.toNat), iv (zz s5 35 (x3 - 1).toNat), iv (zz s5 35 (x3 - 2).toNat)]) (as' := [iv (zz s5 35 (x3 - 2).toNat), iv (zz s5 35 (x3 - 1).toNat), iv (zz s 32 x4.toNat), .ref 17]) (p := 143) (q84 140) rfl m48 (by decide) (a_ok_i rfl (r17 hB) rfl) rfl rfl (Nat.le_of_ble_eq_true rfl) (by omega) rfl rfl (a_W.imp w ?_)
              rintro _ ⟨v19, s17, l18, rfl, w⟩
              refine ⟨some (iv v19), _, rfl, ?_⟩
              show a_W _ 84 143 [.ref 25, iv x1, iv x2, iv x3, iv x4, iv (zz s 32 x4.toNat), iv v7, iv (zz s5 35 (x3 - 1).toNat), iv (zz s5 35 (x3 - 2).toNat), iv (-1)] [iv v19] (mkH B s17 l18) _
              refine w_is (p := 145) (ls' := [.ref 25, iv x1, iv x2, iv x3, iv x4, iv (zz s 32 x4.toNat), iv v7, iv (zz s5 35 (x3 - 1).toNat), iv (zz s5 35 (x3 - 2).toNat), iv v19]) (q84 143) rfl (Nat.le_of_ble_eq_true rfl) rfl ?_
              exact w
            · replace w := w.2 (Int.not_le.mp c16)
              refine w_i1f (p := 96) (q84 93) rfl (inR_zz _ _ _) c16 ?_
              refine w_aln (p := 97) (q84 96) rfl rfl ?_
              refine w_iln (p := 98) (q84 97) rfl rfl ?_
              refine w_il (p := 100) (q84 98) rfl rfl ?_
              refine w_aln (p := 101) (q84 100) rfl rfl ?_
              refine w_gR (p := 104) (j := 2) (v := 33) (q84 101) rfl (r25 hB) (by decide) (f25_2 hB) ?_
              refine w_iln (p := 105) (q84 104) rfl rfl ?_
              obtain ⟨o20, w⟩ := w
              refine w_ia (p := 106) (v := (zz s5 33 x1.toNat)) (q84 105) rfl (r33 hB) (by decide) o20 (iv_zz s5 33 x1.toNat) ?_
              refine w_call (st := []) (as := [.ref 25, iv x2, iv x4, iv (zz s5 33 x1.toNat)]) (as' := [iv (zz s5 33 x1.toNat), iv x4, iv x2, .ref 25]) (p := 109) (q84 106) rfl m85 (by decide) (a_ok_i rfl (r25 hB) rfl) rfl rfl (Nat.le_of_ble_eq_true rfl) (by omega) rfl rfl (a_W.imp w ?_)
              rintro _ ⟨v23, s21, l22, rfl, w⟩
              refine ⟨some (iv v23), _, rfl, ?_⟩
              show a_W _ 84 109 [.ref 25, iv x1, iv x2, iv x3, iv x4, iv (zz s 32 x4.toNat), iv v7, iv (zz s5 35 (x3 - 1).toNat), iv (zz s5 35 (x3 - 2).toNat), u9] [iv v23] (mkH B s21 l22) _
              refine w_goto (q84 109) ?_
              refine w_is (p := 115) (ls' := [.ref 25, iv x1, iv x2, iv x3, iv x4, iv (zz s 32 x4.toNat), iv v7, iv (zz s5 35 (x3 - 1).toNat), iv (zz s5 35 (x3 - 2).toNat), iv v23]) (q84 113) rfl (Nat.le_of_ble_eq_true rfl) rfl ?_
              refine w_il (p := 117) (q84 115) rfl rfl ?_
              obtain ⟨h24, w⟩ := w
              by_cases c25 : 0 ≤ v23
              · replace w := w.1 c25
                refine w_i1t (q84 117) h24 c25 ?_
                exact w
              · replace w := w.2 (Int.not_le.mp c25)
                refine w_i1f (p := 120) (q84 117) rfl h24 c25 ?_
                refine w_aln (p := 121) (q84 120) rfl rfl ?_
                refine w_gR (p := 124) (j := 6) (v := 17) (q84 121) rfl (r25 hB) (by decide) (f25_6 hB) ?_
                refine w_il (p := 126) (q84 124) rfl rfl ?_
                refine w_i1f (p := 129) (q84 126) rfl (inR_zz _ _ _) (show ¬ zc _ _ _ by unfold zc; omega) ?_
                refine w_ldc (p := 131) (n := (-1000000)) (q84 129) rfl (by decide) ?_
                refine w_goto (q84 131) ?_
                refine w_il (p := 138) (q84 136) rfl rfl ?_
                refine w_il (p := 140) (q84 138) rfl rfl ?_
                refine w_call (st := []) (as := [.ref 17, iv (-1000000), iv (zz s5 35 (x3 - 1).toNat), iv (zz s5 35 (x3 - 2).toNat)]) (as' := [iv (zz s5 35 (x3 - 2).toNat), iv (zz s5 35 (x3 - 1).toNat), iv (-1000000), .ref 17]) (p := 143) (q84 140) rfl m48 (by decide) (a_ok_i rfl (r17 hB) rfl) rfl rfl (Nat.le_of_ble_eq_true rfl) (by omega) rfl rfl (a_W.imp w ?_)
                rintro _ ⟨v28, s26, l27, rfl, w⟩
                refine ⟨some (iv v28), _, rfl, ?_⟩
                show a_W _ 84 143 [.ref 25, iv x1, iv x2, iv x3, iv x4, iv (zz s 32 x4.toNat), iv v7, iv (zz s5 35 (x3 - 1).toNat), iv (zz s5 35 (x3 - 2).toNat), iv v23] [iv v28] (mkH B s26 l27) _
                refine w_is (p := 145) (ls' := [.ref 25, iv x1, iv x2, iv x3, iv x4, iv (zz s 32 x4.toNat), iv v7, iv (zz s5 35 (x3 - 1).toNat), iv (zz s5 35 (x3 - 2).toNat), iv v28]) (q84 143) rfl (Nat.le_of_ble_eq_true rfl) rfl ?_
                exact w
theorem w84_63 {d : Nat} {B : aH} {Q : aR → Prop} (hB : a_Can B) (hd : 1 ≤ d) (x1 x2 x3 x4 x5 x6 : Int) (u7 u8 u9 : Value) (s : Nat → Nat → Int32) (l : Nat → Nat → Int64) (w : (inR x6 ∧ ((x6 ≤ 1 → a_W d 84 88 [.ref 25, iv x1, iv x2, iv x3, iv x4, iv x5, iv x6, iv (-1), u8, u9] [] (mkH B s l) Q) ∧ (1 < x6 → (inR x3 ∧ ((x3 ≤ 1 → a_W d 84 88 [.ref 25, iv x1, iv x2, iv x3, iv x4, iv x5, iv x6, iv (-1), u8, u9] [] (mkH B s l) Q) ∧ (1 < x3 → ((0 ≤ (x3 - 2) ∧ (x3 - 2) < 40) ∧ (inR x5 ∧ ((0 ≤ x5 → a_W (d - 1) 48 0 [.ref 17, iv x5, iv (-1), iv (zz s 35 (x3 - 2).toNat)] [] (mkH B s l) (fun r => ∃ (v10 : Int) (s8 : Nat → Nat → Int32) (l9 : Nat → Nat → Int64), r = (.inl (some (iv v10)), mkH B s8 l9) ∧ a_W d 84 145 [.ref 25, iv x1, iv x2, iv x3, iv x4, iv x5, iv x6, iv (-1), iv (zz s 35 (x3 - 2).toNat), iv v10] [] (mkH B s8 l9) Q)) ∧ (x5 < 0 → ((0 ≤ x1 ∧ x1 < 112) ∧ a_W (d - 1) 85 0 [.ref 25, iv x2, iv x4, iv (zz s 33 x1.toNat), .retAddr 0] [] (mkH B s l) (fun r => ∃ (v14 : Int) (s12 : Nat → Nat → Int32) (l13 : Nat → Nat → Int64), r = (.inl (some (iv v14)), mkH B s12 l13) ∧ (inR v14 ∧ ((0 ≤ v14 → a_W d 84 145 [.ref 25, iv x1, iv x2, iv x3, iv x4, iv x5, iv x6, iv (-1), iv (zz s 35 (x3 - 2).toNat), iv v14] [] (mkH B s12 l13) Q) ∧ (v14 < 0 → a_W (d - 1) 48 0 [.ref 17, iv (-1000000), iv (-1), iv (zz s 35 (x3 - 2).toNat)] [] (mkH B s12 l13) (fun r => ∃ (v19 : Int) (s17 : Nat → Nat → Int32) (l18 : Nat → Nat → Int64), r = (.inl (some (iv v19)), mkH B s17 l18) ∧ a_W d 84 145 [.ref 25, iv x1, iv x2, iv x3, iv x4, iv x5, iv x6, iv (-1), iv (zz s 35 (x3 - 2).toNat), iv v19] [] (mkH B s17 l18) Q))))))))))))))))) : a_W d 84 63 [.ref 25, iv x1, iv x2, iv x3, iv x4, iv x5, iv x6, u7, u8, u9] [] (mkH B s l) Q := by
  refine w_ic (p := 64) (q84 63) rfl ?_
  refine w_is (p := 66) (ls' := [.ref 25, iv x1, iv x2, iv x3, iv x4, iv x5, iv x6, iv (-1), u8, u9]) (q84 64) rfl (Nat.le_of_ble_eq_true rfl) rfl ?_
  refine w_il (p := 68) (q84 66) rfl rfl ?_
  refine w_ic (p := 69) (q84 68) rfl ?_
  obtain ⟨h1, w⟩ := w
  by_cases c2 : x6 ≤ 1
  · replace w := w.1 c2
    refine w_i2t (q84 69) h1 (by decide) c2 ?_
    exact w
  · replace w := w.2 (Int.not_le.mp c2)
    refine w_i2f (p := 72) (q84 69) rfl h1 (by decide) c2 ?_
    refine w_iln (p := 73) (q84 72) rfl rfl ?_
    refine w_ic (p := 74) (q84 73) rfl ?_
    obtain ⟨h3, w⟩ := w
    by_cases c4 : x3 ≤ 1
    · replace w := w.1 c4
      refine w_i2t (q84 74) h3 (by decide) c4 ?_
      exact w
    · replace w := w.2 (Int.not_le.mp c4)
      refine w_i2f (p := 77) (q84 74) rfl h3 (by decide) c4 ?_
      refine w_aln (p := 78) (q84 77) rfl rfl ?_
      refine w_gR (p := 81) (j := 4) (v := 35) (q84 78) rfl (r25 hB) (by decide) (f25_4 hB) ?_
      refine w_iln (p := 82) (q84 81) rfl rfl ?_
      refine w_ic (p := 83) (q84 82) rfl ?_
      refine w_sub (p := 84) (q84 83) rfl ?_
      obtain ⟨o5, w⟩ := w
      refine w_ia (p := 85) (v := (zz s 35 (x3 - 2).toNat)) (q84 84) rfl (r35 hB) (by decide) o5 (iv_zz s 35 (x3 - 2).toNat) ?_
      refine w_goto (q84 85) ?_
      refine w_is (p := 91) (ls' := [.ref 25, iv x1, iv x2, iv x3, iv x4, iv x5, iv x6, iv (-1), iv (zz s 35 (x3 - 2).toNat), u9]) (q84 89) rfl (Nat.le_of_ble_eq_true rfl) rfl ?_
      refine w_il (p := 93) (q84 91) rfl rfl ?_
      obtain ⟨h6, w⟩ := w
      by_cases c7 : 0 ≤ x5
      · replace w := w.1 c7
        refine w_i1t (q84 93) h6 c7 ?_
        refine w_ic (p := 113) (q84 112) rfl ?_
        refine w_is (p := 115) (ls' := [.ref 25, iv x1, iv x2, iv x3, iv x4, iv x5, iv x6, iv (-1), iv (zz s 35 (x3 - 2).toNat), iv (-1)]) (q84 113) rfl (Nat.le_of_ble_eq_true rfl) rfl ?_
        refine w_il (p := 117) (q84 115) rfl rfl ?_
        refine w_i1f (p := 120) (q84 117) rfl (by decide) (show ¬ zc _ _ _ by unfold zc; omega) ?_
        refine w_aln (p := 121) (q84 120) rfl rfl ?_
        refine w_gR (p := 124) (j := 6) (v := 17) (q84 121) rfl (r25 hB) (by decide) (f25_6 hB) ?_
        refine w_il (p := 126) (q84 124) rfl rfl ?_
        refine w_i1t (q84 126) h6 (show zc _ _ _ by unfold zc; omega) ?_
        refine w_il (p := 136) (q84 134) rfl rfl ?_
        refine w_il (p := 138) (q84 136) rfl rfl ?_
        refine w_il (p := 140) (q84 138) rfl rfl ?_
        refine w_call (st := []) (as := [.ref 17, iv x5, iv (-1), iv (zz s 35 (x3 - 2).toNat)]) (as' := [iv (zz s 35 (x3 - 2).toNat), iv (-1), iv x5, .ref 17]) (p := 143) (q84 140) rfl m48 (by decide) (a_ok_i rfl (r17 hB) rfl) rfl rfl (Nat.le_of_ble_eq_true rfl) (by omega) rfl rfl (a_W.imp w ?_)
        rintro _ ⟨v10, s8, l9, rfl, w⟩
        refine ⟨some (iv v10), _, rfl, ?_⟩
        show a_W _ 84 143 [.ref 25, iv x1, iv x2, iv x3, iv x4, iv x5, iv x6, iv (-1), iv (zz s 35 (x3 - 2).toNat), iv (-1)] [iv v10] (mkH B s8 l9) _
        refine w_is (p := 145) (ls' := [.ref 25, iv x1, iv x2, iv x3, iv x4, iv x5, iv x6, iv (-1), iv (zz s 35 (x3 - 2).toNat), iv v10]) (q84 143) rfl (Nat.le_of_ble_eq_true rfl) rfl ?_
        exact w
      · replace w := w.2 (Int.not_le.mp c7)
        refine w_i1f (p := 96) (q84 93) rfl h6 c7 ?_
        refine w_aln (p := 97) (q84 96) rfl rfl ?_
        refine w_iln (p := 98) (q84 97) rfl rfl ?_
        refine w_il (p := 100) (q84 98) rfl rfl ?_
        refine w_aln (p := 101) (q84 100) rfl rfl ?_
        refine w_gR (p := 104) (j := 2) (v := 33) (q84 101) rfl (r25 hB) (by decide) (f25_2 hB) ?_
        refine w_iln (p := 105) (q84 104) rfl rfl ?_
        obtain ⟨o11, w⟩ := w
        refine w_ia (p := 106) (v := (zz s 33 x1.toNat)) (q84 105) rfl (r33 hB) (by decide) o11 (iv_zz s 33 x1.toNat) ?_
        refine w_call (st := []) (as := [.ref 25, iv x2, iv x4, iv (zz s 33 x1.toNat)]) (as' := [iv (zz s 33 x1.toNat), iv x4, iv x2, .ref 25]) (p := 109) (q84 106) rfl m85 (by decide) (a_ok_i rfl (r25 hB) rfl) rfl rfl (Nat.le_of_ble_eq_true rfl) (by omega) rfl rfl (a_W.imp w ?_)
        rintro _ ⟨v14, s12, l13, rfl, w⟩
        refine ⟨some (iv v14), _, rfl, ?_⟩
        show a_W _ 84 109 [.ref 25, iv x1, iv x2, iv x3, iv x4, iv x5, iv x6, iv (-1), iv (zz s 35 (x3 - 2).toNat), u9] [iv v14] (mkH B s12 l13) _
        refine w_goto (q84 109) ?_
        refine w_is (p := 115) (ls' := [.ref 25, iv x1, iv x2, iv x3, iv x4, iv x5, iv x6, iv (-1), iv (zz s 35 (x3 - 2).toNat), iv v14]) (q84 113) rfl (Nat.le_of_ble_eq_true rfl) rfl ?_
        refine w_il (p := 117) (q84 115) rfl rfl ?_
        obtain ⟨h15, w⟩ := w
        by_cases c16 : 0 ≤ v14
        · replace w := w.1 c16
          refine w_i1t (q84 117) h15 c16 ?_
          exact w
        · replace w := w.2 (Int.not_le.mp c16)
          refine w_i1f (p := 120) (q84 117) rfl h15 c16 ?_
          refine w_aln (p := 121) (q84 120) rfl rfl ?_
          refine w_gR (p := 124) (j := 6) (v := 17) (q84 121) rfl (r25 hB) (by decide) (f25_6 hB) ?_
          refine w_il (p := 126) (q84 124) rfl rfl ?_
          refine w_i1f (p := 129) (q84 126) rfl h6 (show ¬ zc _ _ _ by unfold zc; omega) ?_
          refine w_ldc (p := 131) (n := (-1000000)) (q84 129) rfl (by decide) ?_
          refine w_goto (q84 131) ?_
          refine w_il (p := 138) (q84 136) rfl rfl ?_
          refine w_il (p := 140) (q84 138) rfl rfl ?_
          refine w_call (st := []) (as := [.ref 17, iv (-1000000), iv (-1), iv (zz s 35 (x3 - 2).toNat)]) (as' := [iv (zz s 35 (x3 - 2).toNat), iv (-1), iv (-1000000), .ref 17]) (p := 143) (q84 140) rfl m48 (by decide) (a_ok_i rfl (r17 hB) rfl) rfl rfl (Nat.le_of_ble_eq_true rfl) (by omega) rfl rfl (a_W.imp w ?_)
          rintro _ ⟨v19, s17, l18, rfl, w⟩
          refine ⟨some (iv v19), _, rfl, ?_⟩
          show a_W _ 84 143 [.ref 25, iv x1, iv x2, iv x3, iv x4, iv x5, iv x6, iv (-1), iv (zz s 35 (x3 - 2).toNat), iv v14] [iv v19] (mkH B s17 l18) _
          refine w_is (p := 145) (ls' := [.ref 25, iv x1, iv x2, iv x3, iv x4, iv x5, iv x6, iv (-1), iv (zz s 35 (x3 - 2).toNat), iv v19]) (q84 143) rfl (Nat.le_of_ble_eq_true rfl) rfl ?_
          exact w
theorem w84_88 {d : Nat} {B : aH} {Q : aR → Prop} (hB : a_Can B) (hd : 1 ≤ d) (x1 x2 x3 x4 x5 x6 x7 : Int) (u8 u9 : Value) (s : Nat → Nat → Int32) (l : Nat → Nat → Int64) (w : (inR x5 ∧ ((0 ≤ x5 → a_W (d - 1) 48 0 [.ref 17, iv x5, iv x7, iv (-1)] [] (mkH B s l) (fun r => ∃ (v5 : Int) (s3 : Nat → Nat → Int32) (l4 : Nat → Nat → Int64), r = (.inl (some (iv v5)), mkH B s3 l4) ∧ a_W d 84 145 [.ref 25, iv x1, iv x2, iv x3, iv x4, iv x5, iv x6, iv x7, iv (-1), iv v5] [] (mkH B s3 l4) Q)) ∧ (x5 < 0 → ((0 ≤ x1 ∧ x1 < 112) ∧ a_W (d - 1) 85 0 [.ref 25, iv x2, iv x4, iv (zz s 33 x1.toNat), .retAddr 0] [] (mkH B s l) (fun r => ∃ (v9 : Int) (s7 : Nat → Nat → Int32) (l8 : Nat → Nat → Int64), r = (.inl (some (iv v9)), mkH B s7 l8) ∧ (inR v9 ∧ ((0 ≤ v9 → a_W d 84 145 [.ref 25, iv x1, iv x2, iv x3, iv x4, iv x5, iv x6, iv x7, iv (-1), iv v9] [] (mkH B s7 l8) Q) ∧ (v9 < 0 → a_W (d - 1) 48 0 [.ref 17, iv (-1000000), iv x7, iv (-1)] [] (mkH B s7 l8) (fun r => ∃ (v14 : Int) (s12 : Nat → Nat → Int32) (l13 : Nat → Nat → Int64), r = (.inl (some (iv v14)), mkH B s12 l13) ∧ a_W d 84 145 [.ref 25, iv x1, iv x2, iv x3, iv x4, iv x5, iv x6, iv x7, iv (-1), iv v14] [] (mkH B s12 l13) Q)))))))))) : a_W d 84 88 [.ref 25, iv x1, iv x2, iv x3, iv x4, iv x5, iv x6, iv x7, u8, u9] [] (mkH B s l) Q := by
  refine w_ic (p := 89) (q84 88) rfl ?_
  refine w_is (p := 91) (ls' := [.ref 25, iv x1, iv x2, iv x3, iv x4, iv x5, iv x6, iv x7, iv (-1), u9]) (q84 89) rfl (Nat.le_of_ble_eq_true rfl) rfl ?_
  refine w_il (p := 93) (q84 91) rfl rfl ?_
  obtain ⟨h1, w⟩ := w
  by_cases c2 : 0 ≤ x5
  · replace w := w.1 c2
    refine w_i1t (q84 93) h1 c2 ?_
    refine w_ic (p := 113) (q84 112) rfl ?_
    refine w_is (p := 115) (ls' := [.ref 25, iv x1, iv x2, iv x3, iv x4, iv x5, iv x6, iv x7, iv (-1), iv (-1)]) (q84 113) rfl (Nat.le_of_ble_eq_true rfl) rfl ?_
    refine w_il (p := 117) (q84 115) rfl rfl ?_
    refine w_i1f (p := 120) (q84 117) rfl (by decide) (show ¬ zc _ _ _ by unfold zc; omega) ?_
    refine w_aln (p := 121) (q84 120) rfl rfl ?_
    refine w_gR (p := 124) (j := 6) (v := 17) (q84 121) rfl (r25 hB) (by decide) (f25_6 hB) ?_
    refine w_il (p := 126) (q84 124) rfl rfl ?_
    refine w_i1t (q84 126) h1 (show zc _ _ _ by unfold zc; omega) ?_
    refine w_il (p := 136) (q84 134) rfl rfl ?_
    refine w_il (p := 138) (q84 136) rfl rfl ?_
    refine w_il (p := 140) (q84 138) rfl rfl ?_
    refine w_call (st := []) (as := [.ref 17, iv x5, iv x7, iv (-1)]) (as' := [iv (-1), iv x7, iv x5, .ref 17]) (p := 143) (q84 140) rfl m48 (by decide) (a_ok_i rfl (r17 hB) rfl) rfl rfl (Nat.le_of_ble_eq_true rfl) (by omega) rfl rfl (a_W.imp w ?_)
    rintro _ ⟨v5, s3, l4, rfl, w⟩
    refine ⟨some (iv v5), _, rfl, ?_⟩
    show a_W _ 84 143 [.ref 25, iv x1, iv x2, iv x3, iv x4, iv x5, iv x6, iv x7, iv (-1), iv (-1)] [iv v5] (mkH B s3 l4) _
    refine w_is (p := 145) (ls' := [.ref 25, iv x1, iv x2, iv x3, iv x4, iv x5, iv x6, iv x7, iv (-1), iv v5]) (q84 143) rfl (Nat.le_of_ble_eq_true rfl) rfl ?_
    exact w
  · replace w := w.2 (Int.not_le.mp c2)
    refine w_i1f (p := 96) (q84 93) rfl h1 c2 ?_
    refine w_aln (p := 97) (q84 96) rfl rfl ?_
    refine w_iln (p := 98) (q84 97) rfl rfl ?_
    refine w_il (p := 100) (q84 98) rfl rfl ?_
    refine w_aln (p := 101) (q84 100) rfl rfl ?_
    refine w_gR (p := 104) (j := 2) (v := 33) (q84 101) rfl (r25 hB) (by decide) (f25_2 hB) ?_
    refine w_iln (p := 105) (q84 104) rfl rfl ?_
    obtain ⟨o6, w⟩ := w
    refine w_ia (p := 106) (v := (zz s 33 x1.toNat)) (q84 105) rfl (r33 hB) (by decide) o6 (iv_zz s 33 x1.toNat) ?_
    refine w_call (st := []) (as := [.ref 25, iv x2, iv x4, iv (zz s 33 x1.toNat)]) (as' := [iv (zz s 33 x1.toNat), iv x4, iv x2, .ref 25]) (p := 109) (q84 106) rfl m85 (by decide) (a_ok_i rfl (r25 hB) rfl) rfl rfl (Nat.le_of_ble_eq_true rfl) (by omega) rfl rfl (a_W.imp w ?_)
    rintro _ ⟨v9, s7, l8, rfl, w⟩
    refine ⟨some (iv v9), _, rfl, ?_⟩
    show a_W _ 84 109 [.ref 25, iv x1, iv x2, iv x3, iv x4, iv x5, iv x6, iv x7, iv (-1), u9] [iv v9] (mkH B s7 l8) _
    refine w_goto (q84 109) ?_
    refine w_is (p := 115) (ls' := [.ref 25, iv x1, iv x2, iv x3, iv x4, iv x5, iv x6, iv x7, iv (-1), iv v9]) (q84 113) rfl (Nat.le_of_ble_eq_true rfl) rfl ?_
    refine w_il (p := 117) (q84 115) rfl rfl ?_
    obtain ⟨h10, w⟩ := w
    by_cases c11 : 0 ≤ v9
    · replace w := w.1 c11
      refine w_i1t (q84 117) h10 c11 ?_
      exact w
    · replace w := w.2 (Int.not_le.mp c11)
      refine w_i1f (p := 120) (q84 117) rfl h10 c11 ?_
      refine w_aln (p := 121) (q84 120) rfl rfl ?_
      refine w_gR (p := 124) (j := 6) (v := 17) (q84 121) rfl (r25 hB) (by decide) (f25_6 hB) ?_
      refine w_il (p := 126) (q84 124) rfl rfl ?_
      refine w_i1f (p := 129) (q84 126) rfl h1 (show ¬ zc _ _ _ by unfold zc; omega) ?_
      refine w_ldc (p := 131) (n := (-1000000)) (q84 129) rfl (by decide) ?_
      refine w_goto (q84 131) ?_
      refine w_il (p := 138) (q84 136) rfl rfl ?_
      refine w_il (p := 140) (q84 138) rfl rfl ?_
      refine w_call (st := []) (as := [.ref 17, iv (-1000000), iv x7, iv (-1)]) (as' := [iv (-1), iv x7, iv (-1000000), .ref 17]) (p := 143) (q84 140) rfl m48 (by decide) (a_ok_i rfl (r17 hB) rfl) rfl rfl (Nat.le_of_ble_eq_true rfl) (by omega) rfl rfl (a_W.imp w ?_)
      rintro _ ⟨v14, s12, l13, rfl, w⟩
      refine ⟨some (iv v14), _, rfl, ?_⟩
      show a_W _ 84 143 [.ref 25, iv x1, iv x2, iv x3, iv x4, iv x5, iv x6, iv x7, iv (-1), iv v9] [iv v14] (mkH B s12 l13) _
      refine w_is (p := 145) (ls' := [.ref 25, iv x1, iv x2, iv x3, iv x4, iv x5, iv x6, iv x7, iv (-1), iv v14]) (q84 143) rfl (Nat.le_of_ble_eq_true rfl) rfl ?_
      exact w
theorem w84_145 {d : Nat} {B : aH} {Q : aR → Prop} (hB : a_Can B) (hd : 1 ≤ d) (x1 x2 x3 x4 x5 x6 x7 x8 x9 : Int) (s : Nat → Nat → Int32) (l : Nat → Nat → Int64) (w : ((0 ≤ (x4 - x2) ∧ (x4 - x2) < 40) ∧ (inR (x3 - x6) ∧ ((0 ≤ (max (x3 - x6) 0) ∧ (max (x3 - x6) 0) < 40) ∧ a_W d 84 17 [.ref 25, iv x1, iv x2, iv ((max (x3 - x6) 0) + 1), iv (x4 + (-1)), iv x5, iv x6, iv x7, iv x8, iv x9] [] (mkH B (zu (zu s 34 (x4 - x2).toNat x9) 35 (max (x3 - x6) 0).toNat x9) l) Q)))) : a_W d 84 145 [.ref 25, iv x1, iv x2, iv x3, iv x4, iv x5, iv x6, iv x7, iv x8, iv x9] [] (mkH B s l) Q := by
  refine w_aln (p := 146) (q84 145) rfl rfl ?_
  refine w_gR (p := 149) (j := 3) (v := 34) (q84 146) rfl (r25 hB) (by decide) (f25_3 hB) ?_
  refine w_il (p := 151) (q84 149) rfl rfl ?_
  refine w_iln (p := 152) (q84 151) rfl rfl ?_
  refine w_sub (p := 153) (q84 152) rfl ?_
  refine w_il (p := 155) (q84 153) rfl rfl ?_
  obtain ⟨o1, w⟩ := w
  refine w_ias (p := 156) (q84 155) rfl (r34 hB) (by decide) o1 ?_
  refine w_iln (p := 157) (q84 156) rfl rfl ?_
  refine w_il (p := 159) (q84 157) rfl rfl ?_
  refine w_sub (p := 160) (q84 159) rfl ?_
  refine w_ic (p := 161) (q84 160) rfl ?_
  obtain ⟨h2, w⟩ := w
  refine w_max (p := 164) (q84 161) rfl rfl h2 (by decide) (Nat.le_of_ble_eq_true rfl) (by omega) ?_
  refine w_isn (p := 165) (ls' := [.ref 25, iv x1, iv x2, iv (max (x3 - x6) 0), iv x4, iv x5, iv x6, iv x7, iv x8, iv x9]) (q84 164) rfl (Nat.le_of_ble_eq_true rfl) rfl ?_
  refine w_aln (p := 166) (q84 165) rfl rfl ?_
  refine w_gR (p := 169) (j := 4) (v := 35) (q84 166) rfl (r25 hB) (by decide) (f25_4 hB) ?_
  refine w_iln (p := 170) (q84 169) rfl rfl ?_
  refine w_il (p := 172) (q84 170) rfl rfl ?_
  obtain ⟨o3, w⟩ := w
  refine w_ias (p := 173) (q84 172) rfl (r35 hB) (by decide) o3 ?_
  refine w_inc (p := 176) (ls' := [.ref 25, iv x1, iv x2, iv ((max (x3 - x6) 0) + 1), iv x4, iv x5, iv x6, iv x7, iv x8, iv x9]) (q84 173) rfl rfl rfl ?_
  refine w_inc (p := 179) (ls' := [.ref 25, iv x1, iv x2, iv ((max (x3 - x6) 0) + 1), iv (x4 + (-1)), iv x5, iv x6, iv x7, iv x8, iv x9]) (q84 176) rfl rfl rfl ?_
  refine w_goto (q84 179) ?_
  exact w
