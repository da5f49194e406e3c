/-! printed by wip/am/mkcg.py: the reader measures its types -/
theorem w108_0 {d : Nat} {B : aH} {Q : aR → Prop} (hB : a_Can B) (x1 : Int) (s : Nat → Nat → Int32) (l : Nat → Nat → Int64) (w : (((zz s 45 7) ≠ 0 → a_W d 108 18 [.ref 45, iv x1] [] (mkH B s l) Q) ∧ ((zz s 45 7) = 0 → ((0 ≤ x1 ∧ x1 < 501) ∧ (((zz s 50 x1.toNat) ≤ 50 → Q (.inl (some (iv 0)), (mkH B s l))) ∧ (50 < (zz s 50 x1.toNat) → a_W d 108 18 [.ref 45, iv x1] [] (mkH B s l) Q)))))) : a_W d 108 0 [.ref 45, iv x1] [] (mkH B s l) Q := by
  refine w_aln (p := 1) (q108 0) rfl rfl ?_
  refine w_gI (p := 4) (j := 7) (v := (zz s 45 7)) (q108 1) rfl (r45 hB) (by decide) (iv_zz s 45 7) ?_
  by_cases c1 : (zz s 45 7) ≠ 0
  · replace w := w.1 c1
    refine w_i1t (q108 4) (inR_zz _ _ _) c1 ?_
    exact w
  · replace w := w.2 (Decidable.not_not.mp c1)
    refine w_i1f (p := 7) (q108 4) rfl (inR_zz _ _ _) c1 ?_
    refine w_aln (p := 8) (q108 7) rfl rfl ?_
    refine w_gR (p := 11) (j := 4) (v := 50) (q108 8) rfl (r45 hB) (by decide) (f45_4 hB) ?_
    refine w_iln (p := 12) (q108 11) rfl rfl ?_
    obtain ⟨o2, w⟩ := w
    refine w_ia (p := 13) (v := (zz s 50 x1.toNat)) (q108 12) rfl (r50 hB) (by decide) o2 (iv_zz s 50 x1.toNat) ?_
    refine w_bp (p := 15) (q108 13) rfl (by decide) ?_
    by_cases c3 : (zz s 50 x1.toNat) ≤ 50
    · replace w := w.1 c3
      refine w_i2t (q108 15) (inR_zz _ _ _) (by decide) c3 ?_
      refine w_ic (p := 23) (q108 22) rfl ?_
      exact w_ret (q108 23) rfl w
    · replace w := w.2 (Int.not_le.mp c3)
      refine w_i2f (p := 18) (q108 15) rfl (inR_zz _ _ _) (by decide) c3 ?_
      exact w
theorem w108_18 {d : Nat} {B : aH} {Q : aR → Prop} (hB : a_Can B) (x1 : Int) (s : Nat → Nat → Int32) (l : Nat → Nat → Int64) (w : Q (.inl (some (iv 1)), (mkH B s l))) : a_W d 108 18 [.ref 45, iv x1] [] (mkH B s l) Q := by
  refine w_ic (p := 19) (q108 18) rfl ?_
  refine w_goto (q108 19) ?_
  exact w_ret (q108 23) rfl w
theorem w109_0 {d : Nat} {B : aH} {Q : aR → Prop} (hB : a_Can B) (s : Nat → Nat → Int32) (l : Nat → Nat → Int64) (w : a_W d 109 2 [.ref 17, iv 0, .retAddr 0] [] (mkH B s l) Q) : a_W d 109 0 [.ref 17, .retAddr 0, .retAddr 0] [] (mkH B s l) Q := by
  refine w_ic (p := 1) (q109 0) rfl ?_
  refine w_isn (p := 2) (ls' := [.ref 17, iv 0, .retAddr 0]) (q109 1) rfl (Nat.le_of_ble_eq_true rfl) rfl ?_
  exact w
theorem w109_2 {d : Nat} {B : aH} {Q : aR → Prop} (hB : a_Can B) (x1 : Int) (s : Nat → Nat → Int32) (l : Nat → Nat → Int64) (w : (inR x1 ∧ (((zz s 17 8) ≤ x1 → a_W d 109 25 [.ref 17, iv 0, .retAddr 0] [] (mkH B s l) Q) ∧ (x1 < (zz s 17 8) → ((0 ≤ x1 ∧ x1 < 17000) ∧ a_W d 109 2 [.ref 17, iv (x1 + 1), .retAddr 0] [] (mkH B (zu s 23 x1.toNat 0) l) Q))))) : a_W d 109 2 [.ref 17, iv x1, .retAddr 0] [] (mkH B s l) Q := by
  refine w_iln (p := 3) (q109 2) rfl rfl ?_
  refine w_aln (p := 4) (q109 3) rfl rfl ?_
  refine w_gI (p := 7) (j := 8) (v := (zz s 17 8)) (q109 4) rfl (r17 hB) (by decide) (iv_zz s 17 8) ?_
  obtain ⟨h1, w⟩ := w
  by_cases c2 : (zz s 17 8) ≤ x1
  · replace w := w.1 c2
    refine w_i2t (q109 7) h1 (inR_zz _ _ _) c2 ?_
    refine w_ic (p := 24) (q109 23) rfl ?_
    refine w_isn (p := 25) (ls' := [.ref 17, iv 0, .retAddr 0]) (q109 24) rfl (Nat.le_of_ble_eq_true rfl) rfl ?_
    exact w
  · replace w := w.2 (Int.not_le.mp c2)
    refine w_i2f (p := 10) (q109 7) rfl h1 (inR_zz _ _ _) c2 ?_
    refine w_aln (p := 11) (q109 10) rfl rfl ?_
    refine w_gR (p := 14) (j := 5) (v := 23) (q109 11) rfl (r17 hB) (by decide) (f17_5 hB) ?_
    refine w_iln (p := 15) (q109 14) rfl rfl ?_
    refine w_ic (p := 16) (q109 15) rfl ?_
    obtain ⟨o3, w⟩ := w
    refine w_ias (p := 17) (q109 16) rfl (r23 hB) (by decide) o3 ?_
    refine w_inc (p := 20) (ls' := [.ref 17, iv (x1 + 1), .retAddr 0]) (q109 17) rfl rfl rfl ?_
    refine w_goto (q109 20) ?_
    exact w
theorem w109_25 {d : Nat} {B : aH} {Q : aR → Prop} (hB : a_Can B) (hd : 1 ≤ d) (x1 : Int) (u2 : Value) (s : Nat → Nat → Int32) (l : Nat → Nat → Int64) (w : (inR x1 ∧ (((zz s 17 8) ≤ x1 → Q (.inl (some (iv 1)), (mkH B s l))) ∧ (x1 < (zz s 17 8) → a_W (d - 1) 51 0 [.ref 17, iv x1, .retAddr 0, .retAddr 0] [] (mkH B s l) (fun r => ∃ (v5 : Int) (s3 : Nat → Nat → Int32) (l4 : Nat → Nat → Int64), r = (.inl (some (iv v5)), mkH B s3 l4) ∧ ((0 ≤ v5 ∧ v5 < 17000) ∧ (((zz s3 23 v5.toNat) ≠ 0 → a_W d 109 58 [.ref 17, iv x1, iv v5] [] (mkH B s3 l4) Q) ∧ ((zz s3 23 v5.toNat) = 0 → a_W (d - 1) 110 0 [.ref 17, iv v5, .retAddr 0, .retAddr 0, .retAddr 0, .retAddr 0] [] (mkH B s3 l4) (fun r => ∃ (v10 : Int) (s8 : Nat → Nat → Int32) (l9 : Nat → Nat → Int64), r = (.inl (some (iv v10)), mkH B s8 l9) ∧ (inR v10 ∧ ((v10 ≠ 0 → a_W d 109 58 [.ref 17, iv x1, iv v5] [] (mkH B s8 l9) Q) ∧ (v10 = 0 → Q (.inl (some (iv 0)), (mkH B s8 l9)))))))))))))) : a_W d 109 25 [.ref 17, iv x1, u2] [] (mkH B s l) Q := by
  refine w_iln (p := 26) (q109 25) rfl rfl ?_
  refine w_aln (p := 27) (q109 26) rfl rfl ?_
  refine w_gI (p := 30) (j := 8) (v := (zz s 17 8)) (q109 27) rfl (r17 hB) (by decide) (iv_zz s 17 8) ?_
  obtain ⟨h1, w⟩ := w
  by_cases c2 : (zz s 17 8) ≤ x1
  · replace w := w.1 c2
    refine w_i2t (q109 30) h1 (inR_zz _ _ _) c2 ?_
    refine w_ic (p := 65) (q109 64) rfl ?_
    exact w_ret (q109 65) rfl w
  · replace w := w.2 (Int.not_le.mp c2)
    refine w_i2f (p := 33) (q109 30) rfl h1 (inR_zz _ _ _) c2 ?_
    refine w_aln (p := 34) (q109 33) rfl rfl ?_
    refine w_iln (p := 35) (q109 34) rfl rfl ?_
    refine w_call (st := []) (as := [.ref 17, iv x1]) (as' := [iv x1, .ref 17]) (p := 38) (q109 35) rfl m51 (by decide) (a_ok_i rfl (r17 hB) rfl) rfl rfl (Nat.le_of_ble_eq_true rfl) (by omega) rfl rfl (a_W.imp w ?_)
    rintro _ ⟨v5, s3, l4, rfl, w⟩
    refine ⟨some (iv v5), _, rfl, ?_⟩
    show a_W _ 109 38 [.ref 17, iv x1, u2] [iv v5] (mkH B s3 l4) _
    refine w_isn (p := 39) (ls' := [.ref 17, iv x1, iv v5]) (q109 38) rfl (Nat.le_of_ble_eq_true rfl) rfl ?_
    refine w_aln (p := 40) (q109 39) rfl rfl ?_
    refine w_gR (p := 43) (j := 5) (v := 23) (q109 40) rfl (r17 hB) (by decide) (f17_5 hB) ?_
    refine w_iln (p := 44) (q109 43) rfl rfl ?_
    obtain ⟨o6, w⟩ := w
    refine w_ia (p := 45) (v := (zz s3 23 v5.toNat)) (q109 44) rfl (r23 hB) (by decide) o6 (iv_zz s3 23 v5.toNat) ?_
    by_cases c7 : (zz s3 23 v5.toNat) ≠ 0
    · replace w := w.1 c7
      refine w_i1t (q109 45) (inR_zz _ _ _) c7 ?_
      exact w
    · replace w := w.2 (Decidable.not_not.mp c7)
      refine w_i1f (p := 48) (q109 45) rfl (inR_zz _ _ _) c7 ?_
      refine w_aln (p := 49) (q109 48) rfl rfl ?_
      refine w_iln (p := 50) (q109 49) rfl rfl ?_
      refine w_call (st := []) (as := [.ref 17, iv v5]) (as' := [iv v5, .ref 17]) (p := 53) (q109 50) rfl m110 (by decide) (a_ok_i rfl (r17 hB) rfl) rfl rfl (Nat.le_of_ble_eq_true rfl) (by omega) rfl rfl (a_W.imp w ?_)
      rintro _ ⟨v10, s8, l9, rfl, w⟩
      refine ⟨some (iv v10), _, rfl, ?_⟩
      show a_W _ 109 53 [.ref 17, iv x1, iv v5] [iv v10] (mkH B s8 l9) _
      obtain ⟨h11, w⟩ := w
      by_cases c12 : v10 ≠ 0
      · replace w := w.1 c12
        refine w_i1t (q109 53) h11 c12 ?_
        exact w
      · replace w := w.2 (Decidable.not_not.mp c12)
        refine w_i1f (p := 56) (q109 53) rfl h11 c12 ?_
        refine w_ic (p := 57) (q109 56) rfl ?_
        exact w_ret (q109 57) rfl w
theorem w109_58 {d : Nat} {B : aH} {Q : aR → Prop} (hB : a_Can B) (x1 x2 : Int) (s : Nat → Nat → Int32) (l : Nat → Nat → Int64) (w : a_W d 109 25 [.ref 17, iv (x1 + 1), iv x2] [] (mkH B s l) Q) : a_W d 109 58 [.ref 17, iv x1, iv x2] [] (mkH B s l) Q := by
  refine w_inc (p := 61) (ls' := [.ref 17, iv (x1 + 1), iv x2]) (q109 58) rfl rfl rfl ?_
  refine w_goto (q109 61) ?_
  exact w
theorem w110_0 {d : Nat} {B : aH} {Q : aR → Prop} (hB : a_Can B) (x1 : Int) (s : Nat → Nat → Int32) (l : Nat → Nat → Int64) (w : a_W d 110 11 [.ref 17, iv x1, iv 1, iv 0, .retAddr 0, .retAddr 0] [] (mkH B (zu s 24 0 x1) l) Q) : a_W d 110 0 [.ref 17, iv x1, .retAddr 0, .retAddr 0, .retAddr 0, .retAddr 0] [] (mkH B s l) Q := by
  refine w_aln (p := 1) (q110 0) rfl rfl ?_
  refine w_gR (p := 4) (j := 6) (v := 24) (q110 1) rfl (r17 hB) (by decide) (f17_6 hB) ?_
  refine w_ic (p := 5) (q110 4) rfl ?_
  refine w_iln (p := 6) (q110 5) rfl rfl ?_
  refine w_ias (p := 7) (q110 6) rfl (r24 hB) (by decide) (by decide) ?_
  refine w_ic (p := 8) (q110 7) rfl ?_
  refine w_isn (p := 9) (ls' := [.ref 17, iv x1, iv 1, .retAddr 0, .retAddr 0, .retAddr 0]) (q110 8) rfl (Nat.le_of_ble_eq_true rfl) rfl ?_
  refine w_ic (p := 10) (q110 9) rfl ?_
  refine w_isn (p := 11) (ls' := [.ref 17, iv x1, iv 1, iv 0, .retAddr 0, .retAddr 0]) (q110 10) rfl (Nat.le_of_ble_eq_true rfl) rfl ?_
  exact w
theorem w110_11 {d : Nat} {B : aH} {Q : aR → Prop} (hB : a_Can B) (hd : 1 ≤ d) (x1 x2 x3 : Int) (u4 u5 : Value) (s : Nat → Nat → Int32) (l : Nat → Nat → Int64) (w : (inR x3 ∧ ((34000 ≤ x3 → a_W d 110 101 [.ref 17, iv x1, iv x2, iv x3, u4, u5] [] (mkH B s l) Q) ∧ (x3 < 34000 → (inR x2 ∧ ((x2 ≤ 0 → a_W d 110 101 [.ref 17, iv x1, iv x2, iv x3, u4, u5] [] (mkH B s l) Q) ∧ (0 < x2 → ((0 ≤ (x2 - 1) ∧ (x2 - 1) < 17000) ∧ ((0 ≤ (zz s 24 (x2 - 1).toNat) ∧ (zz s 24 (x2 - 1).toNat) < 17000) ∧ a_W (d - 1) 111 0 [.ref 17, iv (zz s 24 (x2 - 1).toNat)] [] (mkH B (zu s 23 (zz s 24 (x2 - 1).toNat).toNat (-1)) l) (fun r => ∃ (v9 : Int) (s7 : Nat → Nat → Int32) (l8 : Nat → Nat → Int64), r = (.inl (some (iv v9)), mkH B s7 l8) ∧ (inR v9 ∧ ((0 ≤ v9 → ((0 ≤ v9 ∧ v9 < 17000) ∧ (((zz s7 23 v9.toNat) = (-1) → a_W d 110 82 [.ref 17, iv x1, iv x2, iv x3, iv (zz s 24 (x2 - 1).toNat), iv v9] [] (mkH B s7 l8) Q) ∧ ((zz s7 23 v9.toNat) ≠ (-1) → ((x2 < 17000 → ((0 ≤ x2 ∧ x2 < 17000) ∧ a_W d 110 95 [.ref 17, iv x1, iv (x2 + 1), iv x3, iv (zz s 24 (x2 - 1).toNat), iv v9] [] (mkH B (zu s7 24 x2.toNat v9) l8) Q)) ∧ (17000 ≤ x2 → a_W d 110 82 [.ref 17, iv x1, iv x2, iv x3, iv (zz s 24 (x2 - 1).toNat), iv v9] [] (mkH B s7 l8) Q)))))) ∧ (v9 < 0 → a_W (d - 1) 49 0 [.ref 17, iv (zz s 24 (x2 - 1).toNat), .retAddr 0, .retAddr 0] [] (mkH B s7 l8) (fun r => ∃ (s16 : Nat → Nat → Int32) (l17 : Nat → Nat → Int64), r = (.inl none, mkH B s16 l17) ∧ a_W d 110 95 [.ref 17, iv x1, iv (x2 + (-1)), iv x3, iv (zz s 24 (x2 - 1).toNat), iv v9] [] (mkH B s16 l17) Q)))))))))))))) : a_W d 110 11 [.ref 17, iv x1, iv x2, iv x3, u4, u5] [] (mkH B s l) Q := by
  refine w_iln (p := 12) (q110 11) rfl rfl ?_
  refine w_ldc (p := 14) (n := 34000) (q110 12) rfl (by decide) ?_
  obtain ⟨h1, w⟩ := w
  by_cases c2 : 34000 ≤ x3
  · replace w := w.1 c2
    refine w_i2t (q110 14) h1 (by decide) c2 ?_
    exact w
  · replace w := w.2 (Int.not_le.mp c2)
    refine w_i2f (p := 17) (q110 14) rfl h1 (by decide) c2 ?_
    refine w_iln (p := 18) (q110 17) rfl rfl ?_
    obtain ⟨h3, w⟩ := w
    by_cases c4 : x2 ≤ 0
    · replace w := w.1 c4
      refine w_i1t (q110 18) h3 c4 ?_
      exact w
    · replace w := w.2 (Int.not_le.mp c4)
      refine w_i1f (p := 21) (q110 18) rfl h3 c4 ?_
      refine w_aln (p := 22) (q110 21) rfl rfl ?_
      refine w_gR (p := 25) (j := 6) (v := 24) (q110 22) rfl (r17 hB) (by decide) (f17_6 hB) ?_
      refine w_iln (p := 26) (q110 25) rfl rfl ?_
      refine w_ic (p := 27) (q110 26) rfl ?_
      refine w_sub (p := 28) (q110 27) rfl ?_
      obtain ⟨o5, w⟩ := w
      refine w_ia (p := 29) (v := (zz s 24 (x2 - 1).toNat)) (q110 28) rfl (r24 hB) (by decide) o5 (iv_zz s 24 (x2 - 1).toNat) ?_
      refine w_is (p := 31) (ls' := [.ref 17, iv x1, iv x2, iv x3, iv (zz s 24 (x2 - 1).toNat), u5]) (q110 29) rfl (Nat.le_of_ble_eq_true rfl) rfl ?_
      refine w_aln (p := 32) (q110 31) rfl rfl ?_
      refine w_gR (p := 35) (j := 5) (v := 23) (q110 32) rfl (r17 hB) (by decide) (f17_5 hB) ?_
      refine w_il (p := 37) (q110 35) rfl rfl ?_
      refine w_ic (p := 38) (q110 37) rfl ?_
      obtain ⟨o6, w⟩ := w
      refine w_ias (p := 39) (q110 38) rfl (r23 hB) (by decide) o6 ?_
      refine w_aln (p := 40) (q110 39) rfl rfl ?_
      refine w_il (p := 42) (q110 40) rfl rfl ?_
      refine w_call (st := []) (as := [.ref 17, iv (zz s 24 (x2 - 1).toNat)]) (as' := [iv (zz s 24 (x2 - 1).toNat), .ref 17]) (p := 45) (q110 42) rfl m111 (by decide) (a_ok_i rfl (r17 hB) rfl) rfl rfl (Nat.le_of_ble_eq_true rfl) (by omega) rfl rfl (a_W.imp w ?_)
      rintro _ ⟨v9, s7, l8, rfl, w⟩
      refine ⟨some (iv v9), _, rfl, ?_⟩
      show a_W _ 110 45 [.ref 17, iv x1, iv x2, iv x3, iv (zz s 24 (x2 - 1).toNat), u5] [iv v9] (mkH B s7 l8) _
      refine w_is (p := 47) (ls' := [.ref 17, iv x1, iv x2, iv x3, iv (zz s 24 (x2 - 1).toNat), iv v9]) (q110 45) rfl (Nat.le_of_ble_eq_true rfl) rfl ?_
      refine w_il (p := 49) (q110 47) rfl rfl ?_
      obtain ⟨h10, w⟩ := w
      by_cases c11 : 0 ≤ v9
      · replace w := w.1 c11
        refine w_i1t (q110 49) h10 c11 ?_
        refine w_aln (p := 65) (q110 64) rfl rfl ?_
        refine w_gR (p := 68) (j := 5) (v := 23) (q110 65) rfl (r17 hB) (by decide) (f17_5 hB) ?_
        refine w_il (p := 70) (q110 68) rfl rfl ?_
        obtain ⟨o12, w⟩ := w
        refine w_ia (p := 71) (v := (zz s7 23 v9.toNat)) (q110 70) rfl (r23 hB) (by decide) o12 (iv_zz s7 23 v9.toNat) ?_
        refine w_ic (p := 72) (q110 71) rfl ?_
        by_cases c13 : (zz s7 23 v9.toNat) = (-1)
        · replace w := w.1 c13
          refine w_i2t (q110 72) (inR_zz _ _ _) (by decide) c13 ?_
          exact w
        · replace w := w.2 c13
          refine w_i2f (p := 75) (q110 72) rfl (inR_zz _ _ _) (by decide) c13 ?_
          refine w_iln (p := 76) (q110 75) rfl rfl ?_
          refine w_sp (p := 79) (q110 76) rfl (by decide) ?_
          by_cases c14 : x2 < 17000
          · replace w := w.1 c14
            refine w_i2t (q110 79) h3 (by decide) c14 ?_
            refine w_aln (p := 85) (q110 84) rfl rfl ?_
            refine w_gR (p := 88) (j := 6) (v := 24) (q110 85) rfl (r17 hB) (by decide) (f17_6 hB) ?_
            refine w_iln (p := 89) (q110 88) rfl rfl ?_
            refine w_il (p := 91) (q110 89) rfl rfl ?_
            obtain ⟨o15, w⟩ := w
            refine w_ias (p := 92) (q110 91) rfl (r24 hB) (by decide) o15 ?_
            refine w_inc (p := 95) (ls' := [.ref 17, iv x1, iv (x2 + 1), iv x3, iv (zz s 24 (x2 - 1).toNat), iv v9]) (q110 92) rfl rfl rfl ?_
            exact w
          · replace w := w.2 (Int.not_lt.mp c14)
            refine w_i2f (p := 82) (q110 79) rfl h3 (by decide) c14 ?_
            exact w
      · replace w := w.2 (Int.not_le.mp c11)
        refine w_i1f (p := 52) (q110 49) rfl h10 c11 ?_
        refine w_aln (p := 53) (q110 52) rfl rfl ?_
        refine w_il (p := 55) (q110 53) rfl rfl ?_
        refine w_call (st := []) (as := [.ref 17, iv (zz s 24 (x2 - 1).toNat)]) (as' := [iv (zz s 24 (x2 - 1).toNat), .ref 17]) (p := 58) (q110 55) rfl m49 (by decide) (a_ok_i rfl (r17 hB) rfl) rfl rfl (Nat.le_of_ble_eq_true rfl) (by omega) rfl rfl (a_W.imp w ?_)
        rintro _ ⟨s16, l17, rfl, w⟩
        refine ⟨none, _, rfl, ?_⟩
        show a_W _ 110 58 [.ref 17, iv x1, iv x2, iv x3, iv (zz s 24 (x2 - 1).toNat), iv v9] [] (mkH B s16 l17) _
        refine w_inc (p := 61) (ls' := [.ref 17, iv x1, iv (x2 + (-1)), iv x3, iv (zz s 24 (x2 - 1).toNat), iv v9]) (q110 58) rfl rfl rfl ?_
        refine w_goto (q110 61) ?_
        exact w
theorem w110_82 {d : Nat} {B : aH} {Q : aR → Prop} (hB : a_Can B) (x1 x2 x3 x4 x5 : Int) (s : Nat → Nat → Int32) (l : Nat → Nat → Int64) (w : Q (.inl (some (iv 0)), (mkH B s l))) : a_W d 110 82 [.ref 17, iv x1, iv x2, iv x3, iv x4, iv x5] [] (mkH B s l) Q := by
  refine w_ic (p := 83) (q110 82) rfl ?_
  exact w_ret (q110 83) rfl w
theorem w110_95 {d : Nat} {B : aH} {Q : aR → Prop} (hB : a_Can B) (x1 x2 x3 x4 x5 : Int) (s : Nat → Nat → Int32) (l : Nat → Nat → Int64) (w : a_W d 110 11 [.ref 17, iv x1, iv x2, iv (x3 + 1), iv x4, iv x5] [] (mkH B s l) Q) : a_W d 110 95 [.ref 17, iv x1, iv x2, iv x3, iv x4, iv x5] [] (mkH B s l) Q := by
  refine w_inc (p := 98) (ls' := [.ref 17, iv x1, iv x2, iv (x3 + 1), iv x4, iv x5]) (q110 95) rfl rfl rfl ?_
  refine w_goto (q110 98) ?_
  exact w
theorem w110_101 {d : Nat} {B : aH} {Q : aR → Prop} (hB : a_Can B) (x1 x2 x3 : Int) (u4 u5 : Value) (s : Nat → Nat → Int32) (l : Nat → Nat → Int64) (w : Q (.inl (some (iv 1)), (mkH B s l))) : a_W d 110 101 [.ref 17, iv x1, iv x2, iv x3, u4, u5] [] (mkH B s l) Q := by
  refine w_ic (p := 102) (q110 101) rfl ?_
  exact w_ret (q110 102) rfl w
theorem w111_0 {d : Nat} {B : aH} {Q : aR → Prop} (hB : a_Can B) (hd : 1 ≤ d) (x1 : Int) (s : Nat → Nat → Int32) (l : Nat → Nat → Int64) (w : ((0 ≤ x1 ∧ x1 < 17000) ∧ (((zz s 19 x1.toNat) < 0 → a_W d 111 33 [.ref 17, iv x1] [] (mkH B s l) Q) ∧ (0 ≤ (zz s 19 x1.toNat) → a_W (d - 1) 52 0 [.ref 17, iv (zz s 19 x1.toNat)] [] (mkH B s l) (fun r => ∃ (v5 : Int) (s3 : Nat → Nat → Int32) (l4 : Nat → Nat → Int64), r = (.inl (some (iv v5)), mkH B s3 l4) ∧ (inR v5 ∧ ((0 < v5 → a_W d 111 33 [.ref 17, iv x1] [] (mkH B s3 l4) Q) ∧ (v5 ≤ 0 → a_W (d - 1) 51 0 [.ref 17, iv (zz s3 19 x1.toNat), .retAddr 0, .retAddr 0] [] (mkH B s3 l4) (fun r => ∃ (v10 : Int) (s8 : Nat → Nat → Int32) (l9 : Nat → Nat → Int64), r = (.inl (some (iv v10)), mkH B s8 l9) ∧ Q (.inl (some (iv v10)), (mkH B s8 l9))))))))))) : a_W d 111 0 [.ref 17, iv x1] [] (mkH B s l) Q := by
  refine w_aln (p := 1) (q111 0) rfl rfl ?_
  refine w_gR (p := 4) (j := 1) (v := 19) (q111 1) rfl (r17 hB) (by decide) (f17_1 hB) ?_
  refine w_iln (p := 5) (q111 4) rfl rfl ?_
  obtain ⟨o1, w⟩ := w
  refine w_ia (p := 6) (v := (zz s 19 x1.toNat)) (q111 5) rfl (r19 hB) (by decide) o1 (iv_zz s 19 x1.toNat) ?_
  by_cases c2 : (zz s 19 x1.toNat) < 0
  · replace w := w.1 c2
    refine w_i1t (q111 6) (inR_zz _ _ _) c2 ?_
    exact w
  · replace w := w.2 (Int.not_lt.mp c2)
    refine w_i1f (p := 9) (q111 6) rfl (inR_zz _ _ _) c2 ?_
    refine w_aln (p := 10) (q111 9) rfl rfl ?_
    refine w_aln (p := 11) (q111 10) rfl rfl ?_
    refine w_gR (p := 14) (j := 1) (v := 19) (q111 11) rfl (r17 hB) (by decide) (f17_1 hB) ?_
    refine w_iln (p := 15) (q111 14) rfl rfl ?_
    refine w_ia (p := 16) (v := (zz s 19 x1.toNat)) (q111 15) rfl (r19 hB) (by decide) o1 (iv_zz s 19 x1.toNat) ?_
    refine w_call (st := []) (as := [.ref 17, iv (zz s 19 x1.toNat)]) (as' := [iv (zz s 19 x1.toNat), .ref 17]) (p := 19) (q111 16) rfl m52 (by decide) (a_ok_i rfl (r17 hB) rfl) rfl rfl (Nat.le_of_ble_eq_true rfl) (by omega) rfl rfl (a_W.imp w ?_)
    rintro _ ⟨v5, s3, l4, rfl, w⟩
    refine ⟨some (iv v5), _, rfl, ?_⟩
    show a_W _ 111 19 [.ref 17, iv x1] [iv v5] (mkH B s3 l4) _
    obtain ⟨h6, w⟩ := w
    by_cases c7 : 0 < v5
    · replace w := w.1 c7
      refine w_i1t (q111 19) h6 c7 ?_
      exact w
    · replace w := w.2 (Int.not_lt.mp c7)
      refine w_i1f (p := 22) (q111 19) rfl h6 c7 ?_
      refine w_aln (p := 23) (q111 22) rfl rfl ?_
      refine w_aln (p := 24) (q111 23) rfl rfl ?_
      refine w_gR (p := 27) (j := 1) (v := 19) (q111 24) rfl (r17 hB) (by decide) (f17_1 hB) ?_
      refine w_iln (p := 28) (q111 27) rfl rfl ?_
      refine w_ia (p := 29) (v := (zz s3 19 x1.toNat)) (q111 28) rfl (r19 hB) (by decide) o1 (iv_zz s3 19 x1.toNat) ?_
      refine w_call (st := []) (as := [.ref 17, iv (zz s3 19 x1.toNat)]) (as' := [iv (zz s3 19 x1.toNat), .ref 17]) (p := 32) (q111 29) rfl m51 (by decide) (a_ok_i rfl (r17 hB) rfl) rfl rfl (Nat.le_of_ble_eq_true rfl) (by omega) rfl rfl (a_W.imp w ?_)
      rintro _ ⟨v10, s8, l9, rfl, w⟩
      refine ⟨some (iv v10), _, rfl, ?_⟩
      show a_W _ 111 32 [.ref 17, iv x1] [iv v10] (mkH B s8 l9) _
      exact w_ret (q111 32) rfl w
theorem w111_33 {d : Nat} {B : aH} {Q : aR → Prop} (hB : a_Can B) (hd : 1 ≤ d) (x1 : Int) (s : Nat → Nat → Int32) (l : Nat → Nat → Int64) (w : ((0 ≤ x1 ∧ x1 < 17000) ∧ (((zz s 20 x1.toNat) < 0 → a_W d 111 66 [.ref 17, iv x1] [] (mkH B s l) Q) ∧ (0 ≤ (zz s 20 x1.toNat) → a_W (d - 1) 52 0 [.ref 17, iv (zz s 20 x1.toNat)] [] (mkH B s l) (fun r => ∃ (v5 : Int) (s3 : Nat → Nat → Int32) (l4 : Nat → Nat → Int64), r = (.inl (some (iv v5)), mkH B s3 l4) ∧ (inR v5 ∧ ((0 < v5 → a_W d 111 66 [.ref 17, iv x1] [] (mkH B s3 l4) Q) ∧ (v5 ≤ 0 → a_W (d - 1) 51 0 [.ref 17, iv (zz s3 20 x1.toNat), .retAddr 0, .retAddr 0] [] (mkH B s3 l4) (fun r => ∃ (v10 : Int) (s8 : Nat → Nat → Int32) (l9 : Nat → Nat → Int64), r = (.inl (some (iv v10)), mkH B s8 l9) ∧ Q (.inl (some (iv v10)), (mkH B s8 l9))))))))))) : a_W d 111 33 [.ref 17, iv x1] [] (mkH B s l) Q := by
  refine w_aln (p := 34) (q111 33) rfl rfl ?_
  refine w_gR (p := 37) (j := 2) (v := 20) (q111 34) rfl (r17 hB) (by decide) (f17_2 hB) ?_
  refine w_iln (p := 38) (q111 37) rfl rfl ?_
  obtain ⟨o1, w⟩ := w
  refine w_ia (p := 39) (v := (zz s 20 x1.toNat)) (q111 38) rfl (r20 hB) (by decide) o1 (iv_zz s 20 x1.toNat) ?_
  by_cases c2 : (zz s 20 x1.toNat) < 0
  · replace w := w.1 c2
    refine w_i1t (q111 39) (inR_zz _ _ _) c2 ?_
    exact w
  · replace w := w.2 (Int.not_lt.mp c2)
    refine w_i1f (p := 42) (q111 39) rfl (inR_zz _ _ _) c2 ?_
    refine w_aln (p := 43) (q111 42) rfl rfl ?_
    refine w_aln (p := 44) (q111 43) rfl rfl ?_
    refine w_gR (p := 47) (j := 2) (v := 20) (q111 44) rfl (r17 hB) (by decide) (f17_2 hB) ?_
    refine w_iln (p := 48) (q111 47) rfl rfl ?_
    refine w_ia (p := 49) (v := (zz s 20 x1.toNat)) (q111 48) rfl (r20 hB) (by decide) o1 (iv_zz s 20 x1.toNat) ?_
    refine w_call (st := []) (as := [.ref 17, iv (zz s 20 x1.toNat)]) (as' := [iv (zz s 20 x1.toNat), .ref 17]) (p := 52) (q111 49) rfl m52 (by decide) (a_ok_i rfl (r17 hB) rfl) rfl rfl (Nat.le_of_ble_eq_true rfl) (by omega) rfl rfl (a_W.imp w ?_)
    rintro _ ⟨v5, s3, l4, rfl, w⟩
    refine ⟨some (iv v5), _, rfl, ?_⟩
    show a_W _ 111 52 [.ref 17, iv x1] [iv v5] (mkH B s3 l4) _
    obtain ⟨h6, w⟩ := w
    by_cases c7 : 0 < v5
    · replace w := w.1 c7
      refine w_i1t (q111 52) h6 c7 ?_
      exact w
    · replace w := w.2 (Int.not_lt.mp c7)
      refine w_i1f (p := 55) (q111 52) rfl h6 c7 ?_
      refine w_aln (p := 56) (q111 55) rfl rfl ?_
      refine w_aln (p := 57) (q111 56) rfl rfl ?_
      refine w_gR (p := 60) (j := 2) (v := 20) (q111 57) rfl (r17 hB) (by decide) (f17_2 hB) ?_
      refine w_iln (p := 61) (q111 60) rfl rfl ?_
      refine w_ia (p := 62) (v := (zz s3 20 x1.toNat)) (q111 61) rfl (r20 hB) (by decide) o1 (iv_zz s3 20 x1.toNat) ?_
      refine w_call (st := []) (as := [.ref 17, iv (zz s3 20 x1.toNat)]) (as' := [iv (zz s3 20 x1.toNat), .ref 17]) (p := 65) (q111 62) rfl m51 (by decide) (a_ok_i rfl (r17 hB) rfl) rfl rfl (Nat.le_of_ble_eq_true rfl) (by omega) rfl rfl (a_W.imp w ?_)
      rintro _ ⟨v10, s8, l9, rfl, w⟩
      refine ⟨some (iv v10), _, rfl, ?_⟩
      show a_W _ 111 65 [.ref 17, iv x1] [iv v10] (mkH B s8 l9) _
      exact w_ret (q111 65) rfl w
theorem w111_66 {d : Nat} {B : aH} {Q : aR → Prop} (hB : a_Can B) (x1 : Int) (s : Nat → Nat → Int32) (l : Nat → Nat → Int64) (w : Q (.inl (some (iv (-1))), (mkH B s l))) : a_W d 111 66 [.ref 17, iv x1] [] (mkH B s l) Q := by
  refine w_ic (p := 67) (q111 66) rfl ?_
  exact w_ret (q111 67) rfl w
theorem w112_0 {d : Nat} {B : aH} {Q : aR → Prop} (hB : a_Can B) (s : Nat → Nat → Int32) (l : Nat → Nat → Int64) (w : a_W d 112 2 [.ref 45, iv 1] [] (mkH B s l) Q) : a_W d 112 0 [.ref 45, .retAddr 0] [] (mkH B s l) Q := by
  refine w_ic (p := 1) (q112 0) rfl ?_
  refine w_isn (p := 2) (ls' := [.ref 45, iv 1]) (q112 1) rfl (Nat.le_of_ble_eq_true rfl) rfl ?_
  exact w
theorem w112_2 {d : Nat} {B : aH} {Q : aR → Prop} (hB : a_Can B) (hd : 1 ≤ d) (x1 : Int) (s : Nat → Nat → Int32) (l : Nat → Nat → Int64) (w : (inR x1 ∧ (((zz s 45 6) ≤ x1 → Q (.inl (some (iv 0)), (mkH B s l))) ∧ (x1 < (zz s 45 6) → ((0 ≤ x1 ∧ x1 < 501) ∧ a_W (d - 1) 75 0 [.ref 17, iv (zz s 49 x1.toNat)] [] (mkH B s l) (fun r => ∃ (v6 : Int) (s4 : Nat → Nat → Int32) (l5 : Nat → Nat → Int64), r = (.inl (some (iv v6)), mkH B s4 l5) ∧ (inR v6 ∧ ((v6 = 0 → a_W d 112 2 [.ref 45, iv (x1 + 1)] [] (mkH B s4 l5) Q) ∧ (v6 ≠ 0 → Q (.inl (some (iv 1)), (mkH B s4 l5))))))))))) : a_W d 112 2 [.ref 45, iv x1] [] (mkH B s l) Q := by
  refine w_iln (p := 3) (q112 2) rfl rfl ?_
  refine w_aln (p := 4) (q112 3) rfl rfl ?_
  refine w_gI (p := 7) (j := 6) (v := (zz s 45 6)) (q112 4) rfl (r45 hB) (by decide) (iv_zz s 45 6) ?_
  obtain ⟨h1, w⟩ := w
  by_cases c2 : (zz s 45 6) ≤ x1
  · replace w := w.1 c2
    refine w_i2t (q112 7) h1 (inR_zz _ _ _) c2 ?_
    refine w_ic (p := 35) (q112 34) rfl ?_
    exact w_ret (q112 35) rfl w
  · replace w := w.2 (Int.not_le.mp c2)
    refine w_i2f (p := 10) (q112 7) rfl h1 (inR_zz _ _ _) c2 ?_
    refine w_aln (p := 11) (q112 10) rfl rfl ?_
    refine w_gR (p := 14) (j := 5) (v := 17) (q112 11) rfl (r45 hB) (by decide) (f45_5 hB) ?_
    refine w_aln (p := 15) (q112 14) rfl rfl ?_
    refine w_gR (p := 18) (j := 3) (v := 49) (q112 15) rfl (r45 hB) (by decide) (f45_3 hB) ?_
    refine w_iln (p := 19) (q112 18) rfl rfl ?_
    obtain ⟨o3, w⟩ := w
    refine w_ia (p := 20) (v := (zz s 49 x1.toNat)) (q112 19) rfl (r49 hB) (by decide) o3 (iv_zz s 49 x1.toNat) ?_
    refine w_call (st := []) (as := [.ref 17, iv (zz s 49 x1.toNat)]) (as' := [iv (zz s 49 x1.toNat), .ref 17]) (p := 23) (q112 20) rfl m75 (by decide) (a_ok_i rfl (r17 hB) rfl) rfl rfl (Nat.le_of_ble_eq_true rfl) (by omega) rfl rfl (a_W.imp w ?_)
    rintro _ ⟨v6, s4, l5, rfl, w⟩
    refine ⟨some (iv v6), _, rfl, ?_⟩
    show a_W _ 112 23 [.ref 45, iv x1] [iv v6] (mkH B s4 l5) _
    obtain ⟨h7, w⟩ := w
    by_cases c8 : v6 = 0
    · replace w := w.1 c8
      refine w_i1t (q112 23) h7 c8 ?_
      refine w_inc (p := 31) (ls' := [.ref 45, iv (x1 + 1)]) (q112 28) rfl rfl rfl ?_
      refine w_goto (q112 31) ?_
      exact w
    · replace w := w.2 c8
      refine w_i1f (p := 26) (q112 23) rfl h7 c8 ?_
      refine w_ic (p := 27) (q112 26) rfl ?_
      exact w_ret (q112 27) rfl w
