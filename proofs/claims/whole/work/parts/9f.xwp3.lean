/-! printed by wip/am/mk9f.py: the reader writes types; a constant is declared -/
theorem w117_0 {d : Nat} {B : aH} {Q : aR → Prop} (hB : a_Can B) (x1 x2 : Int) (s : Nat → Nat → Int32) (l : Nat → Nat → Int64) (w : (inR x1 ∧ ((0 ≤ x1 → ((0 ≤ x2 ∧ x2 < 17000) ∧ Q (.inl (some (iv (x2 + 1))), (mkH B (zu s 24 x2.toNat x1) l)))) ∧ (x1 < 0 → Q (.inl (some (iv x2)), (mkH B s l)))))) : a_W d 117 0 [.ref 17, iv x1, iv x2] [] (mkH B s l) Q := by
  refine w_iln (p := 1) (q117 0) rfl rfl ?_
  obtain ⟨h1, w⟩ := w
  by_cases c2 : 0 ≤ x1
  · replace w := w.1 c2
    refine w_i1t (q117 1) h1 c2 ?_
    refine w_aln (p := 7) (q117 6) rfl rfl ?_
    refine w_gR (p := 10) (j := 6) (v := 24) (q117 7) rfl (r17 hB) (by decide) (f17_6 hB) ?_
    refine w_iln (p := 11) (q117 10) rfl rfl ?_
    refine w_iln (p := 12) (q117 11) rfl rfl ?_
    obtain ⟨o3, w⟩ := w
    refine w_ias (p := 13) (q117 12) rfl (r24 hB) (by decide) o3 ?_
    refine w_iln (p := 14) (q117 13) rfl rfl ?_
    refine w_ic (p := 15) (q117 14) rfl ?_
    refine w_add (p := 16) (q117 15) rfl ?_
    exact w_ret (q117 16) rfl w
  · replace w := w.2 (Int.not_le.mp c2)
    refine w_i1f (p := 4) (q117 1) rfl h1 c2 ?_
    refine w_iln (p := 5) (q117 4) rfl rfl ?_
    exact w_ret (q117 5) rfl w
theorem w116_0 {d : Nat} {B : aH} {Q : aR → Prop} (hB : a_Can B) (x1 : Int) (s : Nat → Nat → Int32) (l : Nat → Nat → Int64) (w : ((0 ≤ x1 ∧ x1 < 17000) ∧ (((zz s 18 x1.toNat) ≠ (-1000000) → Q (.inl (some (iv (zz s 18 x1.toNat))), (mkH B s l))) ∧ ((zz s 18 x1.toNat) = (-1000000) → Q (.inl (some (iv ((-1) - (zz s 17 9)))), (mkH B (zu (zu s 18 x1.toNat ((-1) - (zz s 17 9))) 17 9 ((zz s 17 9) + 1)) l)))))) : a_W d 116 0 [.ref 17, iv x1] [] (mkH B s l) Q := by
  refine w_aln (p := 1) (q116 0) rfl rfl ?_
  refine w_gR (p := 4) (j := 0) (v := 18) (q116 1) rfl (r17 hB) (by decide) (f17_0 hB) ?_
  refine w_iln (p := 5) (q116 4) rfl rfl ?_
  obtain ⟨o1, w⟩ := w
  refine w_ia (p := 6) (v := (zz s 18 x1.toNat)) (q116 5) rfl (r18 hB) (by decide) o1 (iv_zz s 18 x1.toNat) ?_
  refine w_ldc (p := 8) (n := (-1000000)) (q116 6) rfl (by decide) ?_
  by_cases c2 : (zz s 18 x1.toNat) ≠ (-1000000)
  · replace w := w.1 c2
    refine w_i2t (q116 8) (inR_zz _ _ _) (by decide) c2 ?_
    refine w_aln (p := 34) (q116 33) rfl rfl ?_
    refine w_gR (p := 37) (j := 0) (v := 18) (q116 34) rfl (r17 hB) (by decide) (f17_0 hB) ?_
    refine w_iln (p := 38) (q116 37) rfl rfl ?_
    refine w_ia (p := 39) (v := (zz s 18 x1.toNat)) (q116 38) rfl (r18 hB) (by decide) o1 (iv_zz s 18 x1.toNat) ?_
    exact w_ret (q116 39) rfl w
  · replace w := w.2 (Decidable.not_not.mp c2)
    refine w_i2f (p := 11) (q116 8) rfl (inR_zz _ _ _) (by decide) c2 ?_
    refine w_aln (p := 12) (q116 11) rfl rfl ?_
    refine w_gR (p := 15) (j := 0) (v := 18) (q116 12) rfl (r17 hB) (by decide) (f17_0 hB) ?_
    refine w_iln (p := 16) (q116 15) rfl rfl ?_
    refine w_ic (p := 17) (q116 16) rfl ?_
    refine w_aln (p := 18) (q116 17) rfl rfl ?_
    refine w_gI (p := 21) (j := 9) (v := (zz s 17 9)) (q116 18) rfl (r17 hB) (by decide) (iv_zz s 17 9) ?_
    refine w_sub (p := 22) (q116 21) rfl ?_
    refine w_ias (p := 23) (q116 22) rfl (r18 hB) (by decide) o1 ?_
    refine w_aln (p := 24) (q116 23) rfl rfl ?_
    refine w_dupr (p := 25) (q116 24) rfl ?_
    refine w_gI (p := 28) (j := 9) (v := (zz s 17 9)) (q116 25) rfl (r17 hB) (by decide) (iv_zz s 17 9) ?_
    refine w_ic (p := 29) (q116 28) rfl ?_
    refine w_add (p := 30) (q116 29) rfl ?_
    refine w_pI (p := 33) (j := 9) (q116 30) rfl (r17 hB) (by decide) rfl ?_
    refine w_aln (p := 34) (q116 33) rfl rfl ?_
    refine w_gR (p := 37) (j := 0) (v := 18) (q116 34) rfl (r17 hB) (by decide) (f17_0 hB) ?_
    refine w_iln (p := 38) (q116 37) rfl rfl ?_
    refine w_ia (p := 39) (v := ((-1) - (zz s 17 9))) (q116 38) rfl (r18 hB) (by decide) o1 (by unfold zu a_up; simp) ?_
    exact w_ret (q116 39) rfl w
theorem w115_0 {d : Nat} {B : aH} {Q : aR → Prop} (hB : a_Can B) (x1 x3 : Int) (s : Nat → Nat → Int32) (l : Nat → Nat → Int64) (w : a_W d 115 13 [.ref 17, iv x1, .ref 32, iv x3, iv 1, iv x3, .retAddr 0] [] (mkH B (zu s 24 0 x1) l) Q) : a_W d 115 0 [.ref 17, iv x1, .ref 32, iv x3, .retAddr 0, .retAddr 0, .retAddr 0] [] (mkH B s l) Q := by
  refine w_aln (p := 1) (q115 0) rfl rfl ?_
  refine w_gR (p := 4) (j := 6) (v := 24) (q115 1) rfl (r17 hB) (by decide) (f17_6 hB) ?_
  refine w_ic (p := 5) (q115 4) rfl ?_
  refine w_iln (p := 6) (q115 5) rfl rfl ?_
  refine w_ias (p := 7) (q115 6) rfl (r24 hB) (by decide) (by decide) ?_
  refine w_ic (p := 8) (q115 7) rfl ?_
  refine w_is (p := 10) (ls' := [.ref 17, iv x1, .ref 32, iv x3, iv 1, .retAddr 0, .retAddr 0]) (q115 8) rfl (Nat.le_of_ble_eq_true rfl) rfl ?_
  refine w_iln (p := 11) (q115 10) rfl rfl ?_
  refine w_is (p := 13) (ls' := [.ref 17, iv x1, .ref 32, iv x3, iv 1, iv x3, .retAddr 0]) (q115 11) rfl (Nat.le_of_ble_eq_true rfl) rfl ?_
  exact w
theorem w115_13 {d : Nat} {B : aH} {Q : aR → Prop} (hB : a_Can B) (hd : 1 ≤ d) (x1 x3 x4 x5 : Int) (u6 : Value) (s : Nat → Nat → Int32) (l : Nat → Nat → Int64) (w : (inR x5 ∧ ((4480 ≤ x5 → a_W d 115 95 [.ref 17, iv x1, .ref 32, iv x3, iv x4, iv x5, u6] [] (mkH B s l) Q) ∧ (x5 < 4480 → (inR x4 ∧ ((x4 ≤ 0 → a_W d 115 95 [.ref 17, iv x1, .ref 32, iv x3, iv x4, iv x5, u6] [] (mkH B s l) Q) ∧ (0 < x4 → ((16999 ≤ x4 → a_W d 115 95 [.ref 17, iv x1, .ref 32, iv x3, iv x4, iv x5, u6] [] (mkH B s l) Q) ∧ (x4 < 16999 → ((0 ≤ (x4 + (-1)) ∧ (x4 + (-1)) < 17000) ∧ a_W (d - 1) 51 0 [.ref 17, iv (zz s 24 (x4 + (-1)).toNat), .retAddr 0, .retAddr 0] [] (mkH B s l) (fun r => ∃ (v9 : Int) (s7 : Nat → Nat → Int32) (l8 : Nat → Nat → Int64), r = (.inl (some (iv v9)), mkH B s7 l8) ∧ ((0 ≤ v9 ∧ v9 < 17000) ∧ (((zz s7 18 v9.toNat) ≠ (-1000000) → ((0 ≤ x5 ∧ x5 < 4480) ∧ ((0 ≤ (zz s7 20 v9.toNat) → ((0 ≤ (zz s7 19 v9.toNat) → ((0 ≤ ((x4 + (-1)) + 1) ∧ ((x4 + (-1)) + 1) < 17000) ∧ a_W d 115 13 [.ref 17, iv x1, .ref 32, iv x3, iv (((x4 + (-1)) + 1) + 1), iv (x5 + 1), iv v9] [] (mkH B (zu (zu (zu s7 32 x5.toNat (zz s7 18 v9.toNat)) 24 (x4 + (-1)).toNat (zz s7 20 v9.toNat)) 24 ((x4 + (-1)) + 1).toNat (zz s7 19 v9.toNat)) l8) Q)) ∧ ((zz s7 19 v9.toNat) < 0 → a_W d 115 13 [.ref 17, iv x1, .ref 32, iv x3, iv ((x4 + (-1)) + 1), iv (x5 + 1), iv v9] [] (mkH B (zu (zu s7 32 x5.toNat (zz s7 18 v9.toNat)) 24 (x4 + (-1)).toNat (zz s7 20 v9.toNat)) l8) Q))) ∧ ((zz s7 20 v9.toNat) < 0 → ((0 ≤ (zz s7 19 v9.toNat) → a_W d 115 13 [.ref 17, iv x1, .ref 32, iv x3, iv ((x4 + (-1)) + 1), iv (x5 + 1), iv v9] [] (mkH B (zu (zu s7 32 x5.toNat (zz s7 18 v9.toNat)) 24 (x4 + (-1)).toNat (zz s7 19 v9.toNat)) l8) Q) ∧ ((zz s7 19 v9.toNat) < 0 → a_W d 115 13 [.ref 17, iv x1, .ref 32, iv x3, iv (x4 + (-1)), iv (x5 + 1), iv v9] [] (mkH B (zu s7 32 x5.toNat (zz s7 18 v9.toNat)) l8) Q)))))) ∧ ((zz s7 18 v9.toNat) = (-1000000) → ((0 ≤ x5 ∧ x5 < 4480) ∧ ((0 ≤ (zz s7 20 v9.toNat) → ((0 ≤ (zz s7 19 v9.toNat) → ((0 ≤ ((x4 + (-1)) + 1) ∧ ((x4 + (-1)) + 1) < 17000) ∧ a_W d 115 13 [.ref 17, iv x1, .ref 32, iv x3, iv (((x4 + (-1)) + 1) + 1), iv (x5 + 1), iv v9] [] (mkH B (zu (zu (zu (zu (zu s7 18 v9.toNat ((-1) - (zz s7 17 9))) 17 9 ((zz s7 17 9) + 1)) 32 x5.toNat ((-1) - (zz s7 17 9))) 24 (x4 + (-1)).toNat (zz s7 20 v9.toNat)) 24 ((x4 + (-1)) + 1).toNat (zz s7 19 v9.toNat)) l8) Q)) ∧ ((zz s7 19 v9.toNat) < 0 → a_W d 115 13 [.ref 17, iv x1, .ref 32, iv x3, iv ((x4 + (-1)) + 1), iv (x5 + 1), iv v9] [] (mkH B (zu (zu (zu (zu s7 18 v9.toNat ((-1) - (zz s7 17 9))) 17 9 ((zz s7 17 9) + 1)) 32 x5.toNat ((-1) - (zz s7 17 9))) 24 (x4 + (-1)).toNat (zz s7 20 v9.toNat)) l8) Q))) ∧ ((zz s7 20 v9.toNat) < 0 → ((0 ≤ (zz s7 19 v9.toNat) → a_W d 115 13 [.ref 17, iv x1, .ref 32, iv x3, iv ((x4 + (-1)) + 1), iv (x5 + 1), iv v9] [] (mkH B (zu (zu (zu (zu s7 18 v9.toNat ((-1) - (zz s7 17 9))) 17 9 ((zz s7 17 9) + 1)) 32 x5.toNat ((-1) - (zz s7 17 9))) 24 (x4 + (-1)).toNat (zz s7 19 v9.toNat)) l8) Q) ∧ ((zz s7 19 v9.toNat) < 0 → a_W d 115 13 [.ref 17, iv x1, .ref 32, iv x3, iv (x4 + (-1)), iv (x5 + 1), iv v9] [] (mkH B (zu (zu (zu s7 18 v9.toNat ((-1) - (zz s7 17 9))) 17 9 ((zz s7 17 9) + 1)) 32 x5.toNat ((-1) - (zz s7 17 9))) l8) Q))))))))))))))))))) : a_W d 115 13 [.ref 17, iv x1, .ref 32, iv x3, iv x4, iv x5, u6] [] (mkH B s l) Q := by
  refine w_il (p := 15) (q115 13) rfl rfl ?_
  refine w_aln (p := 16) (q115 15) rfl rfl ?_
  refine w_len (p := 17) (q115 16) rfl (r32 hB) (by decide) ?_
  obtain ⟨h1, w⟩ := w
  by_cases c2 : 4480 ≤ x5
  · replace w := w.1 c2
    refine w_i2t (q115 17) h1 (by decide) c2 ?_
    exact w
  · replace w := w.2 (Int.not_le.mp c2)
    refine w_i2f (p := 20) (q115 17) rfl h1 (by decide) c2 ?_
    refine w_il (p := 22) (q115 20) rfl rfl ?_
    obtain ⟨h3, w⟩ := w
    by_cases c4 : x4 ≤ 0
    · replace w := w.1 c4
      refine w_i1t (q115 22) h3 c4 ?_
      exact w
    · replace w := w.2 (Int.not_le.mp c4)
      refine w_i1f (p := 25) (q115 22) rfl h3 c4 ?_
      refine w_il (p := 27) (q115 25) rfl rfl ?_
      refine w_sp (p := 30) (q115 27) rfl (by decide) ?_
      by_cases c5 : 16999 ≤ x4
      · replace w := w.1 c5
        refine w_i2t (q115 30) h3 (by decide) c5 ?_
        exact w
      · replace w := w.2 (Int.not_le.mp c5)
        refine w_i2f (p := 33) (q115 30) rfl h3 (by decide) c5 ?_
        refine w_inc (p := 36) (ls' := [.ref 17, iv x1, .ref 32, iv x3, iv (x4 + (-1)), iv x5, u6]) (q115 33) rfl rfl rfl ?_
        refine w_aln (p := 37) (q115 36) rfl rfl ?_
        refine w_aln (p := 38) (q115 37) rfl rfl ?_
        refine w_gR (p := 41) (j := 6) (v := 24) (q115 38) rfl (r17 hB) (by decide) (f17_6 hB) ?_
        refine w_il (p := 43) (q115 41) rfl rfl ?_
        obtain ⟨o6, w⟩ := w
        refine w_ia (p := 44) (v := (zz s 24 (x4 + (-1)).toNat)) (q115 43) rfl (r24 hB) (by decide) o6 (iv_zz s 24 (x4 + (-1)).toNat) ?_
        refine w_call (st := []) (as := [.ref 17, iv (zz s 24 (x4 + (-1)).toNat)]) (as' := [iv (zz s 24 (x4 + (-1)).toNat), .ref 17]) (p := 47) (q115 44) rfl m51 (by decide) (a_ok_i rfl (r17 hB) rfl) rfl rfl (Nat.le_of_ble_eq_true rfl) (by omega) rfl rfl (a_W.imp w ?_)
        rintro _ ⟨v9, s7, l8, rfl, w⟩
        refine ⟨some (iv v9), _, rfl, ?_⟩
        show a_W _ 115 47 [.ref 17, iv x1, .ref 32, iv x3, iv (x4 + (-1)), iv x5, u6] [iv v9] (mkH B s7 l8) _
        refine w_is (p := 49) (ls' := [.ref 17, iv x1, .ref 32, iv x3, iv (x4 + (-1)), iv x5, iv v9]) (q115 47) rfl (Nat.le_of_ble_eq_true rfl) rfl ?_
        refine w_aln (p := 50) (q115 49) rfl rfl ?_
        refine w_il (p := 52) (q115 50) rfl rfl ?_
        refine w_aln (p := 53) (q115 52) rfl rfl ?_
        refine w_il (p := 55) (q115 53) rfl rfl ?_
        refine w_call (st := [iv x5, .ref 32]) (as := [.ref 17, iv v9]) (as' := [iv v9, .ref 17]) (p := 58) (q115 55) rfl m116 (by decide) (a_ok_i rfl (r17 hB) rfl) rfl rfl (Nat.le_of_ble_eq_true rfl) (by omega) rfl rfl ?_
        refine w_aln (p := 1) (q116 0) rfl rfl ?_
        refine w_gR (p := 4) (j := 0) (v := 18) (q116 1) rfl (r17 hB) (by decide) (f17_0 hB) ?_
        refine w_iln (p := 5) (q116 4) rfl rfl ?_
        obtain ⟨o10, w⟩ := w
        refine w_ia (p := 6) (v := (zz s7 18 v9.toNat)) (q116 5) rfl (r18 hB) (by decide) o10 (iv_zz s7 18 v9.toNat) ?_
        refine w_ldc (p := 8) (n := (-1000000)) (q116 6) rfl (by decide) ?_
        by_cases c11 : (zz s7 18 v9.toNat) ≠ (-1000000)
        · replace w := w.1 c11
          refine w_i2t (q116 8) (inR_zz _ _ _) (by decide) c11 ?_
          refine w_aln (p := 34) (q116 33) rfl rfl ?_
          refine w_gR (p := 37) (j := 0) (v := 18) (q116 34) rfl (r17 hB) (by decide) (f17_0 hB) ?_
          refine w_iln (p := 38) (q116 37) rfl rfl ?_
          refine w_ia (p := 39) (v := (zz s7 18 v9.toNat)) (q116 38) rfl (r18 hB) (by decide) o10 (iv_zz s7 18 v9.toNat) ?_
          refine w_ret (q116 39) rfl ⟨_, _, rfl, ?_⟩
          show a_W _ 115 58 [.ref 17, iv x1, .ref 32, iv x3, iv (x4 + (-1)), iv x5, iv v9] [iv (zz s7 18 v9.toNat), iv x5, .ref 32] _ _
          obtain ⟨o12, w⟩ := w
          refine w_ias (p := 59) (q115 58) rfl (r32 hB) (by decide) o12 ?_
          refine w_inc (p := 62) (ls' := [.ref 17, iv x1, .ref 32, iv x3, iv (x4 + (-1)), iv (x5 + 1), iv v9]) (q115 59) rfl rfl rfl ?_
          refine w_aln (p := 63) (q115 62) rfl rfl ?_
          refine w_aln (p := 64) (q115 63) rfl rfl ?_
          refine w_gR (p := 67) (j := 2) (v := 20) (q115 64) rfl (r17 hB) (by decide) (f17_2 hB) ?_
          refine w_il (p := 69) (q115 67) rfl rfl ?_
          refine w_ia (p := 70) (v := (zz s7 20 v9.toNat)) (q115 69) rfl (r20 hB) (by decide) o10 (iv_zz s7 20 v9.toNat) ?_
          refine w_il (p := 72) (q115 70) rfl rfl ?_
          refine w_call (st := []) (as := [.ref 17, iv (zz s7 20 v9.toNat), iv (x4 + (-1))]) (as' := [iv (x4 + (-1)), iv (zz s7 20 v9.toNat), .ref 17]) (p := 75) (q115 72) rfl m117 (by decide) (a_ok_i rfl (r17 hB) rfl) rfl rfl (Nat.le_of_ble_eq_true rfl) (by omega) rfl rfl ?_
          refine w_iln (p := 1) (q117 0) rfl rfl ?_
          by_cases c13 : 0 ≤ (zz s7 20 v9.toNat)
          · replace w := w.1 c13
            refine w_i1t (q117 1) (inR_zz _ _ _) c13 ?_
            refine w_aln (p := 7) (q117 6) rfl rfl ?_
            refine w_gR (p := 10) (j := 6) (v := 24) (q117 7) rfl (r17 hB) (by decide) (f17_6 hB) ?_
            refine w_iln (p := 11) (q117 10) rfl rfl ?_
            refine w_iln (p := 12) (q117 11) rfl rfl ?_
            refine w_ias (p := 13) (q117 12) rfl (r24 hB) (by decide) o6 ?_
            refine w_iln (p := 14) (q117 13) rfl rfl ?_
            refine w_ic (p := 15) (q117 14) rfl ?_
            refine w_add (p := 16) (q117 15) rfl ?_
            refine w_ret (q117 16) rfl ⟨_, _, rfl, ?_⟩
            show a_W _ 115 75 [.ref 17, iv x1, .ref 32, iv x3, iv (x4 + (-1)), iv (x5 + 1), iv v9] [iv ((x4 + (-1)) + 1)] _ _
            refine w_is (p := 77) (ls' := [.ref 17, iv x1, .ref 32, iv x3, iv ((x4 + (-1)) + 1), iv (x5 + 1), iv v9]) (q115 75) rfl (Nat.le_of_ble_eq_true rfl) rfl ?_
            refine w_aln (p := 78) (q115 77) rfl rfl ?_
            refine w_aln (p := 79) (q115 78) rfl rfl ?_
            refine w_gR (p := 82) (j := 1) (v := 19) (q115 79) rfl (r17 hB) (by decide) (f17_1 hB) ?_
            refine w_il (p := 84) (q115 82) rfl rfl ?_
            refine w_ia (p := 85) (v := (zz s7 19 v9.toNat)) (q115 84) rfl (r19 hB) (by decide) o10 (iv_zz s7 19 v9.toNat) ?_
            refine w_il (p := 87) (q115 85) rfl rfl ?_
            refine w_call (st := []) (as := [.ref 17, iv (zz s7 19 v9.toNat), iv ((x4 + (-1)) + 1)]) (as' := [iv ((x4 + (-1)) + 1), iv (zz s7 19 v9.toNat), .ref 17]) (p := 90) (q115 87) rfl m117 (by decide) (a_ok_i rfl (r17 hB) rfl) rfl rfl (Nat.le_of_ble_eq_true rfl) (by omega) rfl rfl ?_
            refine w_iln (p := 1) (q117 0) rfl rfl ?_
            by_cases c14 : 0 ≤ (zz s7 19 v9.toNat)
            · replace w := w.1 c14
              refine w_i1t (q117 1) (inR_zz _ _ _) c14 ?_
              refine w_aln (p := 7) (q117 6) rfl rfl ?_
              refine w_gR (p := 10) (j := 6) (v := 24) (q117 7) rfl (r17 hB) (by decide) (f17_6 hB) ?_
              refine w_iln (p := 11) (q117 10) rfl rfl ?_
              refine w_iln (p := 12) (q117 11) rfl rfl ?_
              obtain ⟨o15, w⟩ := w
              refine w_ias (p := 13) (q117 12) rfl (r24 hB) (by decide) o15 ?_
              refine w_iln (p := 14) (q117 13) rfl rfl ?_
              refine w_ic (p := 15) (q117 14) rfl ?_
              refine w_add (p := 16) (q117 15) rfl ?_
              refine w_ret (q117 16) rfl ⟨_, _, rfl, ?_⟩
              show a_W _ 115 90 [.ref 17, iv x1, .ref 32, iv x3, iv ((x4 + (-1)) + 1), iv (x5 + 1), iv v9] [iv (((x4 + (-1)) + 1) + 1)] _ _
              refine w_is (p := 92) (ls' := [.ref 17, iv x1, .ref 32, iv x3, iv (((x4 + (-1)) + 1) + 1), iv (x5 + 1), iv v9]) (q115 90) rfl (Nat.le_of_ble_eq_true rfl) rfl ?_
              refine w_goto (q115 92) ?_
              exact w
            · replace w := w.2 (Int.not_le.mp c14)
              refine w_i1f (p := 4) (q117 1) rfl (inR_zz _ _ _) c14 ?_
              refine w_iln (p := 5) (q117 4) rfl rfl ?_
              refine w_ret (q117 5) rfl ⟨_, _, rfl, ?_⟩
              show a_W _ 115 90 [.ref 17, iv x1, .ref 32, iv x3, iv ((x4 + (-1)) + 1), iv (x5 + 1), iv v9] [iv ((x4 + (-1)) + 1)] _ _
              refine w_is (p := 92) (ls' := [.ref 17, iv x1, .ref 32, iv x3, iv ((x4 + (-1)) + 1), iv (x5 + 1), iv v9]) (q115 90) rfl (Nat.le_of_ble_eq_true rfl) rfl ?_
              refine w_goto (q115 92) ?_
              exact w
          · replace w := w.2 (Int.not_le.mp c13)
            refine w_i1f (p := 4) (q117 1) rfl (inR_zz _ _ _) c13 ?_
            refine w_iln (p := 5) (q117 4) rfl rfl ?_
            refine w_ret (q117 5) rfl ⟨_, _, rfl, ?_⟩
            show a_W _ 115 75 [.ref 17, iv x1, .ref 32, iv x3, iv (x4 + (-1)), iv (x5 + 1), iv v9] [iv (x4 + (-1))] _ _
            refine w_is (p := 77) (ls' := [.ref 17, iv x1, .ref 32, iv x3, iv (x4 + (-1)), iv (x5 + 1), iv v9]) (q115 75) rfl (Nat.le_of_ble_eq_true rfl) rfl ?_
            refine w_aln (p := 78) (q115 77) rfl rfl ?_
            refine w_aln (p := 79) (q115 78) rfl rfl ?_
            refine w_gR (p := 82) (j := 1) (v := 19) (q115 79) rfl (r17 hB) (by decide) (f17_1 hB) ?_
            refine w_il (p := 84) (q115 82) rfl rfl ?_
            refine w_ia (p := 85) (v := (zz s7 19 v9.toNat)) (q115 84) rfl (r19 hB) (by decide) o10 (iv_zz s7 19 v9.toNat) ?_
            refine w_il (p := 87) (q115 85) rfl rfl ?_
            refine w_call (st := []) (as := [.ref 17, iv (zz s7 19 v9.toNat), iv (x4 + (-1))]) (as' := [iv (x4 + (-1)), iv (zz s7 19 v9.toNat), .ref 17]) (p := 90) (q115 87) rfl m117 (by decide) (a_ok_i rfl (r17 hB) rfl) rfl rfl (Nat.le_of_ble_eq_true rfl) (by omega) rfl rfl ?_
            refine w_iln (p := 1) (q117 0) rfl rfl ?_
            by_cases c16 : 0 ≤ (zz s7 19 v9.toNat)
            · replace w := w.1 c16
              refine w_i1t (q117 1) (inR_zz _ _ _) c16 ?_
              refine w_aln (p := 7) (q117 6) rfl rfl ?_
              refine w_gR (p := 10) (j := 6) (v := 24) (q117 7) rfl (r17 hB) (by decide) (f17_6 hB) ?_
              refine w_iln (p := 11) (q117 10) rfl rfl ?_
              refine w_iln (p := 12) (q117 11) rfl rfl ?_
              refine w_ias (p := 13) (q117 12) rfl (r24 hB) (by decide) o6 ?_
              refine w_iln (p := 14) (q117 13) rfl rfl ?_
              refine w_ic (p := 15) (q117 14) rfl ?_
              refine w_add (p := 16) (q117 15) rfl ?_
              refine w_ret (q117 16) rfl ⟨_, _, rfl, ?_⟩
              show a_W _ 115 90 [.ref 17, iv x1, .ref 32, iv x3, iv (x4 + (-1)), iv (x5 + 1), iv v9] [iv ((x4 + (-1)) + 1)] _ _
              refine w_is (p := 92) (ls' := [.ref 17, iv x1, .ref 32, iv x3, iv ((x4 + (-1)) + 1), iv (x5 + 1), iv v9]) (q115 90) rfl (Nat.le_of_ble_eq_true rfl) rfl ?_
              refine w_goto (q115 92) ?_
              exact w
            · replace w := w.2 (Int.not_le.mp c16)
              refine w_i1f (p := 4) (q117 1) rfl (inR_zz _ _ _) c16 ?_
              refine w_iln (p := 5) (q117 4) rfl rfl ?_
              refine w_ret (q117 5) rfl ⟨_, _, rfl, ?_⟩
              show a_W _ 115 90 [.ref 17, iv x1, .ref 32, iv x3, iv (x4 + (-1)), iv (x5 + 1), iv v9] [iv (x4 + (-1))] _ _
              refine w_is (p := 92) (ls' := [.ref 17, iv x1, .ref 32, iv x3, iv (x4 + (-1)), iv (x5 + 1), iv v9]) (q115 90) rfl (Nat.le_of_ble_eq_true rfl) rfl ?_
              refine w_goto (q115 92) ?_
              exact w
        · replace w := w.2 (Decidable.not_not.mp c11)
          refine w_i2f (p := 11) (q116 8) rfl (inR_zz _ _ _) (by decide) c11 ?_
          refine w_aln (p := 12) (q116 11) rfl rfl ?_
          refine w_gR (p := 15) (j := 0) (v := 18) (q116 12) rfl (r17 hB) (by decide) (f17_0 hB) ?_
          refine w_iln (p := 16) (q116 15) rfl rfl ?_
          refine w_ic (p := 17) (q116 16) rfl ?_
          refine w_aln (p := 18) (q116 17) rfl rfl ?_
          refine w_gI (p := 21) (j := 9) (v := (zz s7 17 9)) (q116 18) rfl (r17 hB) (by decide) (iv_zz s7 17 9) ?_
          refine w_sub (p := 22) (q116 21) rfl ?_
          refine w_ias (p := 23) (q116 22) rfl (r18 hB) (by decide) o10 ?_
          refine w_aln (p := 24) (q116 23) rfl rfl ?_
          refine w_dupr (p := 25) (q116 24) rfl ?_
          refine w_gI (p := 28) (j := 9) (v := (zz s7 17 9)) (q116 25) rfl (r17 hB) (by decide) (iv_zz s7 17 9) ?_
          refine w_ic (p := 29) (q116 28) rfl ?_
          refine w_add (p := 30) (q116 29) rfl ?_
          refine w_pI (p := 33) (j := 9) (q116 30) rfl (r17 hB) (by decide) rfl ?_
          refine w_aln (p := 34) (q116 33) rfl rfl ?_
          refine w_gR (p := 37) (j := 0) (v := 18) (q116 34) rfl (r17 hB) (by decide) (f17_0 hB) ?_
          refine w_iln (p := 38) (q116 37) rfl rfl ?_
          refine w_ia (p := 39) (v := ((-1) - (zz s7 17 9))) (q116 38) rfl (r18 hB) (by decide) o10 (by unfold zu a_up; simp) ?_
          refine w_ret (q116 39) rfl ⟨_, _, rfl, ?_⟩
          show a_W _ 115 58 [.ref 17, iv x1, .ref 32, iv x3, iv (x4 + (-1)), iv x5, iv v9] [iv ((-1) - (zz s7 17 9)), iv x5, .ref 32] _ _
          obtain ⟨o17, w⟩ := w
          refine w_ias (p := 59) (q115 58) rfl (r32 hB) (by decide) o17 ?_
          refine w_inc (p := 62) (ls' := [.ref 17, iv x1, .ref 32, iv x3, iv (x4 + (-1)), iv (x5 + 1), iv v9]) (q115 59) rfl rfl rfl ?_
          refine w_aln (p := 63) (q115 62) rfl rfl ?_
          refine w_aln (p := 64) (q115 63) rfl rfl ?_
          refine w_gR (p := 67) (j := 2) (v := 20) (q115 64) rfl (r17 hB) (by decide) (f17_2 hB) ?_
          refine w_il (p := 69) (q115 67) rfl rfl ?_
          refine w_ia (p := 70) (v := (zz s7 20 v9.toNat)) (q115 69) rfl (r20 hB) (by decide) o10 (iv_zz s7 20 v9.toNat) ?_
          refine w_il (p := 72) (q115 70) rfl rfl ?_
          refine w_call (st := []) (as := [.ref 17, iv (zz s7 20 v9.toNat), iv (x4 + (-1))]) (as' := [iv (x4 + (-1)), iv (zz s7 20 v9.toNat), .ref 17]) (p := 75) (q115 72) rfl m117 (by decide) (a_ok_i rfl (r17 hB) rfl) rfl rfl (Nat.le_of_ble_eq_true rfl) (by omega) rfl rfl ?_
          refine w_iln (p := 1) (q117 0) rfl rfl ?_
          by_cases c18 : 0 ≤ (zz s7 20 v9.toNat)
          · replace w := w.1 c18
            refine w_i1t (q117 1) (inR_zz _ _ _) c18 ?_
            refine w_aln (p := 7) (q117 6) rfl rfl ?_
            refine w_gR (p := 10) (j := 6) (v := 24) (q117 7) rfl (r17 hB) (by decide) (f17_6 hB) ?_
            refine w_iln (p := 11) (q117 10) rfl rfl ?_
            refine w_iln (p := 12) (q117 11) rfl rfl ?_
            refine w_ias (p := 13) (q117 12) rfl (r24 hB) (by decide) o6 ?_
            refine w_iln (p := 14) (q117 13) rfl rfl ?_
            refine w_ic (p := 15) (q117 14) rfl ?_
            refine w_add (p := 16) (q117 15) rfl ?_
            refine w_ret (q117 16) rfl ⟨_, _, rfl, ?_⟩
            show a_W _ 115 75 [.ref 17, iv x1, .ref 32, iv x3, iv (x4 + (-1)), iv (x5 + 1), iv v9] [iv ((x4 + (-1)) + 1)] _ _
            refine w_is (p := 77) (ls' := [.ref 17, iv x1, .ref 32, iv x3, iv ((x4 + (-1)) + 1), iv (x5 + 1), iv v9]) (q115 75) rfl (Nat.le_of_ble_eq_true rfl) rfl ?_
            refine w_aln (p := 78) (q115 77) rfl rfl ?_
            refine w_aln (p := 79) (q115 78) rfl rfl ?_
            refine w_gR (p := 82) (j := 1) (v := 19) (q115 79) rfl (r17 hB) (by decide) (f17_1 hB) ?_
            refine w_il (p := 84) (q115 82) rfl rfl ?_
            refine w_ia (p := 85) (v := (zz s7 19 v9.toNat)) (q115 84) rfl (r19 hB) (by decide) o10 (iv_zz s7 19 v9.toNat) ?_
            refine w_il (p := 87) (q115 85) rfl rfl ?_
            refine w_call (st := []) (as := [.ref 17, iv (zz s7 19 v9.toNat), iv ((x4 + (-1)) + 1)]) (as' := [iv ((x4 + (-1)) + 1), iv (zz s7 19 v9.toNat), .ref 17]) (p := 90) (q115 87) rfl m117 (by decide) (a_ok_i rfl (r17 hB) rfl) rfl rfl (Nat.le_of_ble_eq_true rfl) (by omega) rfl rfl ?_
            refine w_iln (p := 1) (q117 0) rfl rfl ?_
            by_cases c19 : 0 ≤ (zz s7 19 v9.toNat)
            · replace w := w.1 c19
              refine w_i1t (q117 1) (inR_zz _ _ _) c19 ?_
              refine w_aln (p := 7) (q117 6) rfl rfl ?_
              refine w_gR (p := 10) (j := 6) (v := 24) (q117 7) rfl (r17 hB) (by decide) (f17_6 hB) ?_
              refine w_iln (p := 11) (q117 10) rfl rfl ?_
              refine w_iln (p := 12) (q117 11) rfl rfl ?_
              obtain ⟨o20, w⟩ := w
              refine w_ias (p := 13) (q117 12) rfl (r24 hB) (by decide) o20 ?_
              refine w_iln (p := 14) (q117 13) rfl rfl ?_
              refine w_ic (p := 15) (q117 14) rfl ?_
              refine w_add (p := 16) (q117 15) rfl ?_
              refine w_ret (q117 16) rfl ⟨_, _, rfl, ?_⟩
              show a_W _ 115 90 [.ref 17, iv x1, .ref 32, iv x3, iv ((x4 + (-1)) + 1), iv (x5 + 1), iv v9] [iv (((x4 + (-1)) + 1) + 1)] _ _
              refine w_is (p := 92) (ls' := [.ref 17, iv x1, .ref 32, iv x3, iv (((x4 + (-1)) + 1) + 1), iv (x5 + 1), iv v9]) (q115 90) rfl (Nat.le_of_ble_eq_true rfl) rfl ?_
              refine w_goto (q115 92) ?_
              exact w
            · replace w := w.2 (Int.not_le.mp c19)
              refine w_i1f (p := 4) (q117 1) rfl (inR_zz _ _ _) c19 ?_
              refine w_iln (p := 5) (q117 4) rfl rfl ?_
              refine w_ret (q117 5) rfl ⟨_, _, rfl, ?_⟩
              show a_W _ 115 90 [.ref 17, iv x1, .ref 32, iv x3, iv ((x4 + (-1)) + 1), iv (x5 + 1), iv v9] [iv ((x4 + (-1)) + 1)] _ _
              refine w_is (p := 92) (ls' := [.ref 17, iv x1, .ref 32, iv x3, iv ((x4 + (-1)) + 1), iv (x5 + 1), iv v9]) (q115 90) rfl (Nat.le_of_ble_eq_true rfl) rfl ?_
              refine w_goto (q115 92) ?_
              exact w
          · replace w := w.2 (Int.not_le.mp c18)
            refine w_i1f (p := 4) (q117 1) rfl (inR_zz _ _ _) c18 ?_
            refine w_iln (p := 5) (q117 4) rfl rfl ?_
            refine w_ret (q117 5) rfl ⟨_, _, rfl, ?_⟩
            show a_W _ 115 75 [.ref 17, iv x1, .ref 32, iv x3, iv (x4 + (-1)), iv (x5 + 1), iv v9] [iv (x4 + (-1))] _ _
            refine w_is (p := 77) (ls' := [.ref 17, iv x1, .ref 32, iv x3, iv (x4 + (-1)), iv (x5 + 1), iv v9]) (q115 75) rfl (Nat.le_of_ble_eq_true rfl) rfl ?_
            refine w_aln (p := 78) (q115 77) rfl rfl ?_
            refine w_aln (p := 79) (q115 78) rfl rfl ?_
            refine w_gR (p := 82) (j := 1) (v := 19) (q115 79) rfl (r17 hB) (by decide) (f17_1 hB) ?_
            refine w_il (p := 84) (q115 82) rfl rfl ?_
            refine w_ia (p := 85) (v := (zz s7 19 v9.toNat)) (q115 84) rfl (r19 hB) (by decide) o10 (iv_zz s7 19 v9.toNat) ?_
            refine w_il (p := 87) (q115 85) rfl rfl ?_
            refine w_call (st := []) (as := [.ref 17, iv (zz s7 19 v9.toNat), iv (x4 + (-1))]) (as' := [iv (x4 + (-1)), iv (zz s7 19 v9.toNat), .ref 17]) (p := 90) (q115 87) rfl m117 (by decide) (a_ok_i rfl (r17 hB) rfl) rfl rfl (Nat.le_of_ble_eq_true rfl) (by omega) rfl rfl ?_
            refine w_iln (p := 1) (q117 0) rfl rfl ?_
            by_cases c21 : 0 ≤ (zz s7 19 v9.toNat)
            · replace w := w.1 c21
              refine w_i1t (q117 1) (inR_zz _ _ _) c21 ?_
              refine w_aln (p := 7) (q117 6) rfl rfl ?_
              refine w_gR (p := 10) (j := 6) (v := 24) (q117 7) rfl (r17 hB) (by decide) (f17_6 hB) ?_
              refine w_iln (p := 11) (q117 10) rfl rfl ?_
              refine w_iln (p := 12) (q117 11) rfl rfl ?_
              refine w_ias (p := 13) (q117 12) rfl (r24 hB) (by decide) o6 ?_
              refine w_iln (p := 14) (q117 13) rfl rfl ?_
              refine w_ic (p := 15) (q117 14) rfl ?_
              refine w_add (p := 16) (q117 15) rfl ?_
              refine w_ret (q117 16) rfl ⟨_, _, rfl, ?_⟩
              show a_W _ 115 90 [.ref 17, iv x1, .ref 32, iv x3, iv (x4 + (-1)), iv (x5 + 1), iv v9] [iv ((x4 + (-1)) + 1)] _ _
              refine w_is (p := 92) (ls' := [.ref 17, iv x1, .ref 32, iv x3, iv ((x4 + (-1)) + 1), iv (x5 + 1), iv v9]) (q115 90) rfl (Nat.le_of_ble_eq_true rfl) rfl ?_
              refine w_goto (q115 92) ?_
              exact w
            · replace w := w.2 (Int.not_le.mp c21)
              refine w_i1f (p := 4) (q117 1) rfl (inR_zz _ _ _) c21 ?_
              refine w_iln (p := 5) (q117 4) rfl rfl ?_
              refine w_ret (q117 5) rfl ⟨_, _, rfl, ?_⟩
              show a_W _ 115 90 [.ref 17, iv x1, .ref 32, iv x3, iv (x4 + (-1)), iv (x5 + 1), iv v9] [iv (x4 + (-1))] _ _
              refine w_is (p := 92) (ls' := [.ref 17, iv x1, .ref 32, iv x3, iv (x4 + (-1)), iv (x5 + 1), iv v9]) (q115 90) rfl (Nat.le_of_ble_eq_true rfl) rfl ?_
              refine w_goto (q115 92) ?_
              exact w
theorem w115_95 {d : Nat} {B : aH} {Q : aR → Prop} (hB : a_Can B) (x1 x3 x4 x5 : Int) (u6 : Value) (s : Nat → Nat → Int32) (l : Nat → Nat → Int64) (w : Q (.inl (some (iv x5)), (mkH B s l))) : a_W d 115 95 [.ref 17, iv x1, .ref 32, iv x3, iv x4, iv x5, u6] [] (mkH B s l) Q := by
  refine w_il (p := 97) (q115 95) rfl rfl ?_
  exact w_ret (q115 97) rfl w
theorem w124_0 {d : Nat} {B : aH} {Q : aR → Prop} (hB : a_Can B) (hd : 1 ≤ d) (x2 x3 x4 : Int) (s : Nat → Nat → Int32) (l : Nat → Nat → Int64) (w : a_W (d - 1) 5 0 [.ref 26, .ref 2, iv x2, iv x3, .retAddr 0, .retAddr 0] [] (mkH B s l) (fun r => ∃ (v3 : Int) (s1 : Nat → Nat → Int32) (l2 : Nat → Nat → Int64), r = (.inl (some (iv v3)), mkH B s1 l2) ∧ (inR v3 ∧ ((v3 < 0 → Q (.inl (some (iv v3)), (mkH B s1 l2))) ∧ (0 ≤ v3 → a_W (d - 1) 115 0 [.ref 17, iv x4, .ref 32, iv (v3 * 40), .retAddr 0, .retAddr 0, .retAddr 0] [] (mkH B s1 l2) (fun r => ∃ (v8 : Int) (s6 : Nat → Nat → Int32) (l7 : Nat → Nat → Int64), r = (.inl (some (iv v8)), mkH B s6 l7) ∧ ((0 ≤ v3 ∧ v3 < 112) ∧ Q (.inl (some (iv v3)), (mkH B (zu s6 33 v3.toNat v8) l7))))))))) : a_W d 124 0 [.ref 25, .ref 2, iv x2, iv x3, iv x4, .retAddr 0] [] (mkH B s l) Q := by
  refine w_aln (p := 1) (q124 0) rfl rfl ?_
  refine w_gR (p := 4) (j := 0) (v := 26) (q124 1) rfl (r25 hB) (by decide) (f25_0 hB) ?_
  refine w_aln (p := 5) (q124 4) rfl rfl ?_
  refine w_iln (p := 6) (q124 5) rfl rfl ?_
  refine w_iln (p := 7) (q124 6) rfl rfl ?_
  refine w_call (st := []) (as := [.ref 26, .ref 2, iv x2, iv x3]) (as' := [iv x3, iv x2, .ref 2, .ref 26]) (p := 10) (q124 7) rfl m5 (by decide) (a_ok_i rfl (r26 hB) rfl) rfl rfl (Nat.le_of_ble_eq_true rfl) (by omega) rfl rfl (a_W.imp w ?_)
  rintro _ ⟨v3, s1, l2, rfl, w⟩
  refine ⟨some (iv v3), _, rfl, ?_⟩
  show a_W _ 124 10 [.ref 25, .ref 2, iv x2, iv x3, iv x4, .retAddr 0] [iv v3] (mkH B s1 l2) _
  refine w_is (p := 12) (ls' := [.ref 25, .ref 2, iv x2, iv x3, iv x4, iv v3]) (q124 10) rfl (Nat.le_of_ble_eq_true rfl) rfl ?_
  refine w_il (p := 14) (q124 12) rfl rfl ?_
  obtain ⟨h4, w⟩ := w
  by_cases c5 : v3 < 0
  · replace w := w.1 c5
    refine w_i1t (q124 14) h4 c5 ?_
    refine w_il (p := 44) (q124 42) rfl rfl ?_
    exact w_ret (q124 44) rfl w
  · replace w := w.2 (Int.not_lt.mp c5)
    refine w_i1f (p := 17) (q124 14) rfl h4 c5 ?_
    refine w_aln (p := 18) (q124 17) rfl rfl ?_
    refine w_gR (p := 21) (j := 2) (v := 33) (q124 18) rfl (r25 hB) (by decide) (f25_2 hB) ?_
    refine w_il (p := 23) (q124 21) rfl rfl ?_
    refine w_aln (p := 24) (q124 23) rfl rfl ?_
    refine w_gR (p := 27) (j := 6) (v := 17) (q124 24) rfl (r25 hB) (by decide) (f25_6 hB) ?_
    refine w_il (p := 29) (q124 27) rfl rfl ?_
    refine w_aln (p := 30) (q124 29) rfl rfl ?_
    refine w_gR (p := 33) (j := 1) (v := 32) (q124 30) rfl (r25 hB) (by decide) (f25_1 hB) ?_
    refine w_il (p := 35) (q124 33) rfl rfl ?_
    refine w_bp (p := 37) (q124 35) rfl (by decide) ?_
    refine w_mulz (p := 38) (q124 37) rfl ?_
    refine w_call (st := [iv v3, .ref 33]) (as := [.ref 17, iv x4, .ref 32, iv (v3 * 40)]) (as' := [iv (v3 * 40), .ref 32, iv x4, .ref 17]) (p := 41) (q124 38) rfl m115 (by decide) (a_ok_i rfl (r17 hB) rfl) rfl rfl (Nat.le_of_ble_eq_true rfl) (by omega) rfl rfl (a_W.imp w ?_)
    rintro _ ⟨v8, s6, l7, rfl, w⟩
    refine ⟨some (iv v8), _, rfl, ?_⟩
    show a_W _ 124 41 [.ref 25, .ref 2, iv x2, iv x3, iv x4, iv v3] [iv v8, iv v3, .ref 33] (mkH B s6 l7) _
    obtain ⟨o9, w⟩ := w
    refine w_ias (p := 42) (q124 41) rfl (r33 hB) (by decide) o9 ?_
    refine w_il (p := 44) (q124 42) rfl rfl ?_
    exact w_ret (q124 44) rfl w
theorem w123_0 {d : Nat} {B : aH} {Q : aR → Prop} (hB : a_Can B) (hd : 1 ≤ d) (x1 x2 : Int) (s : Nat → Nat → Int32) (l : Nat → Nat → Int64) (w : a_W (d - 1) 39 0 [.ref 26, .ref 2, iv x1, iv x2, .retAddr 0, .retAddr 0] [] (mkH B s l) (fun r => ∃ (v3 : Int) (s1 : Nat → Nat → Int32) (l2 : Nat → Nat → Int64), r = (.inl (some (iv v3)), mkH B s1 l2) ∧ (inR v3 ∧ ((v3 < 0 → ((112 ≤ (zz s1 26 4) → Q (.inl (some (iv 8)), (mkH B s1 l2))) ∧ ((zz s1 26 4) < 112 → (((zz s1 36 5) = 0 → (((zz s1 36 6) = 0 → Q (.inl (some (iv 0)), (mkH B s1 l2))) ∧ ((zz s1 36 6) ≠ 0 → Q (.inl (some (iv 3)), (mkH B s1 l2))))) ∧ ((zz s1 36 5) ≠ 0 → Q (.inl (some (iv 8)), (mkH B s1 l2))))))) ∧ (0 ≤ v3 → Q (.inl (some (iv 4)), (mkH B s1 l2))))))) : a_W d 123 0 [.ref 0, iv x1, iv x2] [] (mkH B s l) Q := by
  refine w_aln (p := 1) (q123 0) rfl rfl ?_
  refine w_gR (p := 4) (j := 3) (v := 25) (q123 1) rfl (r0 hB) (by decide) (f0_3 hB) ?_
  refine w_gR (p := 7) (j := 0) (v := 26) (q123 4) rfl (r25 hB) (by decide) (f25_0 hB) ?_
  refine w_aln (p := 8) (q123 7) rfl rfl ?_
  refine w_gR (p := 11) (j := 0) (v := 1) (q123 8) rfl (r0 hB) (by decide) (f0_0 hB) ?_
  refine w_gR (p := 14) (j := 0) (v := 2) (q123 11) rfl (r1 hB) (by decide) (f1_0 hB) ?_
  refine w_iln (p := 15) (q123 14) rfl rfl ?_
  refine w_iln (p := 16) (q123 15) rfl rfl ?_
  refine w_call (st := []) (as := [.ref 26, .ref 2, iv x1, iv x2]) (as' := [iv x2, iv x1, .ref 2, .ref 26]) (p := 19) (q123 16) rfl m39 (by decide) (a_ok_i rfl (r26 hB) rfl) rfl rfl (Nat.le_of_ble_eq_true rfl) (by omega) rfl rfl (a_W.imp w ?_)
  rintro _ ⟨v3, s1, l2, rfl, w⟩
  refine ⟨some (iv v3), _, rfl, ?_⟩
  show a_W _ 123 19 [.ref 0, iv x1, iv x2] [iv v3] (mkH B s1 l2) _
  obtain ⟨h4, w⟩ := w
  by_cases c5 : v3 < 0
  · replace w := w.1 c5
    refine w_i1t (q123 19) h4 c5 ?_
    refine w_aln (p := 25) (q123 24) rfl rfl ?_
    refine w_gR (p := 28) (j := 3) (v := 25) (q123 25) rfl (r0 hB) (by decide) (f0_3 hB) ?_
    refine w_gR (p := 31) (j := 0) (v := 26) (q123 28) rfl (r25 hB) (by decide) (f25_0 hB) ?_
    refine w_gI (p := 34) (j := 4) (v := (zz s1 26 4)) (q123 31) rfl (r26 hB) (by decide) (iv_zz s1 26 4) ?_
    refine w_bp (p := 36) (q123 34) rfl (by decide) ?_
    by_cases c6 : 112 ≤ (zz s1 26 4)
    · replace w := w.1 c6
      refine w_i2t (q123 36) (inR_zz _ _ _) (by decide) c6 ?_
      refine w_bp (p := 51) (q123 49) rfl (by decide) ?_
      exact w_ret (q123 51) rfl w
    · replace w := w.2 (Int.not_le.mp c6)
      refine w_i2f (p := 39) (q123 36) rfl (inR_zz _ _ _) (by decide) c6 ?_
      refine w_aln (p := 40) (q123 39) rfl rfl ?_
      refine w_gR (p := 43) (j := 4) (v := 36) (q123 40) rfl (r0 hB) (by decide) (f0_4 hB) ?_
      refine w_gI (p := 46) (j := 5) (v := (zz s1 36 5)) (q123 43) rfl (r36 hB) (by decide) (iv_zz s1 36 5) ?_
      by_cases c7 : (zz s1 36 5) = 0
      · replace w := w.1 c7
        refine w_i1t (q123 46) (inR_zz _ _ _) c7 ?_
        refine w_aln (p := 53) (q123 52) rfl rfl ?_
        refine w_gR (p := 56) (j := 4) (v := 36) (q123 53) rfl (r0 hB) (by decide) (f0_4 hB) ?_
        refine w_gI (p := 59) (j := 6) (v := (zz s1 36 6)) (q123 56) rfl (r36 hB) (by decide) (iv_zz s1 36 6) ?_
        by_cases c8 : (zz s1 36 6) = 0
        · replace w := w.1 c8
          refine w_i1t (q123 59) (inR_zz _ _ _) c8 ?_
          refine w_ic (p := 67) (q123 66) rfl ?_
          exact w_ret (q123 67) rfl w
        · replace w := w.2 c8
          refine w_i1f (p := 62) (q123 59) rfl (inR_zz _ _ _) c8 ?_
          refine w_ic (p := 63) (q123 62) rfl ?_
          refine w_goto (q123 63) ?_
          exact w_ret (q123 67) rfl w
      · replace w := w.2 c7
        refine w_i1f (p := 49) (q123 46) rfl (inR_zz _ _ _) c7 ?_
        refine w_bp (p := 51) (q123 49) rfl (by decide) ?_
        exact w_ret (q123 51) rfl w
  · replace w := w.2 (Int.not_lt.mp c5)
    refine w_i1f (p := 22) (q123 19) rfl h4 c5 ?_
    refine w_ic (p := 23) (q123 22) rfl ?_
    exact w_ret (q123 23) rfl w
theorem w121_0 {d : Nat} {B : aH} {Q : aR → Prop} (hB : a_Can B) (hd : 2 ≤ d) (s : Nat → Nat → Int32) (l : Nat → Nat → Int64) (w : (((z122 (zz s 1 6)) = 0 → (((zz s 1 10) ≠ 0 → a_W d 121 47 [.ref 0, iv (zz s 1 7), iv (zz s 1 8), .retAddr 0] [] (mkH B s l) Q) ∧ ((zz s 1 10) = 0 → a_W d 121 47 [.ref 0, iv (zz s 1 7), iv (zz s 1 8), .retAddr 0] [] (mkH B (zu (zu (zu s 1 10 2) 1 11 (zz s 1 7)) 1 6 0) l) Q))) ∧ ((z122 (zz s 1 6)) ≠ 0 → a_W (d - 1) 24 0 [.ref 1, .retAddr 0] [] (mkH B s l) (fun r => ∃ (s3 : Nat → Nat → Int32) (l4 : Nat → Nat → Int64), r = (.inl none, mkH B s3 l4) ∧ a_W d 121 47 [.ref 0, iv (zz s 1 7), iv (zz s 1 8), .retAddr 0] [] (mkH B s3 l4) Q)))) : a_W d 121 0 [.ref 0, .retAddr 0, .retAddr 0, .retAddr 0] [] (mkH B s l) Q := by
  refine w_aln (p := 1) (q121 0) rfl rfl ?_
  refine w_gR (p := 4) (j := 0) (v := 1) (q121 1) rfl (r0 hB) (by decide) (f0_0 hB) ?_
  refine w_gI (p := 7) (j := 7) (v := (zz s 1 7)) (q121 4) rfl (r1 hB) (by decide) (iv_zz s 1 7) ?_
  refine w_isn (p := 8) (ls' := [.ref 0, iv (zz s 1 7), .retAddr 0, .retAddr 0]) (q121 7) rfl (Nat.le_of_ble_eq_true rfl) rfl ?_
  refine w_aln (p := 9) (q121 8) rfl rfl ?_
  refine w_gR (p := 12) (j := 0) (v := 1) (q121 9) rfl (r0 hB) (by decide) (f0_0 hB) ?_
  refine w_gI (p := 15) (j := 8) (v := (zz s 1 8)) (q121 12) rfl (r1 hB) (by decide) (iv_zz s 1 8) ?_
  refine w_isn (p := 16) (ls' := [.ref 0, iv (zz s 1 7), iv (zz s 1 8), .retAddr 0]) (q121 15) rfl (Nat.le_of_ble_eq_true rfl) rfl ?_
  refine w_aln (p := 17) (q121 16) rfl rfl ?_
  refine w_gR (p := 20) (j := 0) (v := 1) (q121 17) rfl (r0 hB) (by decide) (f0_0 hB) ?_
  refine w_gI (p := 23) (j := 6) (v := (zz s 1 6)) (q121 20) rfl (r1 hB) (by decide) (iv_zz s 1 6) ?_
  refine w_call (st := []) (as := [iv (zz s 1 6)]) (as' := [iv (zz s 1 6)]) (p := 26) (q121 23) rfl m122 (by decide) (a_ok_s rfl rfl) rfl rfl (Nat.le_of_ble_eq_true rfl) (by omega) rfl rfl (a_W.imp (p122 hB (zz s 1 6) _ _ (inR_zz _ _ _)) ?_)
  rintro _ rfl
  refine ⟨_, _, rfl, ?_⟩
  show a_W _ 121 26 [.ref 0, iv (zz s 1 7), iv (zz s 1 8), .retAddr 0] [iv (z122 (zz s 1 6))] _ _
  by_cases c1 : (z122 (zz s 1 6)) = 0
  · replace w := w.1 c1
    refine w_i1t (q121 26) (inR_z122 _) c1 ?_
    refine w_aln (p := 40) (q121 39) rfl rfl ?_
    refine w_gR (p := 43) (j := 0) (v := 1) (q121 40) rfl (r0 hB) (by decide) (f0_0 hB) ?_
    refine w_ic (p := 44) (q121 43) rfl ?_
    refine w_call (st := []) (as := [.ref 1, iv 2]) (as' := [iv 2, .ref 1]) (p := 47) (q121 44) rfl m28 (by decide) (a_ok_i rfl (r1 hB) rfl) rfl rfl (Nat.le_of_ble_eq_true rfl) (by omega) rfl rfl ?_
    refine w_aln (p := 1) (q28 0) rfl rfl ?_
    refine w_iln (p := 2) (q28 1) rfl rfl ?_
    refine w_aln (p := 3) (q28 2) rfl rfl ?_
    refine w_gI (p := 6) (j := 7) (v := (zz s 1 7)) (q28 3) rfl (r1 hB) (by decide) (iv_zz s 1 7) ?_
    refine w_call (st := []) (as := [.ref 1, iv 2, iv (zz s 1 7)]) (as' := [iv (zz s 1 7), iv 2, .ref 1]) (p := 9) (q28 6) rfl m29 (by decide) (a_ok_i rfl (r1 hB) rfl) rfl rfl (Nat.le_of_ble_eq_true rfl) (by omega) rfl rfl ?_
    refine w_aln (p := 1) (q29 0) rfl rfl ?_
    refine w_gI (p := 4) (j := 10) (v := (zz s 1 10)) (q29 1) rfl (r1 hB) (by decide) (iv_zz s 1 10) ?_
    by_cases c2 : (zz s 1 10) ≠ 0
    · replace w := w.1 c2
      refine w_i1t (q29 4) (inR_zz _ _ _) c2 ?_
      refine w_rv (q29 22) rfl ⟨_, _, rfl, ?_⟩
      show a_W _ 28 9 [.ref 1, iv 2] [] _ _
      refine w_rv (q28 9) rfl ⟨_, _, rfl, ?_⟩
      show a_W _ 121 47 [.ref 0, iv (zz s 1 7), iv (zz s 1 8), .retAddr 0] [] _ _
      exact w
    · replace w := w.2 (Decidable.not_not.mp c2)
      refine w_i1f (p := 7) (q29 4) rfl (inR_zz _ _ _) c2 ?_
      refine w_aln (p := 8) (q29 7) rfl rfl ?_
      refine w_iln (p := 9) (q29 8) rfl rfl ?_
      refine w_pI (p := 12) (j := 10) (q29 9) rfl (r1 hB) (by decide) rfl ?_
      refine w_aln (p := 13) (q29 12) rfl rfl ?_
      refine w_iln (p := 14) (q29 13) rfl rfl ?_
      refine w_pI (p := 17) (j := 11) (q29 14) rfl (r1 hB) (by decide) rfl ?_
      refine w_aln (p := 18) (q29 17) rfl rfl ?_
      refine w_ic (p := 19) (q29 18) rfl ?_
      refine w_pI (p := 22) (j := 6) (q29 19) rfl (r1 hB) (by decide) rfl ?_
      refine w_rv (q29 22) rfl ⟨_, _, rfl, ?_⟩
      show a_W _ 28 9 [.ref 1, iv 2] [] _ _
      refine w_rv (q28 9) rfl ⟨_, _, rfl, ?_⟩
      show a_W _ 121 47 [.ref 0, iv (zz s 1 7), iv (zz s 1 8), .retAddr 0] [] _ _
      exact w
  · replace w := w.2 c1
    refine w_i1f (p := 29) (q121 26) rfl (inR_z122 _) c1 ?_
    refine w_aln (p := 30) (q121 29) rfl rfl ?_
    refine w_gR (p := 33) (j := 0) (v := 1) (q121 30) rfl (r0 hB) (by decide) (f0_0 hB) ?_
    refine w_call (st := []) (as := [.ref 1]) (as' := [.ref 1]) (p := 36) (q121 33) rfl m24 (by decide) (a_ok_i rfl (r1 hB) rfl) rfl rfl (Nat.le_of_ble_eq_true rfl) (by omega) rfl rfl (a_W.imp w ?_)
    rintro _ ⟨s3, l4, rfl, w⟩
    refine ⟨none, _, rfl, ?_⟩
    show a_W _ 121 36 [.ref 0, iv (zz s 1 7), iv (zz s 1 8), .retAddr 0] [] (mkH B s3 l4) _
    refine w_goto (q121 36) ?_
    exact w
theorem w121_47 {d : Nat} {B : aH} {Q : aR → Prop} (hB : a_Can B) (hd : 3 ≤ d) (x1 x2 : Int) (s : Nat → Nat → Int32) (l : Nat → Nat → Int64) (w : a_W (d - 1) 63 0 [.ref 1, iv 6] [] (mkH B s l) (fun r => ∃ (s1 : Nat → Nat → Int32) (l2 : Nat → Nat → Int64), r = (.inl none, mkH B s1 l2) ∧ a_W (d - 1) 65 0 [.ref 36, iv 0, .retAddr 0, .retAddr 0, .retAddr 0] [] (mkH B s1 l2) (fun r => ∃ (v5 : Int) (s3 : Nat → Nat → Int32) (l4 : Nat → Nat → Int64), r = (.inl (some (iv v5)), mkH B s3 l4) ∧ (((zz s3 1 6) = 0 → (((zz s3 1 10) ≠ 0 → a_W d 121 95 [.ref 0, iv x1, iv x2, iv v5] [] (mkH B s3 l4) Q) ∧ ((zz s3 1 10) = 0 → a_W (d - 1) 123 0 [.ref 0, iv x1, iv x2] [] (mkH B s3 l4) (fun r => ∃ (v10 : Int) (s8 : Nat → Nat → Int32) (l9 : Nat → Nat → Int64), r = (.inl (some (iv v10)), mkH B s8 l9) ∧ a_W (d - 1) 113 0 [.ref 1, iv v10] [] (mkH B s8 l9) (fun r => ∃ (s11 : Nat → Nat → Int32) (l12 : Nat → Nat → Int64), r = (.inl none, mkH B s11 l12) ∧ a_W d 121 95 [.ref 0, iv x1, iv x2, iv v5] [] (mkH B s11 l12) Q))))) ∧ ((zz s3 1 6) ≠ 0 → (((zz s3 1 10) ≠ 0 → a_W d 121 95 [.ref 0, iv x1, iv x2, iv v5] [] (mkH B s3 l4) Q) ∧ ((zz s3 1 10) = 0 → a_W d 121 95 [.ref 0, iv x1, iv x2, iv v5] [] (mkH B (zu (zu (zu s3 1 10 2) 1 11 (zz s3 1 7)) 1 6 0) l4) Q))))))) : a_W d 121 47 [.ref 0, iv x1, iv x2, .retAddr 0] [] (mkH B s l) Q := by
  refine w_aln (p := 48) (q121 47) rfl rfl ?_
  refine w_gR (p := 51) (j := 0) (v := 1) (q121 48) rfl (r0 hB) (by decide) (f0_0 hB) ?_
  refine w_bp (p := 53) (q121 51) rfl (by decide) ?_
  refine w_call (st := []) (as := [.ref 1, iv 6]) (as' := [iv 6, .ref 1]) (p := 56) (q121 53) rfl m63 (by decide) (a_ok_i rfl (r1 hB) rfl) rfl rfl (Nat.le_of_ble_eq_true rfl) (by omega) rfl rfl (a_W.imp w ?_)
  rintro _ ⟨s1, l2, rfl, w⟩
  refine ⟨none, _, rfl, ?_⟩
  show a_W _ 121 56 [.ref 0, iv x1, iv x2, .retAddr 0] [] (mkH B s1 l2) _
  refine w_aln (p := 57) (q121 56) rfl rfl ?_
  refine w_gR (p := 60) (j := 4) (v := 36) (q121 57) rfl (r0 hB) (by decide) (f0_4 hB) ?_
  refine w_ic (p := 61) (q121 60) rfl ?_
  refine w_call (st := []) (as := [.ref 36, iv 0]) (as' := [iv 0, .ref 36]) (p := 64) (q121 61) rfl m65 (by decide) (a_ok_i rfl (r36 hB) rfl) rfl rfl (Nat.le_of_ble_eq_true rfl) (by omega) rfl rfl (a_W.imp w ?_)
  rintro _ ⟨v5, s3, l4, rfl, w⟩
  refine ⟨some (iv v5), _, rfl, ?_⟩
  show a_W _ 121 64 [.ref 0, iv x1, iv x2, .retAddr 0] [iv v5] (mkH B s3 l4) _
  refine w_isn (p := 65) (ls' := [.ref 0, iv x1, iv x2, iv v5]) (q121 64) rfl (Nat.le_of_ble_eq_true rfl) rfl ?_
  refine w_aln (p := 66) (q121 65) rfl rfl ?_
  refine w_gR (p := 69) (j := 0) (v := 1) (q121 66) rfl (r0 hB) (by decide) (f0_0 hB) ?_
  refine w_call (st := []) (as := [.ref 1]) (as' := [.ref 1]) (p := 72) (q121 69) rfl m106 (by decide) (a_ok_i rfl (r1 hB) rfl) rfl rfl (Nat.le_of_ble_eq_true rfl) (by omega) rfl rfl ?_
  refine w_aln (p := 1) (q106 0) rfl rfl ?_
  refine w_gI (p := 4) (j := 6) (v := (zz s3 1 6)) (q106 1) rfl (r1 hB) (by decide) (iv_zz s3 1 6) ?_
  by_cases c6 : (zz s3 1 6) = 0
  · replace w := w.1 c6
    refine w_i1t (q106 4) (inR_zz _ _ _) c6 ?_
    refine w_rv (q106 12) rfl ⟨_, _, rfl, ?_⟩
    show a_W _ 121 72 [.ref 0, iv x1, iv x2, iv v5] [] _ _
    refine w_aln (p := 73) (q121 72) rfl rfl ?_
    refine w_gR (p := 76) (j := 0) (v := 1) (q121 73) rfl (r0 hB) (by decide) (f0_0 hB) ?_
    refine w_call (st := []) (as := [.ref 1]) (as' := [.ref 1]) (p := 79) (q121 76) rfl m25 (by decide) (a_ok_i rfl (r1 hB) rfl) rfl rfl (Nat.le_of_ble_eq_true rfl) (by omega) rfl rfl ?_
    refine w_aln (p := 1) (q25 0) rfl rfl ?_
    refine w_gI (p := 4) (j := 10) (v := (zz s3 1 10)) (q25 1) rfl (r1 hB) (by decide) (iv_zz s3 1 10) ?_
    by_cases c7 : (zz s3 1 10) ≠ 0
    · replace w := w.1 c7
      refine w_i1t (q25 4) (inR_zz _ _ _) c7 ?_
      refine w_ic (p := 12) (q25 11) rfl ?_
      refine w_ret (q25 12) rfl ⟨_, _, rfl, ?_⟩
      show a_W _ 121 79 [.ref 0, iv x1, iv x2, iv v5] [iv 0] _ _
      refine w_i1t (q121 79) (by decide) (show zc _ _ _ by unfold zc; omega) ?_
      exact w
    · replace w := w.2 (Decidable.not_not.mp c7)
      refine w_i1f (p := 7) (q25 4) rfl (inR_zz _ _ _) c7 ?_
      refine w_ic (p := 8) (q25 7) rfl ?_
      refine w_goto (q25 8) ?_
      refine w_ret (q25 12) rfl ⟨_, _, rfl, ?_⟩
      show a_W _ 121 79 [.ref 0, iv x1, iv x2, iv v5] [iv 1] _ _
      refine w_i1f (p := 82) (q121 79) rfl (by decide) (show ¬ zc _ _ _ by unfold zc; omega) ?_
      refine w_aln (p := 83) (q121 82) rfl rfl ?_
      refine w_gR (p := 86) (j := 0) (v := 1) (q121 83) rfl (r0 hB) (by decide) (f0_0 hB) ?_
      refine w_aln (p := 87) (q121 86) rfl rfl ?_
      refine w_iln (p := 88) (q121 87) rfl rfl ?_
      refine w_iln (p := 89) (q121 88) rfl rfl ?_
      refine w_call (st := [.ref 1]) (as := [.ref 0, iv x1, iv x2]) (as' := [iv x2, iv x1, .ref 0]) (p := 92) (q121 89) rfl m123 (by decide) (a_ok_i rfl (r0 hB) rfl) rfl rfl (Nat.le_of_ble_eq_true rfl) (by omega) rfl rfl (a_W.imp w ?_)
      rintro _ ⟨v10, s8, l9, rfl, w⟩
      refine ⟨some (iv v10), _, rfl, ?_⟩
      show a_W _ 121 92 [.ref 0, iv x1, iv x2, iv v5] [iv v10, .ref 1] (mkH B s8 l9) _
      refine w_call (st := []) (as := [.ref 1, iv v10]) (as' := [iv v10, .ref 1]) (p := 95) (q121 92) rfl m113 (by decide) (a_ok_i rfl (r1 hB) rfl) rfl rfl (Nat.le_of_ble_eq_true rfl) (by omega) rfl rfl (a_W.imp w ?_)
      rintro _ ⟨s11, l12, rfl, w⟩
      refine ⟨none, _, rfl, ?_⟩
      show a_W _ 121 95 [.ref 0, iv x1, iv x2, iv v5] [] (mkH B s11 l12) _
      exact w
  · replace w := w.2 c6
    refine w_i1f (p := 7) (q106 4) rfl (inR_zz _ _ _) c6 ?_
    refine w_aln (p := 8) (q106 7) rfl rfl ?_
    refine w_ic (p := 9) (q106 8) rfl ?_
    refine w_call (st := []) (as := [.ref 1, iv 2]) (as' := [iv 2, .ref 1]) (p := 12) (q106 9) rfl m28 (by decide) (a_ok_i rfl (r1 hB) rfl) rfl rfl (Nat.le_of_ble_eq_true rfl) (by omega) rfl rfl ?_
    refine w_aln (p := 1) (q28 0) rfl rfl ?_
    refine w_iln (p := 2) (q28 1) rfl rfl ?_
    refine w_aln (p := 3) (q28 2) rfl rfl ?_
    refine w_gI (p := 6) (j := 7) (v := (zz s3 1 7)) (q28 3) rfl (r1 hB) (by decide) (iv_zz s3 1 7) ?_
    refine w_call (st := []) (as := [.ref 1, iv 2, iv (zz s3 1 7)]) (as' := [iv (zz s3 1 7), iv 2, .ref 1]) (p := 9) (q28 6) rfl m29 (by decide) (a_ok_i rfl (r1 hB) rfl) rfl rfl (Nat.le_of_ble_eq_true rfl) (by omega) rfl rfl ?_
    refine w_aln (p := 1) (q29 0) rfl rfl ?_
    refine w_gI (p := 4) (j := 10) (v := (zz s3 1 10)) (q29 1) rfl (r1 hB) (by decide) (iv_zz s3 1 10) ?_
    by_cases c13 : (zz s3 1 10) ≠ 0
    · replace w := w.1 c13
      refine w_i1t (q29 4) (inR_zz _ _ _) c13 ?_
      refine w_rv (q29 22) rfl ⟨_, _, rfl, ?_⟩
      show a_W _ 28 9 [.ref 1, iv 2] [] _ _
      refine w_rv (q28 9) rfl ⟨_, _, rfl, ?_⟩
      show a_W _ 106 12 [.ref 1] [] _ _
      refine w_rv (q106 12) rfl ⟨_, _, rfl, ?_⟩
      show a_W _ 121 72 [.ref 0, iv x1, iv x2, iv v5] [] _ _
      refine w_aln (p := 73) (q121 72) rfl rfl ?_
      refine w_gR (p := 76) (j := 0) (v := 1) (q121 73) rfl (r0 hB) (by decide) (f0_0 hB) ?_
      refine w_call (st := []) (as := [.ref 1]) (as' := [.ref 1]) (p := 79) (q121 76) rfl m25 (by decide) (a_ok_i rfl (r1 hB) rfl) rfl rfl (Nat.le_of_ble_eq_true rfl) (by omega) rfl rfl ?_
      refine w_aln (p := 1) (q25 0) rfl rfl ?_
      refine w_gI (p := 4) (j := 10) (v := (zz s3 1 10)) (q25 1) rfl (r1 hB) (by decide) (iv_zz s3 1 10) ?_
      refine w_i1t (q25 4) (inR_zz _ _ _) (show zc _ _ _ by unfold zc; omega) ?_
      refine w_ic (p := 12) (q25 11) rfl ?_
      refine w_ret (q25 12) rfl ⟨_, _, rfl, ?_⟩
      show a_W _ 121 79 [.ref 0, iv x1, iv x2, iv v5] [iv 0] _ _
      refine w_i1t (q121 79) (by decide) (show zc _ _ _ by unfold zc; omega) ?_
      exact w
    · replace w := w.2 (Decidable.not_not.mp c13)
      refine w_i1f (p := 7) (q29 4) rfl (inR_zz _ _ _) c13 ?_
      refine w_aln (p := 8) (q29 7) rfl rfl ?_
      refine w_iln (p := 9) (q29 8) rfl rfl ?_
      refine w_pI (p := 12) (j := 10) (q29 9) rfl (r1 hB) (by decide) rfl ?_
      refine w_aln (p := 13) (q29 12) rfl rfl ?_
      refine w_iln (p := 14) (q29 13) rfl rfl ?_
      refine w_pI (p := 17) (j := 11) (q29 14) rfl (r1 hB) (by decide) rfl ?_
      refine w_aln (p := 18) (q29 17) rfl rfl ?_
      refine w_ic (p := 19) (q29 18) rfl ?_
      refine w_pI (p := 22) (j := 6) (q29 19) rfl (r1 hB) (by decide) rfl ?_
      refine w_rv (q29 22) rfl ⟨_, _, rfl, ?_⟩
      show a_W _ 28 9 [.ref 1, iv 2] [] _ _
      refine w_rv (q28 9) rfl ⟨_, _, rfl, ?_⟩
      show a_W _ 106 12 [.ref 1] [] _ _
      refine w_rv (q106 12) rfl ⟨_, _, rfl, ?_⟩
      show a_W _ 121 72 [.ref 0, iv x1, iv x2, iv v5] [] _ _
      refine w_aln (p := 73) (q121 72) rfl rfl ?_
      refine w_gR (p := 76) (j := 0) (v := 1) (q121 73) rfl (r0 hB) (by decide) (f0_0 hB) ?_
      refine w_call (st := []) (as := [.ref 1]) (as' := [.ref 1]) (p := 79) (q121 76) rfl m25 (by decide) (a_ok_i rfl (r1 hB) rfl) rfl rfl (Nat.le_of_ble_eq_true rfl) (by omega) rfl rfl ?_
      refine w_aln (p := 1) (q25 0) rfl rfl ?_
      refine w_gI (p := 4) (j := 10) (v := 2) (q25 1) rfl (r1 hB) (by decide) rfl ?_
      refine w_i1t (q25 4) (by decide) (show zc _ _ _ by unfold zc; omega) ?_
      refine w_ic (p := 12) (q25 11) rfl ?_
      refine w_ret (q25 12) rfl ⟨_, _, rfl, ?_⟩
      show a_W _ 121 79 [.ref 0, iv x1, iv x2, iv v5] [iv 0] _ _
      refine w_i1t (q121 79) (by decide) (show zc _ _ _ by unfold zc; omega) ?_
      exact w
theorem w121_95 {d : Nat} {B : aH} {Q : aR → Prop} (hB : a_Can B) (hd : 1 ≤ d) (x1 x2 x3 : Int) (s : Nat → Nat → Int32) (l : Nat → Nat → Int64) (w : (((zz s 1 10) ≠ 0 → Q (.inl (some (iv (-1))), (mkH B s l))) ∧ ((zz s 1 10) = 0 → a_W (d - 1) 124 0 [.ref 25, .ref 2, iv x1, iv x2, iv x3, .retAddr 0] [] (mkH B s l) (fun r => ∃ (v4 : Int) (s2 : Nat → Nat → Int32) (l3 : Nat → Nat → Int64), r = (.inl (some (iv v4)), mkH B s2 l3) ∧ Q (.inl (some (iv v4)), (mkH B s2 l3)))))) : a_W d 121 95 [.ref 0, iv x1, iv x2, iv x3] [] (mkH B s l) Q := by
  refine w_aln (p := 96) (q121 95) rfl rfl ?_
  refine w_gR (p := 99) (j := 0) (v := 1) (q121 96) rfl (r0 hB) (by decide) (f0_0 hB) ?_
  refine w_call (st := []) (as := [.ref 1]) (as' := [.ref 1]) (p := 102) (q121 99) rfl m25 (by decide) (a_ok_i rfl (r1 hB) rfl) rfl rfl (Nat.le_of_ble_eq_true rfl) (by omega) rfl rfl ?_
  refine w_aln (p := 1) (q25 0) rfl rfl ?_
  refine w_gI (p := 4) (j := 10) (v := (zz s 1 10)) (q25 1) rfl (r1 hB) (by decide) (iv_zz s 1 10) ?_
  by_cases c1 : (zz s 1 10) ≠ 0
  · replace w := w.1 c1
    refine w_i1t (q25 4) (inR_zz _ _ _) c1 ?_
    refine w_ic (p := 12) (q25 11) rfl ?_
    refine w_ret (q25 12) rfl ⟨_, _, rfl, ?_⟩
    show a_W _ 121 102 [.ref 0, iv x1, iv x2, iv x3] [iv 0] _ _
    refine w_i1f (p := 105) (q121 102) rfl (by decide) (show ¬ zc _ _ _ by unfold zc; omega) ?_
    refine w_ic (p := 106) (q121 105) rfl ?_
    exact w_ret (q121 106) rfl w
  · replace w := w.2 (Decidable.not_not.mp c1)
    refine w_i1f (p := 7) (q25 4) rfl (inR_zz _ _ _) c1 ?_
    refine w_ic (p := 8) (q25 7) rfl ?_
    refine w_goto (q25 8) ?_
    refine w_ret (q25 12) rfl ⟨_, _, rfl, ?_⟩
    show a_W _ 121 102 [.ref 0, iv x1, iv x2, iv x3] [iv 1] _ _
    refine w_i1t (q121 102) (by decide) (show zc _ _ _ by unfold zc; omega) ?_
    refine w_aln (p := 108) (q121 107) rfl rfl ?_
    refine w_gR (p := 111) (j := 3) (v := 25) (q121 108) rfl (r0 hB) (by decide) (f0_3 hB) ?_
    refine w_aln (p := 112) (q121 111) rfl rfl ?_
    refine w_gR (p := 115) (j := 0) (v := 1) (q121 112) rfl (r0 hB) (by decide) (f0_0 hB) ?_
    refine w_gR (p := 118) (j := 0) (v := 2) (q121 115) rfl (r1 hB) (by decide) (f1_0 hB) ?_
    refine w_iln (p := 119) (q121 118) rfl rfl ?_
    refine w_iln (p := 120) (q121 119) rfl rfl ?_
    refine w_iln (p := 121) (q121 120) rfl rfl ?_
    refine w_call (st := []) (as := [.ref 25, .ref 2, iv x1, iv x2, iv x3]) (as' := [iv x3, iv x2, iv x1, .ref 2, .ref 25]) (p := 124) (q121 121) rfl m124 (by decide) (a_ok_i rfl (r25 hB) rfl) rfl rfl (Nat.le_of_ble_eq_true rfl) (by omega) rfl rfl (a_W.imp w ?_)
    rintro _ ⟨v4, s2, l3, rfl, w⟩
    refine ⟨some (iv v4), _, rfl, ?_⟩
    show a_W _ 121 124 [.ref 0, iv x1, iv x2, iv x3] [iv v4] (mkH B s2 l3) _
    exact w_ret (q121 124) rfl w
