/-! printed by wip/am/mk9c.py: what a written type means, with the reference -/
theorem w137_0 {d : Nat} {B : aH} {Q : aR → Prop} (hB : a_Can B) (x1 x2 x3 : Int) (s : Nat → Nat → Int32) (l : Nat → Nat → Int64) (w : ((0 ≤ (zz s 56 16) ∧ (zz s 56 16) < 60000) ∧ Q (.inl (some (iv (((zz s 56 16) + 1) - 1))), (mkH B (zu (zu (zu (zu (zu s 64 (zz s 56 16).toNat x1) 65 (zz s 56 16).toNat x2) 66 (zz s 56 16).toNat x3) 67 (zz s 56 16).toNat (-1)) 56 16 ((zz s 56 16) + 1)) l)))) : a_W d 137 0 [.ref 56, iv x1, iv x2, iv x3] [] (mkH B s l) Q := by
  refine w_aln (p := 1) (q137 0) rfl rfl ?_
  refine w_gR (p := 4) (j := 12) (v := 64) (q137 1) rfl (r56 hB) (by decide) (f56_12 hB) ?_
  refine w_aln (p := 5) (q137 4) rfl rfl ?_
  refine w_gI (p := 8) (j := 16) (v := (zz s 56 16)) (q137 5) rfl (r56 hB) (by decide) (iv_zz s 56 16) ?_
  refine w_iln (p := 9) (q137 8) rfl rfl ?_
  obtain ⟨o1, w⟩ := w
  refine w_ias (p := 10) (q137 9) rfl (r64 hB) (by decide) o1 ?_
  refine w_aln (p := 11) (q137 10) rfl rfl ?_
  refine w_gR (p := 14) (j := 13) (v := 65) (q137 11) rfl (r56 hB) (by decide) (f56_13 hB) ?_
  refine w_aln (p := 15) (q137 14) rfl rfl ?_
  refine w_gI (p := 18) (j := 16) (v := (zz s 56 16)) (q137 15) rfl (r56 hB) (by decide) (iv_zz s 56 16) ?_
  refine w_iln (p := 19) (q137 18) rfl rfl ?_
  refine w_ias (p := 20) (q137 19) rfl (r65 hB) (by decide) o1 ?_
  refine w_aln (p := 21) (q137 20) rfl rfl ?_
  refine w_gR (p := 24) (j := 14) (v := 66) (q137 21) rfl (r56 hB) (by decide) (f56_14 hB) ?_
  refine w_aln (p := 25) (q137 24) rfl rfl ?_
  refine w_gI (p := 28) (j := 16) (v := (zz s 56 16)) (q137 25) rfl (r56 hB) (by decide) (iv_zz s 56 16) ?_
  refine w_iln (p := 29) (q137 28) rfl rfl ?_
  refine w_ias (p := 30) (q137 29) rfl (r66 hB) (by decide) o1 ?_
  refine w_aln (p := 31) (q137 30) rfl rfl ?_
  refine w_gR (p := 34) (j := 15) (v := 67) (q137 31) rfl (r56 hB) (by decide) (f56_15 hB) ?_
  refine w_aln (p := 35) (q137 34) rfl rfl ?_
  refine w_gI (p := 38) (j := 16) (v := (zz s 56 16)) (q137 35) rfl (r56 hB) (by decide) (iv_zz s 56 16) ?_
  refine w_ic (p := 39) (q137 38) rfl ?_
  refine w_ias (p := 40) (q137 39) rfl (r67 hB) (by decide) o1 ?_
  refine w_aln (p := 41) (q137 40) rfl rfl ?_
  refine w_dupr (p := 42) (q137 41) rfl ?_
  refine w_gI (p := 45) (j := 16) (v := (zz s 56 16)) (q137 42) rfl (r56 hB) (by decide) (iv_zz s 56 16) ?_
  refine w_ic (p := 46) (q137 45) rfl ?_
  refine w_add (p := 47) (q137 46) rfl ?_
  refine w_pI (p := 50) (j := 16) (q137 47) rfl (r56 hB) (by decide) rfl ?_
  refine w_aln (p := 51) (q137 50) rfl rfl ?_
  refine w_gI (p := 54) (j := 16) (v := ((zz s 56 16) + 1)) (q137 51) rfl (r56 hB) (by decide) rfl ?_
  refine w_ic (p := 55) (q137 54) rfl ?_
  refine w_sub (p := 56) (q137 55) rfl ?_
  exact w_ret (q137 56) rfl w
theorem w183_0 {d : Nat} {B : aH} {Q : aR → Prop} (hB : a_Can B) (hd : 1 ≤ d) (x1 : Int) (s : Nat → Nat → Int32) (l : Nat → Nat → Int64) (w : ((0 ≤ x1 ∧ x1 < 12100) ∧ ((40 < (zz s 80 x1.toNat) → (((zz s 56 22) ≤ 0 → Q (.inl none, (mkH B (zu (zu s 56 22 8) 56 23 (zz s 72 0)) l))) ∧ (0 < (zz s 56 22) → Q (.inl none, (mkH B s l))))) ∧ ((zz s 80 x1.toNat) ≤ 40 → (((zz s 81 x1.toNat) ≤ 12 → Q (.inl none, (mkH B s l))) ∧ (12 < (zz s 81 x1.toNat) → (((zz s 56 22) ≤ 0 → Q (.inl none, (mkH B (zu (zu s 56 22 8) 56 23 (zz s 72 0)) l))) ∧ (0 < (zz s 56 22) → Q (.inl none, (mkH B s l)))))))))) : a_W d 183 0 [.ref 56, iv x1] [] (mkH B s l) Q := by
  refine w_aln (p := 1) (q183 0) rfl rfl ?_
  refine w_gR (p := 4) (j := 39) (v := 80) (q183 1) rfl (r56 hB) (by decide) (f56_39 hB) ?_
  refine w_iln (p := 5) (q183 4) rfl rfl ?_
  obtain ⟨o1, w⟩ := w
  refine w_ia (p := 6) (v := (zz s 80 x1.toNat)) (q183 5) rfl (r80 hB) (by decide) o1 (iv_zz s 80 x1.toNat) ?_
  refine w_bp (p := 8) (q183 6) rfl (by decide) ?_
  by_cases c2 : 40 < (zz s 80 x1.toNat)
  · replace w := w.1 c2
    refine w_i2t (q183 8) (inR_zz _ _ _) (by decide) c2 ?_
    refine w_aln (p := 23) (q183 22) rfl rfl ?_
    refine w_bp (p := 25) (q183 23) rfl (by decide) ?_
    refine w_aln (p := 26) (q183 25) rfl rfl ?_
    refine w_gR (p := 29) (j := 28) (v := 72) (q183 26) rfl (r56 hB) (by decide) (f56_28 hB) ?_
    refine w_ic (p := 30) (q183 29) rfl ?_
    refine w_ia (p := 31) (v := (zz s 72 0)) (q183 30) rfl (r72 hB) (by decide) (by decide) (iv_zz s 72 0) ?_
    refine w_call (st := []) (as := [.ref 56, iv 8, iv (zz s 72 0)]) (as' := [iv (zz s 72 0), iv 8, .ref 56]) (p := 34) (q183 31) rfl m152 (by decide) (a_ok_i rfl (r56 hB) rfl) rfl rfl (Nat.le_of_ble_eq_true rfl) (by omega) rfl rfl ?_
    refine w_aln (p := 1) (q152 0) rfl rfl ?_
    refine w_gI (p := 4) (j := 22) (v := (zz s 56 22)) (q152 1) rfl (r56 hB) (by decide) (iv_zz s 56 22) ?_
    by_cases c3 : (zz s 56 22) ≤ 0
    · replace w := w.1 c3
      refine w_i1t (q152 4) (inR_zz _ _ _) c3 ?_
      refine w_aln (p := 9) (q152 8) rfl rfl ?_
      refine w_iln (p := 10) (q152 9) rfl rfl ?_
      refine w_pI (p := 13) (j := 22) (q152 10) rfl (r56 hB) (by decide) rfl ?_
      refine w_aln (p := 14) (q152 13) rfl rfl ?_
      refine w_iln (p := 15) (q152 14) rfl rfl ?_
      refine w_pI (p := 18) (j := 23) (q152 15) rfl (r56 hB) (by decide) rfl ?_
      refine w_rv (q152 18) rfl ⟨_, _, rfl, ?_⟩
      show a_W _ 183 34 [.ref 56, iv x1] [] _ _
      exact w_rv (q183 34) rfl w
    · replace w := w.2 (Int.not_le.mp c3)
      refine w_i1f (p := 7) (q152 4) rfl (inR_zz _ _ _) c3 ?_
      refine w_rv (q152 7) rfl ⟨_, _, rfl, ?_⟩
      show a_W _ 183 34 [.ref 56, iv x1] [] _ _
      exact w_rv (q183 34) rfl w
  · replace w := w.2 (Int.not_lt.mp c2)
    refine w_i2f (p := 11) (q183 8) rfl (inR_zz _ _ _) (by decide) c2 ?_
    refine w_aln (p := 12) (q183 11) rfl rfl ?_
    refine w_gR (p := 15) (j := 40) (v := 81) (q183 12) rfl (r56 hB) (by decide) (f56_40 hB) ?_
    refine w_iln (p := 16) (q183 15) rfl rfl ?_
    refine w_ia (p := 17) (v := (zz s 81 x1.toNat)) (q183 16) rfl (r81 hB) (by decide) o1 (iv_zz s 81 x1.toNat) ?_
    refine w_bp (p := 19) (q183 17) rfl (by decide) ?_
    by_cases c4 : (zz s 81 x1.toNat) ≤ 12
    · replace w := w.1 c4
      refine w_i2t (q183 19) (inR_zz _ _ _) (by decide) c4 ?_
      exact w_rv (q183 34) rfl w
    · replace w := w.2 (Int.not_le.mp c4)
      refine w_i2f (p := 22) (q183 19) rfl (inR_zz _ _ _) (by decide) c4 ?_
      refine w_aln (p := 23) (q183 22) rfl rfl ?_
      refine w_bp (p := 25) (q183 23) rfl (by decide) ?_
      refine w_aln (p := 26) (q183 25) rfl rfl ?_
      refine w_gR (p := 29) (j := 28) (v := 72) (q183 26) rfl (r56 hB) (by decide) (f56_28 hB) ?_
      refine w_ic (p := 30) (q183 29) rfl ?_
      refine w_ia (p := 31) (v := (zz s 72 0)) (q183 30) rfl (r72 hB) (by decide) (by decide) (iv_zz s 72 0) ?_
      refine w_call (st := []) (as := [.ref 56, iv 8, iv (zz s 72 0)]) (as' := [iv (zz s 72 0), iv 8, .ref 56]) (p := 34) (q183 31) rfl m152 (by decide) (a_ok_i rfl (r56 hB) rfl) rfl rfl (Nat.le_of_ble_eq_true rfl) (by omega) rfl rfl ?_
      refine w_aln (p := 1) (q152 0) rfl rfl ?_
      refine w_gI (p := 4) (j := 22) (v := (zz s 56 22)) (q152 1) rfl (r56 hB) (by decide) (iv_zz s 56 22) ?_
      by_cases c5 : (zz s 56 22) ≤ 0
      · replace w := w.1 c5
        refine w_i1t (q152 4) (inR_zz _ _ _) c5 ?_
        refine w_aln (p := 9) (q152 8) rfl rfl ?_
        refine w_iln (p := 10) (q152 9) rfl rfl ?_
        refine w_pI (p := 13) (j := 22) (q152 10) rfl (r56 hB) (by decide) rfl ?_
        refine w_aln (p := 14) (q152 13) rfl rfl ?_
        refine w_iln (p := 15) (q152 14) rfl rfl ?_
        refine w_pI (p := 18) (j := 23) (q152 15) rfl (r56 hB) (by decide) rfl ?_
        refine w_rv (q152 18) rfl ⟨_, _, rfl, ?_⟩
        show a_W _ 183 34 [.ref 56, iv x1] [] _ _
        exact w_rv (q183 34) rfl w
      · replace w := w.2 (Int.not_le.mp c5)
        refine w_i1f (p := 7) (q152 4) rfl (inR_zz _ _ _) c5 ?_
        refine w_rv (q152 7) rfl ⟨_, _, rfl, ?_⟩
        show a_W _ 183 34 [.ref 56, iv x1] [] _ _
        exact w_rv (q183 34) rfl w
theorem w197_0 {d : Nat} {B : aH} {Q : aR → Prop} (hB : a_Can B) (hd : 1 ≤ d) (x1 : Int) (s : Nat → Nat → Int32) (l : Nat → Nat → Int64) (w : (((zz s 56 22) ≤ 0 → ((0 ≤ x1 ∧ x1 < 12100) ∧ (((zz s 75 x1.toNat) ≠ 0 → (((zz s 75 x1.toNat) ≠ 1 → a_W d 197 105 [.ref 56, iv x1, iv 2, .retAddr 0, .retAddr 0, .retAddr 0] [] (mkH B s l) Q) ∧ ((zz s 75 x1.toNat) = 1 → a_W (d - 1) 158 0 [.ref 61, iv (zz s 56 4), .ref 74, iv (zz s 76 x1.toNat), .retAddr 0] [] (mkH B s l) (fun r => ∃ (v7 : Int) (s5 : Nat → Nat → Int32) (l6 : Nat → Nat → Int64), r = (.inl (some (iv v7)), mkH B s5 l6) ∧ (inR v7 ∧ ((v7 = (-1) → a_W d 197 94 [.ref 56, iv x1, iv v7, .retAddr 0, .retAddr 0, .retAddr 0] [] (mkH B s5 l6) Q) ∧ (v7 ≠ (-1) → ((v7 = 2 → a_W d 197 94 [.ref 56, iv x1, iv v7, .retAddr 0, .retAddr 0, .retAddr 0] [] (mkH B s5 l6) Q) ∧ (v7 ≠ 2 → ((0 ≤ v7 ∧ v7 < 34) ∧ (((zz s5 62 v7.toNat) = (zz s5 79 x1.toNat) → a_W d 197 105 [.ref 56, iv x1, iv v7, .retAddr 0, .retAddr 0, .retAddr 0] [] (mkH B s5 l6) Q) ∧ ((zz s5 62 v7.toNat) ≠ (zz s5 79 x1.toNat) → a_W d 197 94 [.ref 56, iv x1, iv v7, .retAddr 0, .retAddr 0, .retAddr 0] [] (mkH B s5 l6) Q)))))))))))) ∧ ((zz s 75 x1.toNat) = 0 → ((0 ≤ (zz s 56 16) ∧ (zz s 56 16) < 60000) ∧ Q (.inl (some (iv (((zz s 56 16) + 1) - 1))), (mkH B (zu (zu (zu (zu (zu s 64 (zz s 56 16).toNat ((-1000) - (zz s 76 x1.toNat))) 65 (zz s 56 16).toNat (-1)) 66 (zz s 56 16).toNat (-1)) 67 (zz s 56 16).toNat (-1)) 56 16 ((zz s 56 16) + 1)) l))))))) ∧ (0 < (zz s 56 22) → Q (.inl (some (iv 0)), (mkH B s l))))) : a_W d 197 0 [.ref 56, iv x1, .retAddr 0, .retAddr 0, .retAddr 0, .retAddr 0] [] (mkH B s l) Q := by
  refine w_aln (p := 1) (q197 0) rfl rfl ?_
  refine w_gI (p := 4) (j := 22) (v := (zz s 56 22)) (q197 1) rfl (r56 hB) (by decide) (iv_zz s 56 22) ?_
  by_cases c1 : (zz s 56 22) ≤ 0
  · replace w := w.1 c1
    refine w_i1t (q197 4) (inR_zz _ _ _) c1 ?_
    refine w_aln (p := 10) (q197 9) rfl rfl ?_
    refine w_gR (p := 13) (j := 34) (v := 75) (q197 10) rfl (r56 hB) (by decide) (f56_34 hB) ?_
    refine w_iln (p := 14) (q197 13) rfl rfl ?_
    obtain ⟨o2, w⟩ := w
    refine w_ia (p := 15) (v := (zz s 75 x1.toNat)) (q197 14) rfl (r75 hB) (by decide) o2 (iv_zz s 75 x1.toNat) ?_
    by_cases c3 : (zz s 75 x1.toNat) ≠ 0
    · replace w := w.1 c3
      refine w_i1t (q197 15) (inR_zz _ _ _) c3 ?_
      refine w_ic (p := 36) (q197 35) rfl ?_
      refine w_isn (p := 37) (ls' := [.ref 56, iv x1, iv 2, .retAddr 0, .retAddr 0, .retAddr 0]) (q197 36) rfl (Nat.le_of_ble_eq_true rfl) rfl ?_
      refine w_aln (p := 38) (q197 37) rfl rfl ?_
      refine w_gR (p := 41) (j := 34) (v := 75) (q197 38) rfl (r56 hB) (by decide) (f56_34 hB) ?_
      refine w_iln (p := 42) (q197 41) rfl rfl ?_
      refine w_ia (p := 43) (v := (zz s 75 x1.toNat)) (q197 42) rfl (r75 hB) (by decide) o2 (iv_zz s 75 x1.toNat) ?_
      refine w_ic (p := 44) (q197 43) rfl ?_
      by_cases c4 : (zz s 75 x1.toNat) ≠ 1
      · replace w := w.1 c4
        refine w_i2t (q197 44) (inR_zz _ _ _) (by decide) c4 ?_
        exact w
      · replace w := w.2 (Decidable.not_not.mp c4)
        refine w_i2f (p := 47) (q197 44) rfl (inR_zz _ _ _) (by decide) c4 ?_
        refine w_aln (p := 48) (q197 47) rfl rfl ?_
        refine w_gR (p := 51) (j := 9) (v := 61) (q197 48) rfl (r56 hB) (by decide) (f56_9 hB) ?_
        refine w_aln (p := 52) (q197 51) rfl rfl ?_
        refine w_gI (p := 55) (j := 4) (v := (zz s 56 4)) (q197 52) rfl (r56 hB) (by decide) (iv_zz s 56 4) ?_
        refine w_aln (p := 56) (q197 55) rfl rfl ?_
        refine w_gR (p := 59) (j := 30) (v := 74) (q197 56) rfl (r56 hB) (by decide) (f56_30 hB) ?_
        refine w_aln (p := 60) (q197 59) rfl rfl ?_
        refine w_gR (p := 63) (j := 35) (v := 76) (q197 60) rfl (r56 hB) (by decide) (f56_35 hB) ?_
        refine w_iln (p := 64) (q197 63) rfl rfl ?_
        refine w_ia (p := 65) (v := (zz s 76 x1.toNat)) (q197 64) rfl (r76 hB) (by decide) o2 (iv_zz s 76 x1.toNat) ?_
        refine w_call (st := []) (as := [.ref 61, iv (zz s 56 4), .ref 74, iv (zz s 76 x1.toNat)]) (as' := [iv (zz s 76 x1.toNat), .ref 74, iv (zz s 56 4), .ref 61]) (p := 68) (q197 65) rfl m158 (by decide) (a_ok_s rfl rfl) rfl rfl (Nat.le_of_ble_eq_true rfl) (by omega) rfl rfl (a_W.imp w ?_)
        rintro _ ⟨v7, s5, l6, rfl, w⟩
        refine ⟨some (iv v7), _, rfl, ?_⟩
        show a_W _ 197 68 [.ref 56, iv x1, iv 2, .retAddr 0, .retAddr 0, .retAddr 0] [iv v7] (mkH B s5 l6) _
        refine w_isn (p := 69) (ls' := [.ref 56, iv x1, iv v7, .retAddr 0, .retAddr 0, .retAddr 0]) (q197 68) rfl (Nat.le_of_ble_eq_true rfl) rfl ?_
        refine w_iln (p := 70) (q197 69) rfl rfl ?_
        refine w_ic (p := 71) (q197 70) rfl ?_
        obtain ⟨h8, w⟩ := w
        by_cases c9 : v7 = (-1)
        · replace w := w.1 c9
          refine w_i2t (q197 71) h8 (by decide) c9 ?_
          exact w
        · replace w := w.2 c9
          refine w_i2f (p := 74) (q197 71) rfl h8 (by decide) c9 ?_
          refine w_iln (p := 75) (q197 74) rfl rfl ?_
          refine w_ic (p := 76) (q197 75) rfl ?_
          by_cases c10 : v7 = 2
          · replace w := w.1 c10
            refine w_i2t (q197 76) h8 (by decide) c10 ?_
            exact w
          · replace w := w.2 c10
            refine w_i2f (p := 79) (q197 76) rfl h8 (by decide) c10 ?_
            refine w_aln (p := 80) (q197 79) rfl rfl ?_
            refine w_gR (p := 83) (j := 10) (v := 62) (q197 80) rfl (r56 hB) (by decide) (f56_10 hB) ?_
            refine w_iln (p := 84) (q197 83) rfl rfl ?_
            obtain ⟨o11, w⟩ := w
            refine w_ia (p := 85) (v := (zz s5 62 v7.toNat)) (q197 84) rfl (r62 hB) (by decide) o11 (iv_zz s5 62 v7.toNat) ?_
            refine w_aln (p := 86) (q197 85) rfl rfl ?_
            refine w_gR (p := 89) (j := 38) (v := 79) (q197 86) rfl (r56 hB) (by decide) (f56_38 hB) ?_
            refine w_iln (p := 90) (q197 89) rfl rfl ?_
            refine w_ia (p := 91) (v := (zz s5 79 x1.toNat)) (q197 90) rfl (r79 hB) (by decide) o2 (iv_zz s5 79 x1.toNat) ?_
            by_cases c12 : (zz s5 62 v7.toNat) = (zz s5 79 x1.toNat)
            · replace w := w.1 c12
              refine w_i2t (q197 91) (inR_zz _ _ _) (inR_zz _ _ _) c12 ?_
              exact w
            · replace w := w.2 c12
              refine w_i2f (p := 94) (q197 91) rfl (inR_zz _ _ _) (inR_zz _ _ _) c12 ?_
              exact w
    · replace w := w.2 (Decidable.not_not.mp c3)
      refine w_i1f (p := 18) (q197 15) rfl (inR_zz _ _ _) c3 ?_
      refine w_aln (p := 19) (q197 18) rfl rfl ?_
      refine w_sp (p := 22) (q197 19) rfl (by decide) ?_
      refine w_aln (p := 23) (q197 22) rfl rfl ?_
      refine w_gR (p := 26) (j := 35) (v := 76) (q197 23) rfl (r56 hB) (by decide) (f56_35 hB) ?_
      refine w_iln (p := 27) (q197 26) rfl rfl ?_
      refine w_ia (p := 28) (v := (zz s 76 x1.toNat)) (q197 27) rfl (r76 hB) (by decide) o2 (iv_zz s 76 x1.toNat) ?_
      refine w_sub (p := 29) (q197 28) rfl ?_
      refine w_ic (p := 30) (q197 29) rfl ?_
      refine w_ic (p := 31) (q197 30) rfl ?_
      refine w_call (st := []) (as := [.ref 56, iv ((-1000) - (zz s 76 x1.toNat)), iv (-1), iv (-1)]) (as' := [iv (-1), iv (-1), iv ((-1000) - (zz s 76 x1.toNat)), .ref 56]) (p := 34) (q197 31) rfl m137 (by decide) (a_ok_i rfl (r56 hB) rfl) rfl rfl (Nat.le_of_ble_eq_true rfl) (by omega) rfl rfl ?_
      refine w_aln (p := 1) (q137 0) rfl rfl ?_
      refine w_gR (p := 4) (j := 12) (v := 64) (q137 1) rfl (r56 hB) (by decide) (f56_12 hB) ?_
      refine w_aln (p := 5) (q137 4) rfl rfl ?_
      refine w_gI (p := 8) (j := 16) (v := (zz s 56 16)) (q137 5) rfl (r56 hB) (by decide) (iv_zz s 56 16) ?_
      refine w_iln (p := 9) (q137 8) rfl rfl ?_
      obtain ⟨o13, w⟩ := w
      refine w_ias (p := 10) (q137 9) rfl (r64 hB) (by decide) o13 ?_
      refine w_aln (p := 11) (q137 10) rfl rfl ?_
      refine w_gR (p := 14) (j := 13) (v := 65) (q137 11) rfl (r56 hB) (by decide) (f56_13 hB) ?_
      refine w_aln (p := 15) (q137 14) rfl rfl ?_
      refine w_gI (p := 18) (j := 16) (v := (zz s 56 16)) (q137 15) rfl (r56 hB) (by decide) (iv_zz s 56 16) ?_
      refine w_iln (p := 19) (q137 18) rfl rfl ?_
      refine w_ias (p := 20) (q137 19) rfl (r65 hB) (by decide) o13 ?_
      refine w_aln (p := 21) (q137 20) rfl rfl ?_
      refine w_gR (p := 24) (j := 14) (v := 66) (q137 21) rfl (r56 hB) (by decide) (f56_14 hB) ?_
      refine w_aln (p := 25) (q137 24) rfl rfl ?_
      refine w_gI (p := 28) (j := 16) (v := (zz s 56 16)) (q137 25) rfl (r56 hB) (by decide) (iv_zz s 56 16) ?_
      refine w_iln (p := 29) (q137 28) rfl rfl ?_
      refine w_ias (p := 30) (q137 29) rfl (r66 hB) (by decide) o13 ?_
      refine w_aln (p := 31) (q137 30) rfl rfl ?_
      refine w_gR (p := 34) (j := 15) (v := 67) (q137 31) rfl (r56 hB) (by decide) (f56_15 hB) ?_
      refine w_aln (p := 35) (q137 34) rfl rfl ?_
      refine w_gI (p := 38) (j := 16) (v := (zz s 56 16)) (q137 35) rfl (r56 hB) (by decide) (iv_zz s 56 16) ?_
      refine w_ic (p := 39) (q137 38) rfl ?_
      refine w_ias (p := 40) (q137 39) rfl (r67 hB) (by decide) o13 ?_
      refine w_aln (p := 41) (q137 40) rfl rfl ?_
      refine w_dupr (p := 42) (q137 41) rfl ?_
      refine w_gI (p := 45) (j := 16) (v := (zz s 56 16)) (q137 42) rfl (r56 hB) (by decide) (iv_zz s 56 16) ?_
      refine w_ic (p := 46) (q137 45) rfl ?_
      refine w_add (p := 47) (q137 46) rfl ?_
      refine w_pI (p := 50) (j := 16) (q137 47) rfl (r56 hB) (by decide) rfl ?_
      refine w_aln (p := 51) (q137 50) rfl rfl ?_
      refine w_gI (p := 54) (j := 16) (v := ((zz s 56 16) + 1)) (q137 51) rfl (r56 hB) (by decide) rfl ?_
      refine w_ic (p := 55) (q137 54) rfl ?_
      refine w_sub (p := 56) (q137 55) rfl ?_
      refine w_ret (q137 56) rfl ⟨_, _, rfl, ?_⟩
      show a_W _ 197 34 [.ref 56, iv x1, .retAddr 0, .retAddr 0, .retAddr 0, .retAddr 0] [iv (((zz s 56 16) + 1) - 1)] _ _
      exact w_ret (q197 34) rfl w
  · replace w := w.2 (Int.not_le.mp c1)
    refine w_i1f (p := 7) (q197 4) rfl (inR_zz _ _ _) c1 ?_
    refine w_ic (p := 8) (q197 7) rfl ?_
    exact w_ret (q197 8) rfl w
theorem w197_94 {d : Nat} {B : aH} {Q : aR → Prop} (hB : a_Can B) (hd : 1 ≤ d) (x1 x2 : Int) (s : Nat → Nat → Int32) (l : Nat → Nat → Int64) (w : (((zz s 56 22) ≤ 0 → a_W d 197 105 [.ref 56, iv x1, iv x2, .retAddr 0, .retAddr 0, .retAddr 0] [] (mkH B (zu (zu s 56 22 3) 56 23 (zz s 72 0)) l) Q) ∧ (0 < (zz s 56 22) → a_W d 197 105 [.ref 56, iv x1, iv x2, .retAddr 0, .retAddr 0, .retAddr 0] [] (mkH B s l) Q))) : a_W d 197 94 [.ref 56, iv x1, iv x2, .retAddr 0, .retAddr 0, .retAddr 0] [] (mkH B s l) Q := by
  refine w_aln (p := 95) (q197 94) rfl rfl ?_
  refine w_ic (p := 96) (q197 95) rfl ?_
  refine w_aln (p := 97) (q197 96) rfl rfl ?_
  refine w_gR (p := 100) (j := 28) (v := 72) (q197 97) rfl (r56 hB) (by decide) (f56_28 hB) ?_
  refine w_ic (p := 101) (q197 100) rfl ?_
  refine w_ia (p := 102) (v := (zz s 72 0)) (q197 101) rfl (r72 hB) (by decide) (by decide) (iv_zz s 72 0) ?_
  refine w_call (st := []) (as := [.ref 56, iv 3, iv (zz s 72 0)]) (as' := [iv (zz s 72 0), iv 3, .ref 56]) (p := 105) (q197 102) rfl m152 (by decide) (a_ok_i rfl (r56 hB) rfl) rfl rfl (Nat.le_of_ble_eq_true rfl) (by omega) rfl rfl ?_
  refine w_aln (p := 1) (q152 0) rfl rfl ?_
  refine w_gI (p := 4) (j := 22) (v := (zz s 56 22)) (q152 1) rfl (r56 hB) (by decide) (iv_zz s 56 22) ?_
  by_cases c1 : (zz s 56 22) ≤ 0
  · replace w := w.1 c1
    refine w_i1t (q152 4) (inR_zz _ _ _) c1 ?_
    refine w_aln (p := 9) (q152 8) rfl rfl ?_
    refine w_iln (p := 10) (q152 9) rfl rfl ?_
    refine w_pI (p := 13) (j := 22) (q152 10) rfl (r56 hB) (by decide) rfl ?_
    refine w_aln (p := 14) (q152 13) rfl rfl ?_
    refine w_iln (p := 15) (q152 14) rfl rfl ?_
    refine w_pI (p := 18) (j := 23) (q152 15) rfl (r56 hB) (by decide) rfl ?_
    refine w_rv (q152 18) rfl ⟨_, _, rfl, ?_⟩
    show a_W _ 197 105 [.ref 56, iv x1, iv x2, .retAddr 0, .retAddr 0, .retAddr 0] [] _ _
    exact w
  · replace w := w.2 (Int.not_le.mp c1)
    refine w_i1f (p := 7) (q152 4) rfl (inR_zz _ _ _) c1 ?_
    refine w_rv (q152 7) rfl ⟨_, _, rfl, ?_⟩
    show a_W _ 197 105 [.ref 56, iv x1, iv x2, .retAddr 0, .retAddr 0, .retAddr 0] [] _ _
    exact w
theorem w197_105 {d : Nat} {B : aH} {Q : aR → Prop} (hB : a_Can B) (hd : 1 ≤ d) (x1 x2 : Int) (s : Nat → Nat → Int32) (l : Nat → Nat → Int64) (w : (((zz s 56 22) ≤ 0 → ((0 ≤ x1 ∧ x1 < 12100) ∧ (((zz s 77 x1.toNat) ≠ (-1) → a_W (d - 1) 197 0 [.ref 56, iv (zz s 77 x1.toNat), .retAddr 0, .retAddr 0, .retAddr 0, .retAddr 0] [] (mkH B s l) (fun r => ∃ (v6 : Int) (s4 : Nat → Nat → Int32) (l5 : Nat → Nat → Int64), r = (.inl (some (iv v6)), mkH B s4 l5) ∧ ((0 ≤ (zz s 77 x1.toNat) ∧ (zz s 77 x1.toNat) < 12100) ∧ (((zz s4 78 (zz s 77 x1.toNat).toNat) ≠ (-1) → a_W (d - 1) 197 0 [.ref 56, iv (zz s4 78 (zz s 77 x1.toNat).toNat), .retAddr 0, .retAddr 0, .retAddr 0, .retAddr 0] [] (mkH B s4 l5) (fun r => ∃ (v11 : Int) (s9 : Nat → Nat → Int32) (l10 : Nat → Nat → Int64), r = (.inl (some (iv v11)), mkH B s9 l10) ∧ ((0 ≤ (zz s9 56 16) ∧ (zz s9 56 16) < 60000) ∧ Q (.inl (some (iv (((zz s9 56 16) + 1) - 1))), (mkH B (zu (zu (zu (zu (zu s9 64 (zz s9 56 16).toNat x2) 65 (zz s9 56 16).toNat v6) 66 (zz s9 56 16).toNat v11) 67 (zz s9 56 16).toNat (-1)) 56 16 ((zz s9 56 16) + 1)) l10))))) ∧ ((zz s4 78 (zz s 77 x1.toNat).toNat) = (-1) → ((0 ≤ (zz s4 56 16) ∧ (zz s4 56 16) < 60000) ∧ Q (.inl (some (iv (((zz s4 56 16) + 1) - 1))), (mkH B (zu (zu (zu (zu (zu s4 64 (zz s4 56 16).toNat x2) 65 (zz s4 56 16).toNat v6) 66 (zz s4 56 16).toNat (-1)) 67 (zz s4 56 16).toNat (-1)) 56 16 ((zz s4 56 16) + 1)) l5)))))))) ∧ ((zz s 77 x1.toNat) = (-1) → ((0 ≤ (zz s 56 16) ∧ (zz s 56 16) < 60000) ∧ Q (.inl (some (iv (((zz s 56 16) + 1) - 1))), (mkH B (zu (zu (zu (zu (zu s 64 (zz s 56 16).toNat x2) 65 (zz s 56 16).toNat (-1)) 66 (zz s 56 16).toNat (-1)) 67 (zz s 56 16).toNat (-1)) 56 16 ((zz s 56 16) + 1)) l))))))) ∧ (0 < (zz s 56 22) → Q (.inl (some (iv 0)), (mkH B s l))))) : a_W d 197 105 [.ref 56, iv x1, iv x2, .retAddr 0, .retAddr 0, .retAddr 0] [] (mkH B s l) Q := by
  refine w_aln (p := 106) (q197 105) rfl rfl ?_
  refine w_gI (p := 109) (j := 22) (v := (zz s 56 22)) (q197 106) rfl (r56 hB) (by decide) (iv_zz s 56 22) ?_
  by_cases c1 : (zz s 56 22) ≤ 0
  · replace w := w.1 c1
    refine w_i1t (q197 109) (inR_zz _ _ _) c1 ?_
    refine w_aln (p := 115) (q197 114) rfl rfl ?_
    refine w_gR (p := 118) (j := 36) (v := 77) (q197 115) rfl (r56 hB) (by decide) (f56_36 hB) ?_
    refine w_iln (p := 119) (q197 118) rfl rfl ?_
    obtain ⟨o2, w⟩ := w
    refine w_ia (p := 120) (v := (zz s 77 x1.toNat)) (q197 119) rfl (r77 hB) (by decide) o2 (iv_zz s 77 x1.toNat) ?_
    refine w_isn (p := 121) (ls' := [.ref 56, iv x1, iv x2, iv (zz s 77 x1.toNat), .retAddr 0, .retAddr 0]) (q197 120) rfl (Nat.le_of_ble_eq_true rfl) rfl ?_
    refine w_iln (p := 122) (q197 121) rfl rfl ?_
    refine w_ic (p := 123) (q197 122) rfl ?_
    by_cases c3 : (zz s 77 x1.toNat) ≠ (-1)
    · replace w := w.1 c3
      refine w_i2t (q197 123) (inR_zz _ _ _) (by decide) c3 ?_
      refine w_aln (p := 135) (q197 134) rfl rfl ?_
      refine w_iln (p := 136) (q197 135) rfl rfl ?_
      refine w_call (st := []) (as := [.ref 56, iv (zz s 77 x1.toNat)]) (as' := [iv (zz s 77 x1.toNat), .ref 56]) (p := 139) (q197 136) rfl m197 (by decide) (a_ok_i rfl (r56 hB) rfl) rfl rfl (Nat.le_of_ble_eq_true rfl) (by omega) rfl rfl (a_W.imp w ?_)
      rintro _ ⟨v6, s4, l5, rfl, w⟩
      refine ⟨some (iv v6), _, rfl, ?_⟩
      show a_W _ 197 139 [.ref 56, iv x1, iv x2, iv (zz s 77 x1.toNat), .retAddr 0, .retAddr 0] [iv v6] (mkH B s4 l5) _
      refine w_is (p := 141) (ls' := [.ref 56, iv x1, iv x2, iv (zz s 77 x1.toNat), iv v6, .retAddr 0]) (q197 139) rfl (Nat.le_of_ble_eq_true rfl) rfl ?_
      refine w_aln (p := 142) (q197 141) rfl rfl ?_
      refine w_gR (p := 145) (j := 37) (v := 78) (q197 142) rfl (r56 hB) (by decide) (f56_37 hB) ?_
      refine w_iln (p := 146) (q197 145) rfl rfl ?_
      obtain ⟨o7, w⟩ := w
      refine w_ia (p := 147) (v := (zz s4 78 (zz s 77 x1.toNat).toNat)) (q197 146) rfl (r78 hB) (by decide) o7 (iv_zz s4 78 (zz s 77 x1.toNat).toNat) ?_
      refine w_ic (p := 148) (q197 147) rfl ?_
      by_cases c8 : (zz s4 78 (zz s 77 x1.toNat).toNat) ≠ (-1)
      · replace w := w.1 c8
        refine w_i2t (q197 148) (inR_zz _ _ _) (by decide) c8 ?_
        refine w_aln (p := 156) (q197 155) rfl rfl ?_
        refine w_aln (p := 157) (q197 156) rfl rfl ?_
        refine w_gR (p := 160) (j := 37) (v := 78) (q197 157) rfl (r56 hB) (by decide) (f56_37 hB) ?_
        refine w_iln (p := 161) (q197 160) rfl rfl ?_
        refine w_ia (p := 162) (v := (zz s4 78 (zz s 77 x1.toNat).toNat)) (q197 161) rfl (r78 hB) (by decide) o7 (iv_zz s4 78 (zz s 77 x1.toNat).toNat) ?_
        refine w_call (st := []) (as := [.ref 56, iv (zz s4 78 (zz s 77 x1.toNat).toNat)]) (as' := [iv (zz s4 78 (zz s 77 x1.toNat).toNat), .ref 56]) (p := 165) (q197 162) rfl m197 (by decide) (a_ok_i rfl (r56 hB) rfl) rfl rfl (Nat.le_of_ble_eq_true rfl) (by omega) rfl rfl (a_W.imp w ?_)
        rintro _ ⟨v11, s9, l10, rfl, w⟩
        refine ⟨some (iv v11), _, rfl, ?_⟩
        show a_W _ 197 165 [.ref 56, iv x1, iv x2, iv (zz s 77 x1.toNat), iv v6, .retAddr 0] [iv v11] (mkH B s9 l10) _
        refine w_is (p := 167) (ls' := [.ref 56, iv x1, iv x2, iv (zz s 77 x1.toNat), iv v6, iv v11]) (q197 165) rfl (Nat.le_of_ble_eq_true rfl) rfl ?_
        refine w_aln (p := 168) (q197 167) rfl rfl ?_
        refine w_iln (p := 169) (q197 168) rfl rfl ?_
        refine w_il (p := 171) (q197 169) rfl rfl ?_
        refine w_il (p := 173) (q197 171) rfl rfl ?_
        refine w_call (st := []) (as := [.ref 56, iv x2, iv v6, iv v11]) (as' := [iv v11, iv v6, iv x2, .ref 56]) (p := 176) (q197 173) rfl m137 (by decide) (a_ok_i rfl (r56 hB) rfl) rfl rfl (Nat.le_of_ble_eq_true rfl) (by omega) rfl rfl ?_
        refine w_aln (p := 1) (q137 0) rfl rfl ?_
        refine w_gR (p := 4) (j := 12) (v := 64) (q137 1) rfl (r56 hB) (by decide) (f56_12 hB) ?_
        refine w_aln (p := 5) (q137 4) rfl rfl ?_
        refine w_gI (p := 8) (j := 16) (v := (zz s9 56 16)) (q137 5) rfl (r56 hB) (by decide) (iv_zz s9 56 16) ?_
        refine w_iln (p := 9) (q137 8) rfl rfl ?_
        obtain ⟨o12, w⟩ := w
        refine w_ias (p := 10) (q137 9) rfl (r64 hB) (by decide) o12 ?_
        refine w_aln (p := 11) (q137 10) rfl rfl ?_
        refine w_gR (p := 14) (j := 13) (v := 65) (q137 11) rfl (r56 hB) (by decide) (f56_13 hB) ?_
        refine w_aln (p := 15) (q137 14) rfl rfl ?_
        refine w_gI (p := 18) (j := 16) (v := (zz s9 56 16)) (q137 15) rfl (r56 hB) (by decide) (iv_zz s9 56 16) ?_
        refine w_iln (p := 19) (q137 18) rfl rfl ?_
        refine w_ias (p := 20) (q137 19) rfl (r65 hB) (by decide) o12 ?_
        refine w_aln (p := 21) (q137 20) rfl rfl ?_
        refine w_gR (p := 24) (j := 14) (v := 66) (q137 21) rfl (r56 hB) (by decide) (f56_14 hB) ?_
        refine w_aln (p := 25) (q137 24) rfl rfl ?_
        refine w_gI (p := 28) (j := 16) (v := (zz s9 56 16)) (q137 25) rfl (r56 hB) (by decide) (iv_zz s9 56 16) ?_
        refine w_iln (p := 29) (q137 28) rfl rfl ?_
        refine w_ias (p := 30) (q137 29) rfl (r66 hB) (by decide) o12 ?_
        refine w_aln (p := 31) (q137 30) rfl rfl ?_
        refine w_gR (p := 34) (j := 15) (v := 67) (q137 31) rfl (r56 hB) (by decide) (f56_15 hB) ?_
        refine w_aln (p := 35) (q137 34) rfl rfl ?_
        refine w_gI (p := 38) (j := 16) (v := (zz s9 56 16)) (q137 35) rfl (r56 hB) (by decide) (iv_zz s9 56 16) ?_
        refine w_ic (p := 39) (q137 38) rfl ?_
        refine w_ias (p := 40) (q137 39) rfl (r67 hB) (by decide) o12 ?_
        refine w_aln (p := 41) (q137 40) rfl rfl ?_
        refine w_dupr (p := 42) (q137 41) rfl ?_
        refine w_gI (p := 45) (j := 16) (v := (zz s9 56 16)) (q137 42) rfl (r56 hB) (by decide) (iv_zz s9 56 16) ?_
        refine w_ic (p := 46) (q137 45) rfl ?_
        refine w_add (p := 47) (q137 46) rfl ?_
        refine w_pI (p := 50) (j := 16) (q137 47) rfl (r56 hB) (by decide) rfl ?_
        refine w_aln (p := 51) (q137 50) rfl rfl ?_
        refine w_gI (p := 54) (j := 16) (v := ((zz s9 56 16) + 1)) (q137 51) rfl (r56 hB) (by decide) rfl ?_
        refine w_ic (p := 55) (q137 54) rfl ?_
        refine w_sub (p := 56) (q137 55) rfl ?_
        refine w_ret (q137 56) rfl ⟨_, _, rfl, ?_⟩
        show a_W _ 197 176 [.ref 56, iv x1, iv x2, iv (zz s 77 x1.toNat), iv v6, iv v11] [iv (((zz s9 56 16) + 1) - 1)] _ _
        exact w_ret (q197 176) rfl w
      · replace w := w.2 (Decidable.not_not.mp c8)
        refine w_i2f (p := 151) (q197 148) rfl (inR_zz _ _ _) (by decide) c8 ?_
        refine w_ic (p := 152) (q197 151) rfl ?_
        refine w_goto (q197 152) ?_
        refine w_is (p := 167) (ls' := [.ref 56, iv x1, iv x2, iv (zz s 77 x1.toNat), iv v6, iv (-1)]) (q197 165) rfl (Nat.le_of_ble_eq_true rfl) rfl ?_
        refine w_aln (p := 168) (q197 167) rfl rfl ?_
        refine w_iln (p := 169) (q197 168) rfl rfl ?_
        refine w_il (p := 171) (q197 169) rfl rfl ?_
        refine w_il (p := 173) (q197 171) rfl rfl ?_
        refine w_call (st := []) (as := [.ref 56, iv x2, iv v6, iv (-1)]) (as' := [iv (-1), iv v6, iv x2, .ref 56]) (p := 176) (q197 173) rfl m137 (by decide) (a_ok_i rfl (r56 hB) rfl) rfl rfl (Nat.le_of_ble_eq_true rfl) (by omega) rfl rfl ?_
        refine w_aln (p := 1) (q137 0) rfl rfl ?_
        refine w_gR (p := 4) (j := 12) (v := 64) (q137 1) rfl (r56 hB) (by decide) (f56_12 hB) ?_
        refine w_aln (p := 5) (q137 4) rfl rfl ?_
        refine w_gI (p := 8) (j := 16) (v := (zz s4 56 16)) (q137 5) rfl (r56 hB) (by decide) (iv_zz s4 56 16) ?_
        refine w_iln (p := 9) (q137 8) rfl rfl ?_
        obtain ⟨o13, w⟩ := w
        refine w_ias (p := 10) (q137 9) rfl (r64 hB) (by decide) o13 ?_
        refine w_aln (p := 11) (q137 10) rfl rfl ?_
        refine w_gR (p := 14) (j := 13) (v := 65) (q137 11) rfl (r56 hB) (by decide) (f56_13 hB) ?_
        refine w_aln (p := 15) (q137 14) rfl rfl ?_
        refine w_gI (p := 18) (j := 16) (v := (zz s4 56 16)) (q137 15) rfl (r56 hB) (by decide) (iv_zz s4 56 16) ?_
        refine w_iln (p := 19) (q137 18) rfl rfl ?_
        refine w_ias (p := 20) (q137 19) rfl (r65 hB) (by decide) o13 ?_
        refine w_aln (p := 21) (q137 20) rfl rfl ?_
        refine w_gR (p := 24) (j := 14) (v := 66) (q137 21) rfl (r56 hB) (by decide) (f56_14 hB) ?_
        refine w_aln (p := 25) (q137 24) rfl rfl ?_
        refine w_gI (p := 28) (j := 16) (v := (zz s4 56 16)) (q137 25) rfl (r56 hB) (by decide) (iv_zz s4 56 16) ?_
        refine w_iln (p := 29) (q137 28) rfl rfl ?_
        refine w_ias (p := 30) (q137 29) rfl (r66 hB) (by decide) o13 ?_
        refine w_aln (p := 31) (q137 30) rfl rfl ?_
        refine w_gR (p := 34) (j := 15) (v := 67) (q137 31) rfl (r56 hB) (by decide) (f56_15 hB) ?_
        refine w_aln (p := 35) (q137 34) rfl rfl ?_
        refine w_gI (p := 38) (j := 16) (v := (zz s4 56 16)) (q137 35) rfl (r56 hB) (by decide) (iv_zz s4 56 16) ?_
        refine w_ic (p := 39) (q137 38) rfl ?_
        refine w_ias (p := 40) (q137 39) rfl (r67 hB) (by decide) o13 ?_
        refine w_aln (p := 41) (q137 40) rfl rfl ?_
        refine w_dupr (p := 42) (q137 41) rfl ?_
        refine w_gI (p := 45) (j := 16) (v := (zz s4 56 16)) (q137 42) rfl (r56 hB) (by decide) (iv_zz s4 56 16) ?_
        refine w_ic (p := 46) (q137 45) rfl ?_
        refine w_add (p := 47) (q137 46) rfl ?_
        refine w_pI (p := 50) (j := 16) (q137 47) rfl (r56 hB) (by decide) rfl ?_
        refine w_aln (p := 51) (q137 50) rfl rfl ?_
        refine w_gI (p := 54) (j := 16) (v := ((zz s4 56 16) + 1)) (q137 51) rfl (r56 hB) (by decide) rfl ?_
        refine w_ic (p := 55) (q137 54) rfl ?_
        refine w_sub (p := 56) (q137 55) rfl ?_
        refine w_ret (q137 56) rfl ⟨_, _, rfl, ?_⟩
        show a_W _ 197 176 [.ref 56, iv x1, iv x2, iv (zz s 77 x1.toNat), iv v6, iv (-1)] [iv (((zz s4 56 16) + 1) - 1)] _ _
        exact w_ret (q197 176) rfl w
    · replace w := w.2 (Decidable.not_not.mp c3)
      refine w_i2f (p := 126) (q197 123) rfl (inR_zz _ _ _) (by decide) c3 ?_
      refine w_aln (p := 127) (q197 126) rfl rfl ?_
      refine w_iln (p := 128) (q197 127) rfl rfl ?_
      refine w_ic (p := 129) (q197 128) rfl ?_
      refine w_ic (p := 130) (q197 129) rfl ?_
      refine w_call (st := []) (as := [.ref 56, iv x2, iv (-1), iv (-1)]) (as' := [iv (-1), iv (-1), iv x2, .ref 56]) (p := 133) (q197 130) rfl m137 (by decide) (a_ok_i rfl (r56 hB) rfl) rfl rfl (Nat.le_of_ble_eq_true rfl) (by omega) rfl rfl ?_
      refine w_aln (p := 1) (q137 0) rfl rfl ?_
      refine w_gR (p := 4) (j := 12) (v := 64) (q137 1) rfl (r56 hB) (by decide) (f56_12 hB) ?_
      refine w_aln (p := 5) (q137 4) rfl rfl ?_
      refine w_gI (p := 8) (j := 16) (v := (zz s 56 16)) (q137 5) rfl (r56 hB) (by decide) (iv_zz s 56 16) ?_
      refine w_iln (p := 9) (q137 8) rfl rfl ?_
      obtain ⟨o14, w⟩ := w
      refine w_ias (p := 10) (q137 9) rfl (r64 hB) (by decide) o14 ?_
      refine w_aln (p := 11) (q137 10) rfl rfl ?_
      refine w_gR (p := 14) (j := 13) (v := 65) (q137 11) rfl (r56 hB) (by decide) (f56_13 hB) ?_
      refine w_aln (p := 15) (q137 14) rfl rfl ?_
      refine w_gI (p := 18) (j := 16) (v := (zz s 56 16)) (q137 15) rfl (r56 hB) (by decide) (iv_zz s 56 16) ?_
      refine w_iln (p := 19) (q137 18) rfl rfl ?_
      refine w_ias (p := 20) (q137 19) rfl (r65 hB) (by decide) o14 ?_
      refine w_aln (p := 21) (q137 20) rfl rfl ?_
      refine w_gR (p := 24) (j := 14) (v := 66) (q137 21) rfl (r56 hB) (by decide) (f56_14 hB) ?_
      refine w_aln (p := 25) (q137 24) rfl rfl ?_
      refine w_gI (p := 28) (j := 16) (v := (zz s 56 16)) (q137 25) rfl (r56 hB) (by decide) (iv_zz s 56 16) ?_
      refine w_iln (p := 29) (q137 28) rfl rfl ?_
      refine w_ias (p := 30) (q137 29) rfl (r66 hB) (by decide) o14 ?_
      refine w_aln (p := 31) (q137 30) rfl rfl ?_
      refine w_gR (p := 34) (j := 15) (v := 67) (q137 31) rfl (r56 hB) (by decide) (f56_15 hB) ?_
      refine w_aln (p := 35) (q137 34) rfl rfl ?_
      refine w_gI (p := 38) (j := 16) (v := (zz s 56 16)) (q137 35) rfl (r56 hB) (by decide) (iv_zz s 56 16) ?_
      refine w_ic (p := 39) (q137 38) rfl ?_
      refine w_ias (p := 40) (q137 39) rfl (r67 hB) (by decide) o14 ?_
      refine w_aln (p := 41) (q137 40) rfl rfl ?_
      refine w_dupr (p := 42) (q137 41) rfl ?_
      refine w_gI (p := 45) (j := 16) (v := (zz s 56 16)) (q137 42) rfl (r56 hB) (by decide) (iv_zz s 56 16) ?_
      refine w_ic (p := 46) (q137 45) rfl ?_
      refine w_add (p := 47) (q137 46) rfl ?_
      refine w_pI (p := 50) (j := 16) (q137 47) rfl (r56 hB) (by decide) rfl ?_
      refine w_aln (p := 51) (q137 50) rfl rfl ?_
      refine w_gI (p := 54) (j := 16) (v := ((zz s 56 16) + 1)) (q137 51) rfl (r56 hB) (by decide) rfl ?_
      refine w_ic (p := 55) (q137 54) rfl ?_
      refine w_sub (p := 56) (q137 55) rfl ?_
      refine w_ret (q137 56) rfl ⟨_, _, rfl, ?_⟩
      show a_W _ 197 133 [.ref 56, iv x1, iv x2, iv (zz s 77 x1.toNat), .retAddr 0, .retAddr 0] [iv (((zz s 56 16) + 1) - 1)] _ _
      exact w_ret (q197 133) rfl w
  · replace w := w.2 (Int.not_le.mp c1)
    refine w_i1f (p := 112) (q197 109) rfl (inR_zz _ _ _) c1 ?_
    refine w_ic (p := 113) (q197 112) rfl ?_
    exact w_ret (q197 113) rfl w
set_option maxRecDepth 10000 in
theorem w202_0 {d : Nat} {B : aH} {Q : aR → Prop} (hB : a_Can B) (hd : 1 ≤ d) (x1 : Int) (s : Nat → Nat → Int32) (l : Nat → Nat → Int64) (w : a_W (d - 1) 144 0 [.ref 56, iv x1] [] (mkH B s l) (fun r => ∃ (v3 : Int) (s1 : Nat → Nat → Int32) (l2 : Nat → Nat → Int64), r = (.inl (some (iv v3)), mkH B s1 l2) ∧ (inR v3 ∧ ((v3 ≠ 0 → a_W (d - 1) 148 0 [.ref 56, iv 0, .retAddr 0] [] (mkH B s1 l2) (fun r => ∃ (v8 : Int) (s6 : Nat → Nat → Int32) (l7 : Nat → Nat → Int64), r = (.inl (some (iv v8)), mkH B s6 l7) ∧ (inR v8 ∧ ((v8 = 1 → a_W d 202 45 [.ref 56, iv x1, iv v8, .retAddr 0, .retAddr 0, .retAddr 0] [] (mkH B s6 l7) Q) ∧ (v8 ≠ 1 → ((v8 = 25 → a_W d 202 45 [.ref 56, iv x1, iv v8, .retAddr 0, .retAddr 0, .retAddr 0] [] (mkH B s6 l7) Q) ∧ (v8 ≠ 25 → ((v8 = 26 → a_W d 202 45 [.ref 56, iv x1, iv v8, .retAddr 0, .retAddr 0, .retAddr 0] [] (mkH B s6 l7) Q) ∧ (v8 ≠ 26 → ((v8 = 27 → a_W d 202 45 [.ref 56, iv x1, iv v8, .retAddr 0, .retAddr 0, .retAddr 0] [] (mkH B s6 l7) Q) ∧ (v8 ≠ 27 → ((v8 ≠ 28 → (((zz s6 56 22) ≤ 0 → a_W d 202 69 [.ref 56, iv x1, iv v8, .retAddr 0, .retAddr 0, .retAddr 0] [] (mkH B (zu (zu s6 56 22 2) 56 23 (zz s6 72 0)) l7) Q) ∧ (0 < (zz s6 56 22) → a_W d 202 69 [.ref 56, iv x1, iv v8, .retAddr 0, .retAddr 0, .retAddr 0] [] (mkH B s6 l7) Q))) ∧ (v8 = 28 → a_W d 202 45 [.ref 56, iv x1, iv v8, .retAddr 0, .retAddr 0, .retAddr 0] [] (mkH B s6 l7) Q))))))))))))) ∧ (v3 = 0 → Q (.inl (some (iv 0)), (mkH B s1 l2))))))) : a_W d 202 0 [.ref 56, iv x1, .retAddr 0, .retAddr 0, .retAddr 0, .retAddr 0] [] (mkH B s l) Q := by
  refine w_aln (p := 1) (q202 0) rfl rfl ?_
  refine w_iln (p := 2) (q202 1) rfl rfl ?_
  refine w_call (st := []) (as := [.ref 56, iv x1]) (as' := [iv x1, .ref 56]) (p := 5) (q202 2) rfl m144 (by decide) (a_ok_i rfl (r56 hB) rfl) rfl rfl (Nat.le_of_ble_eq_true rfl) (by omega) rfl rfl (a_W.imp w ?_)
  rintro _ ⟨v3, s1, l2, rfl, w⟩
  refine ⟨some (iv v3), _, rfl, ?_⟩
  show a_W _ 202 5 [.ref 56, iv x1, .retAddr 0, .retAddr 0, .retAddr 0, .retAddr 0] [iv v3] (mkH B s1 l2) _
  obtain ⟨h4, w⟩ := w
  by_cases c5 : v3 ≠ 0
  · replace w := w.1 c5
    refine w_i1t (q202 5) h4 c5 ?_
    refine w_aln (p := 11) (q202 10) rfl rfl ?_
    refine w_ic (p := 12) (q202 11) rfl ?_
    refine w_call (st := []) (as := [.ref 56, iv 0]) (as' := [iv 0, .ref 56]) (p := 15) (q202 12) rfl m148 (by decide) (a_ok_i rfl (r56 hB) rfl) rfl rfl (Nat.le_of_ble_eq_true rfl) (by omega) rfl rfl (a_W.imp w ?_)
    rintro _ ⟨v8, s6, l7, rfl, w⟩
    refine ⟨some (iv v8), _, rfl, ?_⟩
    show a_W _ 202 15 [.ref 56, iv x1, .retAddr 0, .retAddr 0, .retAddr 0, .retAddr 0] [iv v8] (mkH B s6 l7) _
    refine w_isn (p := 16) (ls' := [.ref 56, iv x1, iv v8, .retAddr 0, .retAddr 0, .retAddr 0]) (q202 15) rfl (Nat.le_of_ble_eq_true rfl) rfl ?_
    refine w_iln (p := 17) (q202 16) rfl rfl ?_
    refine w_ic (p := 18) (q202 17) rfl ?_
    obtain ⟨h9, w⟩ := w
    by_cases c10 : v8 = 1
    · replace w := w.1 c10
      refine w_i2t (q202 18) h9 (by decide) c10 ?_
      exact w
    · replace w := w.2 c10
      refine w_i2f (p := 21) (q202 18) rfl h9 (by decide) c10 ?_
      refine w_iln (p := 22) (q202 21) rfl rfl ?_
      refine w_bp (p := 24) (q202 22) rfl (by decide) ?_
      by_cases c11 : v8 = 25
      · replace w := w.1 c11
        refine w_i2t (q202 24) h9 (by decide) c11 ?_
        exact w
      · replace w := w.2 c11
        refine w_i2f (p := 27) (q202 24) rfl h9 (by decide) c11 ?_
        refine w_iln (p := 28) (q202 27) rfl rfl ?_
        refine w_bp (p := 30) (q202 28) rfl (by decide) ?_
        by_cases c12 : v8 = 26
        · replace w := w.1 c12
          refine w_i2t (q202 30) h9 (by decide) c12 ?_
          exact w
        · replace w := w.2 c12
          refine w_i2f (p := 33) (q202 30) rfl h9 (by decide) c12 ?_
          refine w_iln (p := 34) (q202 33) rfl rfl ?_
          refine w_bp (p := 36) (q202 34) rfl (by decide) ?_
          by_cases c13 : v8 = 27
          · replace w := w.1 c13
            refine w_i2t (q202 36) h9 (by decide) c13 ?_
            exact w
          · replace w := w.2 c13
            refine w_i2f (p := 39) (q202 36) rfl h9 (by decide) c13 ?_
            refine w_iln (p := 40) (q202 39) rfl rfl ?_
            refine w_bp (p := 42) (q202 40) rfl (by decide) ?_
            by_cases c14 : v8 ≠ 28
            · replace w := w.1 c14
              refine w_i2t (q202 42) h9 (by decide) c14 ?_
              refine w_aln (p := 59) (q202 58) rfl rfl ?_
              refine w_ic (p := 60) (q202 59) rfl ?_
              refine w_aln (p := 61) (q202 60) rfl rfl ?_
              refine w_gR (p := 64) (j := 28) (v := 72) (q202 61) rfl (r56 hB) (by decide) (f56_28 hB) ?_
              refine w_ic (p := 65) (q202 64) rfl ?_
              refine w_ia (p := 66) (v := (zz s6 72 0)) (q202 65) rfl (r72 hB) (by decide) (by decide) (iv_zz s6 72 0) ?_
              refine w_call (st := []) (as := [.ref 56, iv 2, iv (zz s6 72 0)]) (as' := [iv (zz s6 72 0), iv 2, .ref 56]) (p := 69) (q202 66) rfl m152 (by decide) (a_ok_i rfl (r56 hB) rfl) rfl rfl (Nat.le_of_ble_eq_true rfl) (by omega) rfl rfl ?_
              refine w_aln (p := 1) (q152 0) rfl rfl ?_
              refine w_gI (p := 4) (j := 22) (v := (zz s6 56 22)) (q152 1) rfl (r56 hB) (by decide) (iv_zz s6 56 22) ?_
              by_cases c15 : (zz s6 56 22) ≤ 0
              · replace w := w.1 c15
                refine w_i1t (q152 4) (inR_zz _ _ _) c15 ?_
                refine w_aln (p := 9) (q152 8) rfl rfl ?_
                refine w_iln (p := 10) (q152 9) rfl rfl ?_
                refine w_pI (p := 13) (j := 22) (q152 10) rfl (r56 hB) (by decide) rfl ?_
                refine w_aln (p := 14) (q152 13) rfl rfl ?_
                refine w_iln (p := 15) (q152 14) rfl rfl ?_
                refine w_pI (p := 18) (j := 23) (q152 15) rfl (r56 hB) (by decide) rfl ?_
                refine w_rv (q152 18) rfl ⟨_, _, rfl, ?_⟩
                show a_W _ 202 69 [.ref 56, iv x1, iv v8, .retAddr 0, .retAddr 0, .retAddr 0] [] _ _
                exact w
              · replace w := w.2 (Int.not_le.mp c15)
                refine w_i1f (p := 7) (q152 4) rfl (inR_zz _ _ _) c15 ?_
                refine w_rv (q152 7) rfl ⟨_, _, rfl, ?_⟩
                show a_W _ 202 69 [.ref 56, iv x1, iv v8, .retAddr 0, .retAddr 0, .retAddr 0] [] _ _
                exact w
            · replace w := w.2 (Decidable.not_not.mp c14)
              refine w_i2f (p := 45) (q202 42) rfl h9 (by decide) c14 ?_
              exact w
  · replace w := w.2 (Decidable.not_not.mp c5)
    refine w_i1f (p := 8) (q202 5) rfl h4 c5 ?_
    refine w_ic (p := 9) (q202 8) rfl ?_
    exact w_ret (q202 9) rfl w
set_option maxRecDepth 10000 in
theorem w202_45 {d : Nat} {B : aH} {Q : aR → Prop} (hB : a_Can B) (x1 x2 : Int) (s : Nat → Nat → Int32) (l : Nat → Nat → Int64) (w : a_W d 202 69 [.ref 56, iv x1, iv x2, .retAddr 0, .retAddr 0, .retAddr 0] [] (mkH B (zu s 56 31 ((zz s 56 31) + 1)) l) Q) : a_W d 202 45 [.ref 56, iv x1, iv x2, .retAddr 0, .retAddr 0, .retAddr 0] [] (mkH B s l) Q := by
  refine w_aln (p := 46) (q202 45) rfl rfl ?_
  refine w_dupr (p := 47) (q202 46) rfl ?_
  refine w_gI (p := 50) (j := 31) (v := (zz s 56 31)) (q202 47) rfl (r56 hB) (by decide) (iv_zz s 56 31) ?_
  refine w_ic (p := 51) (q202 50) rfl ?_
  refine w_add (p := 52) (q202 51) rfl ?_
  refine w_pI (p := 55) (j := 31) (q202 52) rfl (r56 hB) (by decide) rfl ?_
  refine w_goto (q202 55) ?_
  exact w
set_option maxRecDepth 10000 in
theorem w202_69 {d : Nat} {B : aH} {Q : aR → Prop} (hB : a_Can B) (hd : 1 ≤ d) (x1 x2 : Int) (s : Nat → Nat → Int32) (l : Nat → Nat → Int64) (w : a_W (d - 1) 166 0 [.ref 56, iv 7] [] (mkH B s l) (fun r => ∃ (s1 : Nat → Nat → Int32) (l2 : Nat → Nat → Int64), r = (.inl none, mkH B s1 l2) ∧ (((zz s1 56 22) ≤ 0 → a_W (d - 1) 167 0 [.ref 56, .retAddr 0, .retAddr 0, .retAddr 0, .retAddr 0, .retAddr 0, .retAddr 0, .retAddr 0, .retAddr 0] [] (mkH B s1 l2) (fun r => ∃ (v6 : Int) (s4 : Nat → Nat → Int32) (l5 : Nat → Nat → Int64), r = (.inl (some (iv v6)), mkH B s4 l5) ∧ a_W (d - 1) 166 0 [.ref 56, iv 0] [] (mkH B s4 l5) (fun r => ∃ (s7 : Nat → Nat → Int32) (l8 : Nat → Nat → Int64), r = (.inl none, mkH B s7 l8) ∧ (inR x2 ∧ ((x2 ≠ 1 → (((zz s7 56 22) ≠ 0 → a_W d 202 164 [.ref 56, iv x1, iv x2, iv v6, iv 0, .retAddr 0] [] (mkH B s7 l8) Q) ∧ ((zz s7 56 22) = 0 → ((0 ≤ x2 ∧ x2 < 29) ∧ (((zz s7 60 x2.toNat) = (-1) → a_W d 202 164 [.ref 56, iv x1, iv x2, iv v6, iv 0, .retAddr 0] [] (mkH B s7 l8) Q) ∧ ((zz s7 60 x2.toNat) ≠ (-1) → a_W d 202 153 [.ref 56, iv x1, iv x2, iv v6, iv 0, .retAddr 0] [] (mkH B s7 l8) Q)))))) ∧ (x2 = 1 → (((zz s7 56 22) ≠ 0 → a_W d 202 164 [.ref 56, iv x1, iv x2, iv v6, iv 1, .retAddr 0] [] (mkH B s7 l8) Q) ∧ ((zz s7 56 22) = 0 → a_W (d - 1) 158 0 [.ref 58, iv (zz s7 56 3), .ref 74, iv 0, .retAddr 0] [] (mkH B s7 l8) (fun r => ∃ (v17 : Int) (s15 : Nat → Nat → Int32) (l16 : Nat → Nat → Int64), r = (.inl (some (iv v17)), mkH B s15 l16) ∧ (inR v17 ∧ ((v17 = (-1) → a_W d 202 164 [.ref 56, iv x1, iv x2, iv v6, iv 1, .retAddr 0] [] (mkH B s15 l16) Q) ∧ (v17 ≠ (-1) → a_W d 202 153 [.ref 56, iv x1, iv x2, iv v6, iv 1, .retAddr 0] [] (mkH B s15 l16) Q)))))))))))) ∧ (0 < (zz s1 56 22) → a_W (d - 1) 166 0 [.ref 56, iv 0] [] (mkH B s1 l2) (fun r => ∃ (s20 : Nat → Nat → Int32) (l21 : Nat → Nat → Int64), r = (.inl none, mkH B s20 l21) ∧ (inR x2 ∧ ((x2 ≠ 1 → (((zz s20 56 22) ≠ 0 → a_W d 202 164 [.ref 56, iv x1, iv x2, iv 0, iv 0, .retAddr 0] [] (mkH B s20 l21) Q) ∧ ((zz s20 56 22) = 0 → ((0 ≤ x2 ∧ x2 < 29) ∧ (((zz s20 60 x2.toNat) = (-1) → a_W d 202 164 [.ref 56, iv x1, iv x2, iv 0, iv 0, .retAddr 0] [] (mkH B s20 l21) Q) ∧ ((zz s20 60 x2.toNat) ≠ (-1) → a_W d 202 153 [.ref 56, iv x1, iv x2, iv 0, iv 0, .retAddr 0] [] (mkH B s20 l21) Q)))))) ∧ (x2 = 1 → (((zz s20 56 22) ≠ 0 → a_W d 202 164 [.ref 56, iv x1, iv x2, iv 0, iv 1, .retAddr 0] [] (mkH B s20 l21) Q) ∧ ((zz s20 56 22) = 0 → a_W (d - 1) 158 0 [.ref 58, iv (zz s20 56 3), .ref 74, iv 0, .retAddr 0] [] (mkH B s20 l21) (fun r => ∃ (v30 : Int) (s28 : Nat → Nat → Int32) (l29 : Nat → Nat → Int64), r = (.inl (some (iv v30)), mkH B s28 l29) ∧ (inR v30 ∧ ((v30 = (-1) → a_W d 202 164 [.ref 56, iv x1, iv x2, iv 0, iv 1, .retAddr 0] [] (mkH B s28 l29) Q) ∧ (v30 ≠ (-1) → a_W d 202 153 [.ref 56, iv x1, iv x2, iv 0, iv 1, .retAddr 0] [] (mkH B s28 l29) Q)))))))))))))) : a_W d 202 69 [.ref 56, iv x1, iv x2, .retAddr 0, .retAddr 0, .retAddr 0] [] (mkH B s l) Q := by
  refine w_aln (p := 70) (q202 69) rfl rfl ?_
  refine w_bp (p := 72) (q202 70) rfl (by decide) ?_
  refine w_call (st := []) (as := [.ref 56, iv 7]) (as' := [iv 7, .ref 56]) (p := 75) (q202 72) rfl m166 (by decide) (a_ok_i rfl (r56 hB) rfl) rfl rfl (Nat.le_of_ble_eq_true rfl) (by omega) rfl rfl (a_W.imp w ?_)
  rintro _ ⟨s1, l2, rfl, w⟩
  refine ⟨none, _, rfl, ?_⟩
  show a_W _ 202 75 [.ref 56, iv x1, iv x2, .retAddr 0, .retAddr 0, .retAddr 0] [] (mkH B s1 l2) _
  refine w_aln (p := 76) (q202 75) rfl rfl ?_
  refine w_gI (p := 79) (j := 22) (v := (zz s1 56 22)) (q202 76) rfl (r56 hB) (by decide) (iv_zz s1 56 22) ?_
  by_cases c3 : (zz s1 56 22) ≤ 0
  · replace w := w.1 c3
    refine w_i1t (q202 79) (inR_zz _ _ _) c3 ?_
    refine w_aln (p := 87) (q202 86) rfl rfl ?_
    refine w_call (st := []) (as := [.ref 56]) (as' := [.ref 56]) (p := 90) (q202 87) rfl m167 (by decide) (a_ok_i rfl (r56 hB) rfl) rfl rfl (Nat.le_of_ble_eq_true rfl) (by omega) rfl rfl (a_W.imp w ?_)
    rintro _ ⟨v6, s4, l5, rfl, w⟩
    refine ⟨some (iv v6), _, rfl, ?_⟩
    show a_W _ 202 90 [.ref 56, iv x1, iv x2, .retAddr 0, .retAddr 0, .retAddr 0] [iv v6] (mkH B s4 l5) _
    refine w_isn (p := 91) (ls' := [.ref 56, iv x1, iv x2, iv v6, .retAddr 0, .retAddr 0]) (q202 90) rfl (Nat.le_of_ble_eq_true rfl) rfl ?_
    refine w_aln (p := 92) (q202 91) rfl rfl ?_
    refine w_ic (p := 93) (q202 92) rfl ?_
    refine w_call (st := []) (as := [.ref 56, iv 0]) (as' := [iv 0, .ref 56]) (p := 96) (q202 93) rfl m166 (by decide) (a_ok_i rfl (r56 hB) rfl) rfl rfl (Nat.le_of_ble_eq_true rfl) (by omega) rfl rfl (a_W.imp w ?_)
    rintro _ ⟨s7, l8, rfl, w⟩
    refine ⟨none, _, rfl, ?_⟩
    show a_W _ 202 96 [.ref 56, iv x1, iv x2, iv v6, .retAddr 0, .retAddr 0] [] (mkH B s7 l8) _
    refine w_iln (p := 97) (q202 96) rfl rfl ?_
    refine w_ic (p := 98) (q202 97) rfl ?_
    obtain ⟨h9, w⟩ := w
    by_cases c10 : x2 ≠ 1
    · replace w := w.1 c10
      refine w_i2t (q202 98) h9 (by decide) c10 ?_
      refine w_ic (p := 106) (q202 105) rfl ?_
      refine w_is (p := 108) (ls' := [.ref 56, iv x1, iv x2, iv v6, iv 0, .retAddr 0]) (q202 106) rfl (Nat.le_of_ble_eq_true rfl) rfl ?_
      refine w_aln (p := 109) (q202 108) rfl rfl ?_
      refine w_gI (p := 112) (j := 22) (v := (zz s7 56 22)) (q202 109) rfl (r56 hB) (by decide) (iv_zz s7 56 22) ?_
      by_cases c11 : (zz s7 56 22) ≠ 0
      · replace w := w.1 c11
        refine w_i1t (q202 112) (inR_zz _ _ _) c11 ?_
        exact w
      · replace w := w.2 (Decidable.not_not.mp c11)
        refine w_i1f (p := 115) (q202 112) rfl (inR_zz _ _ _) c11 ?_
        refine w_il (p := 117) (q202 115) rfl rfl ?_
        refine w_i1t (q202 117) (by decide) (show zc _ _ _ by unfold zc; omega) ?_
        refine w_aln (p := 144) (q202 143) rfl rfl ?_
        refine w_gR (p := 147) (j := 8) (v := 60) (q202 144) rfl (r56 hB) (by decide) (f56_8 hB) ?_
        refine w_iln (p := 148) (q202 147) rfl rfl ?_
        obtain ⟨o12, w⟩ := w
        refine w_ia (p := 149) (v := (zz s7 60 x2.toNat)) (q202 148) rfl (r60 hB) (by decide) o12 (iv_zz s7 60 x2.toNat) ?_
        refine w_ic (p := 150) (q202 149) rfl ?_
        by_cases c13 : (zz s7 60 x2.toNat) = (-1)
        · replace w := w.1 c13
          refine w_i2t (q202 150) (inR_zz _ _ _) (by decide) c13 ?_
          exact w
        · replace w := w.2 c13
          refine w_i2f (p := 153) (q202 150) rfl (inR_zz _ _ _) (by decide) c13 ?_
          exact w
    · replace w := w.2 (Decidable.not_not.mp c10)
      refine w_i2f (p := 101) (q202 98) rfl h9 (by decide) c10 ?_
      refine w_ic (p := 102) (q202 101) rfl ?_
      refine w_goto (q202 102) ?_
      refine w_is (p := 108) (ls' := [.ref 56, iv x1, iv x2, iv v6, iv 1, .retAddr 0]) (q202 106) rfl (Nat.le_of_ble_eq_true rfl) rfl ?_
      refine w_aln (p := 109) (q202 108) rfl rfl ?_
      refine w_gI (p := 112) (j := 22) (v := (zz s7 56 22)) (q202 109) rfl (r56 hB) (by decide) (iv_zz s7 56 22) ?_
      by_cases c14 : (zz s7 56 22) ≠ 0
      · replace w := w.1 c14
        refine w_i1t (q202 112) (inR_zz _ _ _) c14 ?_
        exact w
      · replace w := w.2 (Decidable.not_not.mp c14)
        refine w_i1f (p := 115) (q202 112) rfl (inR_zz _ _ _) c14 ?_
        refine w_il (p := 117) (q202 115) rfl rfl ?_
        refine w_i1f (p := 120) (q202 117) rfl (by decide) (show ¬ zc _ _ _ by unfold zc; omega) ?_
        refine w_aln (p := 121) (q202 120) rfl rfl ?_
        refine w_gR (p := 124) (j := 6) (v := 58) (q202 121) rfl (r56 hB) (by decide) (f56_6 hB) ?_
        refine w_aln (p := 125) (q202 124) rfl rfl ?_
        refine w_gI (p := 128) (j := 3) (v := (zz s7 56 3)) (q202 125) rfl (r56 hB) (by decide) (iv_zz s7 56 3) ?_
        refine w_aln (p := 129) (q202 128) rfl rfl ?_
        refine w_gR (p := 132) (j := 30) (v := 74) (q202 129) rfl (r56 hB) (by decide) (f56_30 hB) ?_
        refine w_ic (p := 133) (q202 132) rfl ?_
        refine w_call (st := []) (as := [.ref 58, iv (zz s7 56 3), .ref 74, iv 0]) (as' := [iv 0, .ref 74, iv (zz s7 56 3), .ref 58]) (p := 136) (q202 133) rfl m158 (by decide) (a_ok_s rfl rfl) rfl rfl (Nat.le_of_ble_eq_true rfl) (by omega) rfl rfl (a_W.imp w ?_)
        rintro _ ⟨v17, s15, l16, rfl, w⟩
        refine ⟨some (iv v17), _, rfl, ?_⟩
        show a_W _ 202 136 [.ref 56, iv x1, iv x2, iv v6, iv 1, .retAddr 0] [iv v17] (mkH B s15 l16) _
        refine w_ic (p := 137) (q202 136) rfl ?_
        obtain ⟨h18, w⟩ := w
        by_cases c19 : v17 = (-1)
        · replace w := w.1 c19
          refine w_i2t (q202 137) h18 (by decide) c19 ?_
          exact w
        · replace w := w.2 c19
          refine w_i2f (p := 140) (q202 137) rfl h18 (by decide) c19 ?_
          refine w_goto (q202 140) ?_
          exact w
  · replace w := w.2 (Int.not_le.mp c3)
    refine w_i1f (p := 82) (q202 79) rfl (inR_zz _ _ _) c3 ?_
    refine w_ic (p := 83) (q202 82) rfl ?_
    refine w_goto (q202 83) ?_
    refine w_isn (p := 91) (ls' := [.ref 56, iv x1, iv x2, iv 0, .retAddr 0, .retAddr 0]) (q202 90) rfl (Nat.le_of_ble_eq_true rfl) rfl ?_
    refine w_aln (p := 92) (q202 91) rfl rfl ?_
    refine w_ic (p := 93) (q202 92) rfl ?_
    refine w_call (st := []) (as := [.ref 56, iv 0]) (as' := [iv 0, .ref 56]) (p := 96) (q202 93) rfl m166 (by decide) (a_ok_i rfl (r56 hB) rfl) rfl rfl (Nat.le_of_ble_eq_true rfl) (by omega) rfl rfl (a_W.imp w ?_)
    rintro _ ⟨s20, l21, rfl, w⟩
    refine ⟨none, _, rfl, ?_⟩
    show a_W _ 202 96 [.ref 56, iv x1, iv x2, iv 0, .retAddr 0, .retAddr 0] [] (mkH B s20 l21) _
    refine w_iln (p := 97) (q202 96) rfl rfl ?_
    refine w_ic (p := 98) (q202 97) rfl ?_
    obtain ⟨h22, w⟩ := w
    by_cases c23 : x2 ≠ 1
    · replace w := w.1 c23
      refine w_i2t (q202 98) h22 (by decide) c23 ?_
      refine w_ic (p := 106) (q202 105) rfl ?_
      refine w_is (p := 108) (ls' := [.ref 56, iv x1, iv x2, iv 0, iv 0, .retAddr 0]) (q202 106) rfl (Nat.le_of_ble_eq_true rfl) rfl ?_
      refine w_aln (p := 109) (q202 108) rfl rfl ?_
      refine w_gI (p := 112) (j := 22) (v := (zz s20 56 22)) (q202 109) rfl (r56 hB) (by decide) (iv_zz s20 56 22) ?_
      by_cases c24 : (zz s20 56 22) ≠ 0
      · replace w := w.1 c24
        refine w_i1t (q202 112) (inR_zz _ _ _) c24 ?_
        exact w
      · replace w := w.2 (Decidable.not_not.mp c24)
        refine w_i1f (p := 115) (q202 112) rfl (inR_zz _ _ _) c24 ?_
        refine w_il (p := 117) (q202 115) rfl rfl ?_
        refine w_i1t (q202 117) (by decide) (show zc _ _ _ by unfold zc; omega) ?_
        refine w_aln (p := 144) (q202 143) rfl rfl ?_
        refine w_gR (p := 147) (j := 8) (v := 60) (q202 144) rfl (r56 hB) (by decide) (f56_8 hB) ?_
        refine w_iln (p := 148) (q202 147) rfl rfl ?_
        obtain ⟨o25, w⟩ := w
        refine w_ia (p := 149) (v := (zz s20 60 x2.toNat)) (q202 148) rfl (r60 hB) (by decide) o25 (iv_zz s20 60 x2.toNat) ?_
        refine w_ic (p := 150) (q202 149) rfl ?_
        by_cases c26 : (zz s20 60 x2.toNat) = (-1)
        · replace w := w.1 c26
          refine w_i2t (q202 150) (inR_zz _ _ _) (by decide) c26 ?_
          exact w
        · replace w := w.2 c26
          refine w_i2f (p := 153) (q202 150) rfl (inR_zz _ _ _) (by decide) c26 ?_
          exact w
    · replace w := w.2 (Decidable.not_not.mp c23)
      refine w_i2f (p := 101) (q202 98) rfl h22 (by decide) c23 ?_
      refine w_ic (p := 102) (q202 101) rfl ?_
      refine w_goto (q202 102) ?_
      refine w_is (p := 108) (ls' := [.ref 56, iv x1, iv x2, iv 0, iv 1, .retAddr 0]) (q202 106) rfl (Nat.le_of_ble_eq_true rfl) rfl ?_
      refine w_aln (p := 109) (q202 108) rfl rfl ?_
      refine w_gI (p := 112) (j := 22) (v := (zz s20 56 22)) (q202 109) rfl (r56 hB) (by decide) (iv_zz s20 56 22) ?_
      by_cases c27 : (zz s20 56 22) ≠ 0
      · replace w := w.1 c27
        refine w_i1t (q202 112) (inR_zz _ _ _) c27 ?_
        exact w
      · replace w := w.2 (Decidable.not_not.mp c27)
        refine w_i1f (p := 115) (q202 112) rfl (inR_zz _ _ _) c27 ?_
        refine w_il (p := 117) (q202 115) rfl rfl ?_
        refine w_i1f (p := 120) (q202 117) rfl (by decide) (show ¬ zc _ _ _ by unfold zc; omega) ?_
        refine w_aln (p := 121) (q202 120) rfl rfl ?_
        refine w_gR (p := 124) (j := 6) (v := 58) (q202 121) rfl (r56 hB) (by decide) (f56_6 hB) ?_
        refine w_aln (p := 125) (q202 124) rfl rfl ?_
        refine w_gI (p := 128) (j := 3) (v := (zz s20 56 3)) (q202 125) rfl (r56 hB) (by decide) (iv_zz s20 56 3) ?_
        refine w_aln (p := 129) (q202 128) rfl rfl ?_
        refine w_gR (p := 132) (j := 30) (v := 74) (q202 129) rfl (r56 hB) (by decide) (f56_30 hB) ?_
        refine w_ic (p := 133) (q202 132) rfl ?_
        refine w_call (st := []) (as := [.ref 58, iv (zz s20 56 3), .ref 74, iv 0]) (as' := [iv 0, .ref 74, iv (zz s20 56 3), .ref 58]) (p := 136) (q202 133) rfl m158 (by decide) (a_ok_s rfl rfl) rfl rfl (Nat.le_of_ble_eq_true rfl) (by omega) rfl rfl (a_W.imp w ?_)
        rintro _ ⟨v30, s28, l29, rfl, w⟩
        refine ⟨some (iv v30), _, rfl, ?_⟩
        show a_W _ 202 136 [.ref 56, iv x1, iv x2, iv 0, iv 1, .retAddr 0] [iv v30] (mkH B s28 l29) _
        refine w_ic (p := 137) (q202 136) rfl ?_
        obtain ⟨h31, w⟩ := w
        by_cases c32 : v30 = (-1)
        · replace w := w.1 c32
          refine w_i2t (q202 137) h31 (by decide) c32 ?_
          exact w
        · replace w := w.2 c32
          refine w_i2f (p := 140) (q202 137) rfl h31 (by decide) c32 ?_
          refine w_goto (q202 140) ?_
          exact w
set_option maxRecDepth 10000 in
theorem w202_153 {d : Nat} {B : aH} {Q : aR → Prop} (hB : a_Can B) (hd : 1 ≤ d) (x1 x2 x3 x4 : Int) (s : Nat → Nat → Int32) (l : Nat → Nat → Int64) (w : (((zz s 56 22) ≤ 0 → a_W d 202 164 [.ref 56, iv x1, iv x2, iv x3, iv x4, .retAddr 0] [] (mkH B (zu (zu s 56 22 4) 56 23 (zz s 72 0)) l) Q) ∧ (0 < (zz s 56 22) → a_W d 202 164 [.ref 56, iv x1, iv x2, iv x3, iv x4, .retAddr 0] [] (mkH B s l) Q))) : a_W d 202 153 [.ref 56, iv x1, iv x2, iv x3, iv x4, .retAddr 0] [] (mkH B s l) Q := by
  refine w_aln (p := 154) (q202 153) rfl rfl ?_
  refine w_ic (p := 155) (q202 154) rfl ?_
  refine w_aln (p := 156) (q202 155) rfl rfl ?_
  refine w_gR (p := 159) (j := 28) (v := 72) (q202 156) rfl (r56 hB) (by decide) (f56_28 hB) ?_
  refine w_ic (p := 160) (q202 159) rfl ?_
  refine w_ia (p := 161) (v := (zz s 72 0)) (q202 160) rfl (r72 hB) (by decide) (by decide) (iv_zz s 72 0) ?_
  refine w_call (st := []) (as := [.ref 56, iv 4, iv (zz s 72 0)]) (as' := [iv (zz s 72 0), iv 4, .ref 56]) (p := 164) (q202 161) rfl m152 (by decide) (a_ok_i rfl (r56 hB) rfl) rfl rfl (Nat.le_of_ble_eq_true rfl) (by omega) rfl rfl ?_
  refine w_aln (p := 1) (q152 0) rfl rfl ?_
  refine w_gI (p := 4) (j := 22) (v := (zz s 56 22)) (q152 1) rfl (r56 hB) (by decide) (iv_zz s 56 22) ?_
  by_cases c1 : (zz s 56 22) ≤ 0
  · replace w := w.1 c1
    refine w_i1t (q152 4) (inR_zz _ _ _) c1 ?_
    refine w_aln (p := 9) (q152 8) rfl rfl ?_
    refine w_iln (p := 10) (q152 9) rfl rfl ?_
    refine w_pI (p := 13) (j := 22) (q152 10) rfl (r56 hB) (by decide) rfl ?_
    refine w_aln (p := 14) (q152 13) rfl rfl ?_
    refine w_iln (p := 15) (q152 14) rfl rfl ?_
    refine w_pI (p := 18) (j := 23) (q152 15) rfl (r56 hB) (by decide) rfl ?_
    refine w_rv (q152 18) rfl ⟨_, _, rfl, ?_⟩
    show a_W _ 202 164 [.ref 56, iv x1, iv x2, iv x3, iv x4, .retAddr 0] [] _ _
    exact w
  · replace w := w.2 (Int.not_le.mp c1)
    refine w_i1f (p := 7) (q152 4) rfl (inR_zz _ _ _) c1 ?_
    refine w_rv (q152 7) rfl ⟨_, _, rfl, ?_⟩
    show a_W _ 202 164 [.ref 56, iv x1, iv x2, iv x3, iv x4, .retAddr 0] [] _ _
    exact w
set_option maxRecDepth 10000 in
theorem w202_164 {d : Nat} {B : aH} {Q : aR → Prop} (hB : a_Can B) (hd : 1 ≤ d) (x1 x2 x3 x4 : Int) (s : Nat → Nat → Int32) (l : Nat → Nat → Int64) (w : (((zz s 56 3) ≠ 112 → a_W d 202 185 [.ref 56, iv x1, iv x2, iv x3, iv x4, .retAddr 0] [] (mkH B s l) Q) ∧ ((zz s 56 3) = 112 → (((zz s 56 22) ≤ 0 → a_W d 202 185 [.ref 56, iv x1, iv x2, iv x3, iv x4, .retAddr 0] [] (mkH B (zu (zu s 56 22 8) 56 23 (zz s 72 0)) l) Q) ∧ (0 < (zz s 56 22) → a_W d 202 185 [.ref 56, iv x1, iv x2, iv x3, iv x4, .retAddr 0] [] (mkH B s l) Q))))) : a_W d 202 164 [.ref 56, iv x1, iv x2, iv x3, iv x4, .retAddr 0] [] (mkH B s l) Q := by
  refine w_aln (p := 165) (q202 164) rfl rfl ?_
  refine w_gI (p := 168) (j := 3) (v := (zz s 56 3)) (q202 165) rfl (r56 hB) (by decide) (iv_zz s 56 3) ?_
  refine w_bp (p := 170) (q202 168) rfl (by decide) ?_
  by_cases c1 : (zz s 56 3) ≠ 112
  · replace w := w.1 c1
    refine w_i2t (q202 170) (inR_zz _ _ _) (by decide) c1 ?_
    exact w
  · replace w := w.2 (Decidable.not_not.mp c1)
    refine w_i2f (p := 173) (q202 170) rfl (inR_zz _ _ _) (by decide) c1 ?_
    refine w_aln (p := 174) (q202 173) rfl rfl ?_
    refine w_bp (p := 176) (q202 174) rfl (by decide) ?_
    refine w_aln (p := 177) (q202 176) rfl rfl ?_
    refine w_gR (p := 180) (j := 28) (v := 72) (q202 177) rfl (r56 hB) (by decide) (f56_28 hB) ?_
    refine w_ic (p := 181) (q202 180) rfl ?_
    refine w_ia (p := 182) (v := (zz s 72 0)) (q202 181) rfl (r72 hB) (by decide) (by decide) (iv_zz s 72 0) ?_
    refine w_call (st := []) (as := [.ref 56, iv 8, iv (zz s 72 0)]) (as' := [iv (zz s 72 0), iv 8, .ref 56]) (p := 185) (q202 182) rfl m152 (by decide) (a_ok_i rfl (r56 hB) rfl) rfl rfl (Nat.le_of_ble_eq_true rfl) (by omega) rfl rfl ?_
    refine w_aln (p := 1) (q152 0) rfl rfl ?_
    refine w_gI (p := 4) (j := 22) (v := (zz s 56 22)) (q152 1) rfl (r56 hB) (by decide) (iv_zz s 56 22) ?_
    by_cases c2 : (zz s 56 22) ≤ 0
    · replace w := w.1 c2
      refine w_i1t (q152 4) (inR_zz _ _ _) c2 ?_
      refine w_aln (p := 9) (q152 8) rfl rfl ?_
      refine w_iln (p := 10) (q152 9) rfl rfl ?_
      refine w_pI (p := 13) (j := 22) (q152 10) rfl (r56 hB) (by decide) rfl ?_
      refine w_aln (p := 14) (q152 13) rfl rfl ?_
      refine w_iln (p := 15) (q152 14) rfl rfl ?_
      refine w_pI (p := 18) (j := 23) (q152 15) rfl (r56 hB) (by decide) rfl ?_
      refine w_rv (q152 18) rfl ⟨_, _, rfl, ?_⟩
      show a_W _ 202 185 [.ref 56, iv x1, iv x2, iv x3, iv x4, .retAddr 0] [] _ _
      exact w
    · replace w := w.2 (Int.not_le.mp c2)
      refine w_i1f (p := 7) (q152 4) rfl (inR_zz _ _ _) c2 ?_
      refine w_rv (q152 7) rfl ⟨_, _, rfl, ?_⟩
      show a_W _ 202 185 [.ref 56, iv x1, iv x2, iv x3, iv x4, .retAddr 0] [] _ _
      exact w
set_option maxRecDepth 10000 in
theorem w202_185 {d : Nat} {B : aH} {Q : aR → Prop} (hB : a_Can B) (hd : 1 ≤ d) (x1 x2 x3 x4 : Int) (s : Nat → Nat → Int32) (l : Nat → Nat → Int64) (w : (((zz s 56 22) ≠ 0 → a_W d 202 197 [.ref 56, iv x1, iv x2, iv x3, iv x4, .retAddr 0] [] (mkH B s l) Q) ∧ ((zz s 56 22) = 0 → a_W (d - 1) 183 0 [.ref 56, iv x3] [] (mkH B s l) (fun r => ∃ (s2 : Nat → Nat → Int32) (l3 : Nat → Nat → Int64), r = (.inl none, mkH B s2 l3) ∧ a_W d 202 197 [.ref 56, iv x1, iv x2, iv x3, iv x4, .retAddr 0] [] (mkH B s2 l3) Q)))) : a_W d 202 185 [.ref 56, iv x1, iv x2, iv x3, iv x4, .retAddr 0] [] (mkH B s l) Q := by
  refine w_aln (p := 186) (q202 185) rfl rfl ?_
  refine w_gI (p := 189) (j := 22) (v := (zz s 56 22)) (q202 186) rfl (r56 hB) (by decide) (iv_zz s 56 22) ?_
  by_cases c1 : (zz s 56 22) ≠ 0
  · replace w := w.1 c1
    refine w_i1t (q202 189) (inR_zz _ _ _) c1 ?_
    exact w
  · replace w := w.2 (Decidable.not_not.mp c1)
    refine w_i1f (p := 192) (q202 189) rfl (inR_zz _ _ _) c1 ?_
    refine w_aln (p := 193) (q202 192) rfl rfl ?_
    refine w_iln (p := 194) (q202 193) rfl rfl ?_
    refine w_call (st := []) (as := [.ref 56, iv x3]) (as' := [iv x3, .ref 56]) (p := 197) (q202 194) rfl m183 (by decide) (a_ok_i rfl (r56 hB) rfl) rfl rfl (Nat.le_of_ble_eq_true rfl) (by omega) rfl rfl (a_W.imp w ?_)
    rintro _ ⟨s2, l3, rfl, w⟩
    refine ⟨none, _, rfl, ?_⟩
    show a_W _ 202 197 [.ref 56, iv x1, iv x2, iv x3, iv x4, .retAddr 0] [] (mkH B s2 l3) _
    exact w
set_option maxRecDepth 10000 in
theorem w202_197 {d : Nat} {B : aH} {Q : aR → Prop} (hB : a_Can B) (hd : 1 ≤ d) (x1 x2 x3 x4 : Int) (s : Nat → Nat → Int32) (l : Nat → Nat → Int64) (w : (((zz s 56 22) ≤ 0 → a_W (d - 1) 197 0 [.ref 56, iv x3, .retAddr 0, .retAddr 0, .retAddr 0, .retAddr 0] [] (mkH B s l) (fun r => ∃ (v4 : Int) (s2 : Nat → Nat → Int32) (l3 : Nat → Nat → Int64), r = (.inl (some (iv v4)), mkH B s2 l3) ∧ (((zz s2 56 22) ≤ 0 → ((0 ≤ (zz s2 56 3) ∧ (zz s2 56 3) < 112) ∧ (inR x4 ∧ ((x4 = 0 → ((0 ≤ x2 ∧ x2 < 29) ∧ a_W d 202 285 [.ref 56, iv x1, iv x2, iv x3, iv x4, iv v4] [] (mkH B (zu (zu (zu s2 59 (zz s2 56 3).toNat v4) 56 17 (zz s2 56 16)) 60 x2.toNat (zz s2 56 3)) l3) Q)) ∧ (x4 ≠ 0 → a_W (d - 1) 160 0 [.ref 58, iv (zz s2 56 3), .ref 74, iv 0, .retAddr 0] [] (mkH B (zu (zu s2 59 (zz s2 56 3).toNat v4) 56 17 (zz s2 56 16)) l3) (fun r => ∃ (s10 : Nat → Nat → Int32) (l11 : Nat → Nat → Int64), r = (.inl none, mkH B s10 l11) ∧ a_W d 202 285 [.ref 56, iv x1, iv x2, iv x3, iv x4, iv v4] [] (mkH B s10 l11) Q)))))) ∧ (0 < (zz s2 56 22) → Q (.inl (some (iv (-1))), (mkH B (zu s2 56 16 (zz s2 56 17)) l3)))))) ∧ (0 < (zz s 56 22) → Q (.inl (some (iv (-1))), (mkH B (zu s 56 16 (zz s 56 17)) l))))) : a_W d 202 197 [.ref 56, iv x1, iv x2, iv x3, iv x4, .retAddr 0] [] (mkH B s l) Q := by
  refine w_aln (p := 198) (q202 197) rfl rfl ?_
  refine w_gI (p := 201) (j := 22) (v := (zz s 56 22)) (q202 198) rfl (r56 hB) (by decide) (iv_zz s 56 22) ?_
  by_cases c1 : (zz s 56 22) ≤ 0
  · replace w := w.1 c1
    refine w_i1t (q202 201) (inR_zz _ _ _) c1 ?_
    refine w_aln (p := 209) (q202 208) rfl rfl ?_
    refine w_iln (p := 210) (q202 209) rfl rfl ?_
    refine w_call (st := []) (as := [.ref 56, iv x3]) (as' := [iv x3, .ref 56]) (p := 213) (q202 210) rfl m197 (by decide) (a_ok_i rfl (r56 hB) rfl) rfl rfl (Nat.le_of_ble_eq_true rfl) (by omega) rfl rfl (a_W.imp w ?_)
    rintro _ ⟨v4, s2, l3, rfl, w⟩
    refine ⟨some (iv v4), _, rfl, ?_⟩
    show a_W _ 202 213 [.ref 56, iv x1, iv x2, iv x3, iv x4, .retAddr 0] [iv v4] (mkH B s2 l3) _
    refine w_is (p := 215) (ls' := [.ref 56, iv x1, iv x2, iv x3, iv x4, iv v4]) (q202 213) rfl (Nat.le_of_ble_eq_true rfl) rfl ?_
    refine w_aln (p := 216) (q202 215) rfl rfl ?_
    refine w_gI (p := 219) (j := 22) (v := (zz s2 56 22)) (q202 216) rfl (r56 hB) (by decide) (iv_zz s2 56 22) ?_
    by_cases c5 : (zz s2 56 22) ≤ 0
    · replace w := w.1 c5
      refine w_i1t (q202 219) (inR_zz _ _ _) c5 ?_
      refine w_aln (p := 233) (q202 232) rfl rfl ?_
      refine w_gR (p := 236) (j := 7) (v := 59) (q202 233) rfl (r56 hB) (by decide) (f56_7 hB) ?_
      refine w_aln (p := 237) (q202 236) rfl rfl ?_
      refine w_gI (p := 240) (j := 3) (v := (zz s2 56 3)) (q202 237) rfl (r56 hB) (by decide) (iv_zz s2 56 3) ?_
      refine w_il (p := 242) (q202 240) rfl rfl ?_
      obtain ⟨o6, w⟩ := w
      refine w_ias (p := 243) (q202 242) rfl (r59 hB) (by decide) o6 ?_
      refine w_aln (p := 244) (q202 243) rfl rfl ?_
      refine w_aln (p := 245) (q202 244) rfl rfl ?_
      refine w_gI (p := 248) (j := 16) (v := (zz s2 56 16)) (q202 245) rfl (r56 hB) (by decide) (iv_zz s2 56 16) ?_
      refine w_pI (p := 251) (j := 17) (q202 248) rfl (r56 hB) (by decide) rfl ?_
      refine w_il (p := 253) (q202 251) rfl rfl ?_
      obtain ⟨h7, w⟩ := w
      by_cases c8 : x4 = 0
      · replace w := w.1 c8
        refine w_i1t (q202 253) h7 c8 ?_
        refine w_aln (p := 276) (q202 275) rfl rfl ?_
        refine w_gR (p := 279) (j := 8) (v := 60) (q202 276) rfl (r56 hB) (by decide) (f56_8 hB) ?_
        refine w_iln (p := 280) (q202 279) rfl rfl ?_
        refine w_aln (p := 281) (q202 280) rfl rfl ?_
        refine w_gI (p := 284) (j := 3) (v := (zz s2 56 3)) (q202 281) rfl (r56 hB) (by decide) (iv_zz s2 56 3) ?_
        obtain ⟨o9, w⟩ := w
        refine w_ias (p := 285) (q202 284) rfl (r60 hB) (by decide) o9 ?_
        exact w
      · replace w := w.2 c8
        refine w_i1f (p := 256) (q202 253) rfl h7 c8 ?_
        refine w_aln (p := 257) (q202 256) rfl rfl ?_
        refine w_gR (p := 260) (j := 6) (v := 58) (q202 257) rfl (r56 hB) (by decide) (f56_6 hB) ?_
        refine w_aln (p := 261) (q202 260) rfl rfl ?_
        refine w_gI (p := 264) (j := 3) (v := (zz s2 56 3)) (q202 261) rfl (r56 hB) (by decide) (iv_zz s2 56 3) ?_
        refine w_aln (p := 265) (q202 264) rfl rfl ?_
        refine w_gR (p := 268) (j := 30) (v := 74) (q202 265) rfl (r56 hB) (by decide) (f56_30 hB) ?_
        refine w_ic (p := 269) (q202 268) rfl ?_
        refine w_call (st := []) (as := [.ref 58, iv (zz s2 56 3), .ref 74, iv 0]) (as' := [iv 0, .ref 74, iv (zz s2 56 3), .ref 58]) (p := 272) (q202 269) rfl m160 (by decide) (a_ok_s rfl rfl) rfl rfl (Nat.le_of_ble_eq_true rfl) (by omega) rfl rfl (a_W.imp w ?_)
        rintro _ ⟨s10, l11, rfl, w⟩
        refine ⟨none, _, rfl, ?_⟩
        show a_W _ 202 272 [.ref 56, iv x1, iv x2, iv x3, iv x4, iv v4] [] (mkH B s10 l11) _
        refine w_goto (q202 272) ?_
        exact w
    · replace w := w.2 (Int.not_le.mp c5)
      refine w_i1f (p := 222) (q202 219) rfl (inR_zz _ _ _) c5 ?_
      refine w_aln (p := 223) (q202 222) rfl rfl ?_
      refine w_aln (p := 224) (q202 223) rfl rfl ?_
      refine w_gI (p := 227) (j := 17) (v := (zz s2 56 17)) (q202 224) rfl (r56 hB) (by decide) (iv_zz s2 56 17) ?_
      refine w_pI (p := 230) (j := 16) (q202 227) rfl (r56 hB) (by decide) rfl ?_
      refine w_ic (p := 231) (q202 230) rfl ?_
      exact w_ret (q202 231) rfl w
  · replace w := w.2 (Int.not_le.mp c1)
    refine w_i1f (p := 204) (q202 201) rfl (inR_zz _ _ _) c1 ?_
    refine w_ic (p := 205) (q202 204) rfl ?_
    refine w_goto (q202 205) ?_
    refine w_is (p := 215) (ls' := [.ref 56, iv x1, iv x2, iv x3, iv x4, iv 0]) (q202 213) rfl (Nat.le_of_ble_eq_true rfl) rfl ?_
    refine w_aln (p := 216) (q202 215) rfl rfl ?_
    refine w_gI (p := 219) (j := 22) (v := (zz s 56 22)) (q202 216) rfl (r56 hB) (by decide) (iv_zz s 56 22) ?_
    refine w_i1f (p := 222) (q202 219) rfl (inR_zz _ _ _) (show ¬ zc _ _ _ by unfold zc; omega) ?_
    refine w_aln (p := 223) (q202 222) rfl rfl ?_
    refine w_aln (p := 224) (q202 223) rfl rfl ?_
    refine w_gI (p := 227) (j := 17) (v := (zz s 56 17)) (q202 224) rfl (r56 hB) (by decide) (iv_zz s 56 17) ?_
    refine w_pI (p := 230) (j := 16) (q202 227) rfl (r56 hB) (by decide) rfl ?_
    refine w_ic (p := 231) (q202 230) rfl ?_
    exact w_ret (q202 231) rfl w
set_option maxRecDepth 10000 in
theorem w202_285 {d : Nat} {B : aH} {Q : aR → Prop} (hB : a_Can B) (x1 x2 x3 x4 x5 : Int) (s : Nat → Nat → Int32) (l : Nat → Nat → Int64) (w : Q (.inl (some (iv (((zz s 56 3) + 1) - 1))), (mkH B (zu s 56 3 ((zz s 56 3) + 1)) l))) : a_W d 202 285 [.ref 56, iv x1, iv x2, iv x3, iv x4, iv x5] [] (mkH B s l) Q := by
  refine w_aln (p := 286) (q202 285) rfl rfl ?_
  refine w_dupr (p := 287) (q202 286) rfl ?_
  refine w_gI (p := 290) (j := 3) (v := (zz s 56 3)) (q202 287) rfl (r56 hB) (by decide) (iv_zz s 56 3) ?_
  refine w_ic (p := 291) (q202 290) rfl ?_
  refine w_add (p := 292) (q202 291) rfl ?_
  refine w_pI (p := 295) (j := 3) (q202 292) rfl (r56 hB) (by decide) rfl ?_
  refine w_aln (p := 296) (q202 295) rfl rfl ?_
  refine w_gI (p := 299) (j := 3) (v := ((zz s 56 3) + 1)) (q202 296) rfl (r56 hB) (by decide) rfl ?_
  refine w_ic (p := 300) (q202 299) rfl ?_
  refine w_sub (p := 301) (q202 300) rfl ?_
  exact w_ret (q202 301) rfl w
