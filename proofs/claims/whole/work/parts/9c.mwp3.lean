/-! printed by wip/am/mk9c.py: what a written type means, with the reference -/
theorem w137_0 {d : Nat} {B : aH} {Q : aR → Prop} (hB : a_Can B) (x1 x2 x3 : Int) (s : Nat → Nat → Int32) (l : Nat → Nat → Int64) (w : ((0 ≤ (zz s 56 16) ∧ (zz s 56 16) < 60000) ∧ Q (.inl (some (iv (((zz s 56 16) + 1) - 1))), (mkH B (zu (zu (zu (zu (zu s 64 (zz s 56 16).toNat x1) 65 (zz s 56 16).toNat x2) 66 (zz s 56 16).toNat x3) 67 (zz s 56 16).toNat (-1)) 56 16 ((zz s 56 16) + 1)) l)))) : a_W d 137 0 [.ref 56, iv x1, iv x2, iv x3] [] (mkH B s l) Q := by
  refine w_aln (p := 1) (q137 0) rfl rfl ?_
  refine w_gR (p := 4) (j := 12) (v := 64) (q137 1) rfl (r56 hB) (by decide) (f56_12 hB) ?_
  refine w_aln (p := 5) (q137 4) rfl rfl ?_
  refine w_gI (p := 8) (j := 16) (v := (zz s 56 16)) (q137 5) rfl (r56 hB) (by decide) (iv_zz s 56 16) ?_
  refine w_iln (p := 9) (q137 8) rfl rfl ?_
  obtain ⟨o1, w⟩ := w
  refine w_ias (p := 10) (q137 9) rfl (r64 hB) (by decide) o1 ?_
  refine w_aln (p := 11) (q137 10) rfl rfl ?_
  refine w_gR (p := 14) (j := 13) (v := 65) (q137 11) rfl (r56 hB) (by decide) (f56_13 hB) ?_
  refine w_aln (p := 15) (q137 14) rfl rfl ?_
  refine w_gI (p := 18) (j := 16) (v := (zz s 56 16)) (q137 15) rfl (r56 hB) (by decide) (iv_zz s 56 16) ?_
  refine w_iln (p := 19) (q137 18) rfl rfl ?_
  refine w_ias (p := 20) (q137 19) rfl (r65 hB) (by decide) o1 ?_
  refine w_aln (p := 21) (q137 20) rfl rfl ?_
  refine w_gR (p := 24) (j := 14) (v := 66) (q137 21) rfl (r56 hB) (by decide) (f56_14 hB) ?_
  refine w_aln (p := 25) (q137 24) rfl rfl ?_
  refine w_gI (p := 28) (j := 16) (v := (zz s 56 16)) (q137 25) rfl (r56 hB) (by decide) (iv_zz s 56 16) ?_
  refine w_iln (p := 29) (q137 28) rfl rfl ?_
  refine w_ias (p := 30) (q137 29) rfl (r66 hB) (by decide) o1 ?_
  refine w_aln (p := 31) (q137 30) rfl rfl ?_
  refine w_gR (p := 34) (j := 15) (v := 67) (q137 31) rfl (r56 hB) (by decide) (f56_15 hB) ?_
  refine w_aln (p := 35) (q137 34) rfl rfl ?_
  refine w_gI (p := 38) (j := 16) (v := (zz s 56 16)) (q137 35) rfl (r56 hB) (by decide) (iv_zz s 56 16) ?_
  refine w_ic (p := 39) (q137 38) rfl ?_
  refine w_ias (p := 40) (q137 39) rfl (r67 hB) (by decide) o1 ?_
  refine w_aln (p := 41) (q137 40) rfl rfl ?_
  refine w_dupr (p := 42) (q137 41) rfl ?_
  refine w_gI (p := 45) (j := 16) (v := (zz s 56 16)) (q137 42) rfl (r56 hB) (by decide) (iv_zz s 56 16) ?_
  refine w_ic (p := 46) (q137 45) rfl ?_
  refine w_add (p := 47) (q137 46) rfl ?_
  refine w_pI (p := 50) (j := 16) (q137 47) rfl (r56 hB) (by decide) rfl ?_
  refine w_aln (p := 51) (q137 50) rfl rfl ?_
  refine w_gI (p := 54) (j := 16) (v := ((zz s 56 16) + 1)) (q137 51) rfl (r56 hB) (by decide) rfl ?_
  refine w_ic (p := 55) (q137 54) rfl ?_
  refine w_sub (p := 56) (q137 55) rfl ?_
  exact w_ret (q137 56) rfl w
theorem w183_0 {d : Nat} {B : aH} {Q : aR → Prop} (hB : a_Can B) (hd : 1 ≤ d) (x1 : Int) (s : Nat → Nat → Int32) (l : Nat → Nat → Int64) (w : ((0 ≤ x1 ∧ x1 < 12100) ∧ ((40 < (zz s 80 x1.toNat) → (((zz s 56 22) ≤ 0 → Q (.inl none, (mkH B (zu (zu s 56 22 8) 56 23 (zz s 72 0)) l))) ∧ (0 < (zz s 56 22) → Q (.inl none, (mkH B s l))))) ∧ ((zz s 80 x1.toNat) ≤ 40 → (((zz s 81 x1.toNat) ≤ 12 → Q (.inl none, (mkH B s l))) ∧ (12 < (zz s 81 x1.toNat) → (((zz s 56 22) ≤ 0 → Q (.inl none, (mkH B (zu (zu s 56 22 8) 56 23 (zz s 72 0)) l))) ∧ (0 < (zz s 56 22) → Q (.inl none, (mkH B s l)))))))))) : a_W d 183 0 [.ref 56, iv x1] [] (mkH B s l) Q := by
  refine w_aln (p := 1) (q183 0) rfl rfl ?_
  refine w_gR (p := 4) (j := 39) (v := 80) (q183 1) rfl (r56 hB) (by decide) (f56_39 hB) ?_
  refine w_iln (p := 5) (q183 4) rfl rfl ?_
  obtain ⟨o1, w⟩ := w
  refine w_ia (p := 6) (v := (zz s 80 x1.toNat)) (q183 5) rfl (r80 hB) (by decide) o1 (iv_zz s 80 x1.toNat) ?_
  refine w_bp (p := 8) (q183 6) rfl (by decide) ?_
  by_cases c2 : 40 < (zz s 80 x1.toNat)
  · replace w := w.1 c2
    refine w_i2t (q183 8) (inR_zz _ _ _) (by decide) c2 ?_
    refine w_aln (p := 23) (q183 22) rfl rfl ?_
    refine w_bp (p := 25) (q183 23) rfl (by decide) ?_
    refine w_aln (p := 26) (q183 25) rfl rfl ?_
    refine w_gR (p := 29) (j := 28) (v := 72) (q183 26) rfl (r56 hB) (by decide) (f56_28 hB) ?_
    refine w_ic (p := 30) (q183 29) rfl ?_
    refine w_ia (p := 31) (v := (zz s 72 0)) (q183 30) rfl (r72 hB) (by decide) (by decide) (iv_zz s 72 0) ?_
    refine w_call (st := []) (as := [.ref 56, iv 8, iv (zz s 72 0)]) (as' := [iv (zz s 72 0), iv 8, .ref 56]) (p := 34) (q183 31) rfl m152 (by decide) (a_ok_i rfl (r56 hB) rfl) rfl rfl (Nat.le_of_ble_eq_true rfl) (by omega) rfl rfl ?_
    refine w_aln (p := 1) (q152 0) rfl rfl ?_
    refine w_gI (p := 4) (j := 22) (v := (zz s 56 22)) (q152 1) rfl (r56 hB) (by decide) (iv_zz s 56 22) ?_
    by_cases c3 : (zz s 56 22) ≤ 0
    · replace w := w.1 c3
      refine w_i1t (q152 4) (inR_zz _ _ _) c3 ?_
      refine w_aln (p := 9) (q152 8) rfl rfl ?_
      refine w_iln (p := 10) (q152 9) rfl rfl ?_
      refine w_pI (p := 13) (j := 22) (q152 10) rfl (r56 hB) (by decide) rfl ?_
      refine w_aln (p := 14) (q152 13) rfl rfl ?_
      refine w_iln (p := 15) (q152 14) rfl rfl ?_
      refine w_pI (p := 18) (j := 23) (q152 15) rfl (r56 hB) (by decide) rfl ?_
      refine w_rv (q152 18) rfl ⟨_, _, rfl, ?_⟩
      show a_W _ 183 34 [.ref 56, iv x1] [] _ _
      exact w_rv (q183 34) rfl w
    · replace w := w.2 (Int.not_le.mp c3)
      refine w_i1f (p := 7) (q152 4) rfl (inR_zz _ _ _) c3 ?_
      refine w_rv (q152 7) rfl ⟨_, _, rfl, ?_⟩
      show a_W _ 183 34 [.ref 56, iv x1] [] _ _
      exact w_rv (q183 34) rfl w
  · replace w := w.2 (Int.not_lt.mp c2)
    refine w_i2f (p := 11) (q183 8) rfl (inR_zz _ _ _) (by decide) c2 ?_
    refine w_aln (p := 12) (q183 11) rfl rfl ?_
    refine w_gR (p := 15) (j := 40) (v := 81) (q183 12) rfl (r56 hB) (by decide) (f56_40 hB) ?_
    refine w_iln (p := 16) (q183 15) rfl rfl ?_
    refine w_ia (p := 17) (v := (zz s 81 x1.toNat)) (q183 16) rfl (r81 hB) (by decide) o1 (iv_zz s 81 x1.toNat) ?_
    refine w_bp (p := 19) (q183 17) rfl (by decide) ?_
    by_cases c4 : (zz s 81 x1.toNat) ≤ 12
    · replace w := w.1 c4
      refine w_i2t (q183 19) (inR_zz _ _ _) (by decide) c4 ?_
      exact w_rv (q183 34) rfl w
    · replace w := w.2 (Int.not_le.mp c4)
      refine w_i2f (p := 22) (q183 19) rfl (inR_zz _ _ _) (by decide) c4 ?_
      refine w_aln (p := 23) (q183 22) rfl rfl ?_
      refine w_bp (p := 25) (q183 23) rfl (by decide) ?_
      refine w_aln (p := 26) (q183 25) rfl rfl ?_
      refine w_gR (p := 29) (j := 28) (v := 72) (q183 26) rfl (r56 hB) (by decide) (f56_28 hB) ?_
      refine w_ic (p := 30) (q183 29) rfl ?_
      refine w_ia (p := 31) (v := (zz s 72 0)) (q183 30) rfl (r72 hB) (by decide) (by decide) (iv_zz s 72 0) ?_
      refine w_call (st := []) (as := [.ref 56, iv 8, iv (zz s 72 0)]) (as' := [iv (zz s 72 0), iv 8, .ref 56]) (p := 34) (q183 31) rfl m152 (by decide) (a_ok_i rfl (r56 hB) rfl) rfl rfl (Nat.le_of_ble_eq_true rfl) (by omega) rfl rfl ?_
      refine w_aln (p := 1) (q152 0) rfl rfl ?_
      refine w_gI (p := 4) (j := 22) (v := (zz s 56 22)) (q152 1) rfl (r56 hB) (by decide) (iv_zz s 56 22) ?_
      by_cases c5 : (zz s 56 22) ≤ 0
      · replace w := w.1 c5
        refine w_i1t (q152 4) (inR_zz _ _ _) c5 ?_
        refine w_aln (p := 9) (q152 8) rfl rfl ?_
        refine w_iln (p := 10) (q152 9) rfl rfl ?_
        refine w_pI (p := 13) (j := 22) (q152 10) rfl (r56 hB) (by decide) rfl ?_
        refine w_aln (p := 14) (q152 13) rfl rfl ?_
        refine w_iln (p := 15) (q152 14) rfl rfl ?_
        refine w_pI (p := 18) (j := 23) (q152 15) rfl (r56 hB) (by decide) rfl ?_
        refine w_rv (q152 18) rfl ⟨_, _, rfl, ?_⟩
        show a_W _ 183 34 [.ref 56, iv x1] [] _ _
        exact w_rv (q183 34) rfl w
      · replace w := w.2 (Int.not_le.mp c5)
        refine w_i1f (p := 7) (q152 4) rfl (inR_zz _ _ _) c5 ?_
        refine w_rv (q152 7) rfl ⟨_, _, rfl, ?_⟩
        show a_W _ 183 34 [.ref 56, iv x1] [] _ _
        exact w_rv (q183 34) rfl w
theorem w197_0 {d : Nat} {B : aH} {Q : aR → Prop} (hB : a_Can B) (hd : 1 ≤ d) (x1 : Int) (s : Nat → Nat → Int32) (l : Nat → Nat → Int64) (w : (((zz s 56 22) ≤ 0 → ((0 ≤ x1 ∧ x1 < 12100) ∧ (((zz s 75 x1.toNat) ≠ 0 → (((zz s 75 x1.toNat) ≠ 1 → a_W d 197 105 [.ref 56, iv x1, iv 2, .retAddr 0, .retAddr 0, .retAddr 0] [] (mkH B s l) Q) ∧ ((zz s 75 x1.toNat) = 1 → a_W (d - 1) 158 0 [.ref 61, iv (zz s 56 4), .ref 74, iv (zz s 76 x1.toNat), .retAddr 0] [] (mkH B s l) (fun r => ∃ (v7 : Int) (s5 : Nat → Nat → Int32) (l6 : Nat → Nat → Int64), r = (.inl (some (iv v7)), mkH B s5 l6) ∧ (inR v7 ∧ ((v7 = (-1) → a_W d 197 94 [.ref 56, iv x1, iv v7, .retAddr 0, .retAddr 0, .retAddr 0] [] (mkH B s5 l6) Q) ∧ (v7 ≠ (-1) → ((v7 = 2 → a_W d 197 94 [.ref 56, iv x1, iv v7, .retAddr 0, .retAddr 0, .retAddr 0] [] (mkH B s5 l6) Q) ∧ (v7 ≠ 2 → ((0 ≤ v7 ∧ v7 < 34) ∧ (((zz s5 62 v7.toNat) = (zz s5 79 x1.toNat) → a_W d 197 105 [.ref 56, iv x1, iv v7, .retAddr 0, .retAddr 0, .retAddr 0] [] (mkH B s5 l6) Q) ∧ ((zz s5 62 v7.toNat) ≠ (zz s5 79 x1.toNat) → a_W d 197 94 [.ref 56, iv x1, iv v7, .retAddr 0, .retAddr 0, .retAddr 0] [] (mkH B s5 l6) Q)))))))))))) ∧ ((zz s 75 x1.toNat) = 0 → ((0 ≤ (zz s 56 16) ∧ (zz s 56 16) < 60000) ∧ Q (.inl (some (iv (((zz s 56 16) + 1) - 1))), (mkH B (zu (zu (zu (zu (zu s 64 (zz s 56 16).toNat ((-1000) - (zz s 76 x1.toNat))) 65 (zz s 56 16).toNat (-1)) 66 (zz s 56 16).toNat (-1)) 67 (zz s 56 16).toNat (-1)) 56 16 ((zz s 56 16) + 1)) l))))))) ∧ (0 < (zz s 56 22) → Q (.inl (some (iv 0)), (mkH B s l))))) : a_W d 197 0 [.ref 56, iv x1, .retAddr 0, .retAddr 0, .retAddr 0, .retAddr 0] [] (mkH B s l) Q := by
  refine w_aln (p := 1) (q197 0) rfl rfl ?_
  refine w_gI (p := 4) (j := 22) (v := (zz s 56 22)) (q197 1) rfl (r56 hB) (by decide) (iv_zz s 56 22) ?_
  by_cases c1 : (zz s 56 22) ≤ 0
  · replace w := w.1 c1
    refine w_i1t (q197 4) (inR_zz _ _ _) c1 ?_
    refine w_aln (p := 10) (q197 9) rfl rfl ?_
    refine w_gR (p := 13) (j := 34) (v := 75) (q197 10) rfl (r56 hB) (by decide) (f56_34 hB) ?_
    refine w_iln (p := 14) (q197 13) rfl rfl ?_
    obtain ⟨o2, w⟩ := w
    refine w_ia (p := 15) (v := (zz s 75 x1.toNat)) (q197 14) rfl (r75 hB) (by decide) o2 (iv_zz s 75 x1.toNat) ?_
    by_cases c3 : (zz s 75 x1.toNat) ≠ 0
    · replace w := w.1 c3
      refine w_i1t (q197 15) (inR_zz _ _ _) c3 ?_
      refine w_ic (p := 36) (q197 35) rfl ?_
      refine w_isn (p := 37) (ls' := [.ref 56, iv x1, iv 2, .retAddr 0, .retAddr 0, .retAddr 0]) (q197 36) rfl (Nat.le_of_ble_eq_true rfl) rfl ?_
      refine w_aln (p := 38) (q197 37) rfl rfl ?_
      refine w_gR (p := 41) (j := 34) (v := 75) (q197 38) rfl (r56 hB) (by decide) (f56_34 hB) ?_
      refine w_iln (p := 42) (q197 41) rfl rfl ?_
      refine w_ia (p := 43) (v := (zz s 75 x1.toNat)) (q197 42) rfl (r75 hB) (by decide) o2 (iv_zz s 75 x1.toNat) ?_
      refine w_ic (p := 44) (q197 43) rfl ?_
      by_cases c4 : (zz s 75 x1.toNat) ≠ 1
      · replace w := w.1 c4
        refine w_i2t (q197 44) (inR_zz _ _ _) (by decide) c4 ?_
        exact w
      · replace w := w.2 (Decidable.not_not.mp c4)
        refine w_i2f (p := 47) (q197 44) rfl (inR_zz _ _ _) (by decide) c4 ?_
        refine w_aln (p := 48) (q197 47) rfl rfl ?_
        refine w_gR (p := 51) (j := 9) (v := 61) (q197 48) rfl (r56 hB) (by decide) (f56_9 hB) ?_
        refine w_aln (p := 52) (q197 51) rfl rfl ?_
        refine w_gI (p := 55) (j := 4) (v := (zz s 56 4)) (q197 52) rfl (r56 hB) (by decide) (iv_zz s 56 4) ?_
        refine w_aln (p := 56) (q197 55) rfl rfl ?_
        refine w_gR (p := 59) (j := 30) (v := 74) (q197 56) rfl (r56 hB) (by decide) (f56_30 hB) ?_
        refine w_aln (p := 60) (q197 59) rfl rfl ?_
        refine w_gR (p := 63) (j := 35) (v := 76) (q197 60) rfl (r56 hB) (by decide) (f56_35 hB) ?_
        refine w_iln (p := 64) (q197 63) rfl rfl ?_
        refine w_ia (p := 65) (v := (zz s 76 x1.toNat)) (q197 64) rfl (r76 hB) (by decide) o2 (iv_zz s 76 x1.toNat) ?_
        refine w_call (st := []) (as := [.ref 61, iv (zz s 56 4), .ref 74, iv (zz s 76 x1.toNat)]) (as' := [iv (zz s 76 x1.toNat), .ref 74, iv (zz s 56 4), .ref 61]) (p := 68) (q197 65) rfl m158 (by decide) (a_ok_s rfl rfl) rfl rfl (Nat.le_of_ble_eq_true rfl) (by omega) rfl rfl (a_W.imp w ?_)
        rintro _ ⟨v7, s5, l6, rfl, w⟩
        refine ⟨some (iv v7), _, rfl, ?_⟩
        show a_W _ 197 68 [.ref 56, iv x1, iv 2, .retAddr 0, .retAddr 0, .retAddr 0] [iv v7] (mkH B s5 l6) _
        refine w_isn (p := 69) (ls' := [.ref 56, iv x1, iv v7, .retAddr 0, .retAddr 0, .retAddr 0]) (q197 68) rfl (Nat.le_of_ble_eq_true rfl) rfl ?_
        refine w_iln (p := 70) (q197 69) rfl rfl ?_
        refine w_ic (p := 71) (q197 70) rfl ?_
        obtain ⟨h8, w⟩ := w
        by_cases c9 : v7 = (-1)
        · replace w := w.1 c9
          refine w_i2t (q197 71) h8 (by decide) c9 ?_
          exact w
        · replace w := w.2 c9
          refine w_i2f (p := 74) (q197 71) rfl h8 (by decide) c9 ?_
          refine w_iln (p := 75) (q197 74) rfl rfl ?_
          refine w_ic (p := 76) (q197 75) rfl ?_
          by_cases c10 : v7 = 2
          · replace w := w.1 c10
            refine w_i2t (q197 76) h8 (by decide) c10 ?_
            exact w
          · replace w := w.2 c10
            refine w_i2f (p := 79) (q197 76) rfl h8 (by decide) c10 ?_
            refine w_aln (p := 80) (q197 79) rfl rfl ?_
            refine w_gR (p := 83) (j := 10) (v := 62) (q197 80) rfl (r56 hB) (by decide) (f56_10 hB) ?_
            refine w_iln (p := 84) (q197 83) rfl rfl ?_
            obtain ⟨o11, w⟩ := w
            refine w_ia (p := 85) (v := (zz s5 62 v7.toNat)) (q197 84) rfl (r62 hB) (by decide) o11 (iv_zz s5 62 v7.toNat) ?_
            refine w_aln (p := 86) (q197 85) rfl rfl ?_
            refine w_gR (p := 89) (j := 38) (v := 79) (q197 86) rfl (r56 hB) (by decide) (f56_38 hB) ?_
            refine w_iln (p := 90) (q197 89) rfl rfl ?_
            refine w_ia (p := 91) (v := (zz s5 79 x1.toNat)) (q197 90) rfl (r79 hB) (by decide) o2 (iv_zz s5 79 x1.toNat) ?_
            by_cases c12 : (zz s5 62 v7.toNat) = (zz s5 79 x1.toNat)
            · replace w := w.1 c12
              refine w_i2t (q197 91) (inR_zz _ _ _) (inR_zz _ _ _) c12 ?_
              exact w
            · replace w := w.2 c12
              refine w_i2f (p := 94) (q197 91) rfl (inR_zz _ _ _) (inR_zz _ _ _) c12 ?_
              exact w
    · replace w := w.2 (Decidable.not_not.mp c3)
      refine w_i1f (p := 18) (q197 15) rfl (inR_zz _ _ _) c3 ?_
      refine w_aln (p := 19) (q197 18) rfl rfl ?_
      refine w_sp (p := 22) (q197 19) rfl (by decide) ?_
      refine w_aln (p := 23) (q197 22) rfl rfl ?_
      refine w_gR (p := 26) (j := 35) (v := 76) (q197 23) rfl (r56 hB) (by decide) (f56_35 hB) ?_
      refine w_iln (p := 27) (q197 26) rfl rfl ?_
      refine w_ia (p := 28) (v := (zz s 76 x1.toNat)) (q197 27) rfl (r76 hB) (by decide) o2 (iv_zz s 76 x1.toNat) ?_
      refine w_sub (p := 29) (q197 28) rfl ?_
      refine w_ic (p := 30) (q197 29) rfl ?_
      refine w_ic (p := 31) (q197 30) rfl ?_
      refine w_call (st := []) (as := [.ref 56, iv ((-1000) - (zz s 76 x1.toNat)), iv (-1), iv (-1)]) (as' := [iv (-1), iv (-1), iv ((-1000) - (zz s 76 x1.toNat)), .ref 56]) (p := 34) (q197 31) rfl m137 (by decide) (a_ok_i rfl (r56 hB) rfl) rfl rfl (Nat.le_of_ble_eq_true rfl) (by omega) rfl rfl ?_
      refine w_aln (p := 1) (q137 0) rfl rfl ?_
      refine w_gR (p := 4) (j := 12) (v := 64) (q137 1) rfl (r56 hB) (by decide) (f56_12 hB) ?_
      refine w_aln (p := 5) (q137 4) rfl rfl ?_
      refine w_gI (p := 8) (j := 16) (v := (zz s 56 16)) (q137 5) rfl (r56 hB) (by decide) (iv_zz s 56 16) ?_
      refine w_iln (p := 9) (q137 8) rfl rfl ?_
      obtain ⟨o13, w⟩ := w
      refine w_ias (p := 10) (q137 9) rfl (r64 hB) (by decide) o13 ?_
      refine w_aln (p := 11) (q137 10) rfl rfl ?_
      refine w_gR (p := 14) (j := 13) (v := 65) (q137 11) rfl (r56 hB) (by decide) (f56_13 hB) ?_
      refine w_aln (p := 15) (q137 14) rfl rfl ?_
      refine w_gI (p := 18) (j := 16) (v := (zz s 56 16)) (q137 15) rfl (r56 hB) (by decide) (iv_zz s 56 16) ?_
      refine w_iln (p := 19) (q137 18) rfl rfl ?_
      refine w_ias (p := 20) (q137 19) rfl (r65 hB) (by decide) o13 ?_
      refine w_aln (p := 21) (q137 20) rfl rfl ?_
      refine w_gR (p := 24) (j := 14) (v := 66) (q137 21) rfl (r56 hB) (by decide) (f56_14 hB) ?_
      refine w_aln (p := 25) (q137 24) rfl rfl ?_
      refine w_gI (p := 28) (j := 16) (v := (zz s 56 16)) (q137 25) rfl (r56 hB) (by decide) (iv_zz s 56 16) ?_
      refine w_iln (p := 29) (q137 28) rfl rfl ?_
      refine w_ias (p := 30) (q137 29) rfl (r66 hB) (by decide) o13 ?_
      refine w_aln (p := 31) (q137 30) rfl rfl ?_
      refine w_gR (p := 34) (j := 15) (v := 67) (q137 31) rfl (r56 hB) (by decide) (f56_15 hB) ?_
      refine w_aln (p := 35) (q137 34) rfl rfl ?_
      refine w_gI (p := 38) (j := 16) (v := (zz s 56 16)) (q137 35) rfl (r56 hB) (by decide) (iv_zz s 56 16) ?_
      refine w_ic (p := 39) (q137 38) rfl ?_
      refine w_ias (p := 40) (q137 39) rfl (r67 hB) (by decide) o13 ?_
      refine w_aln (p := 41) (q137 40) rfl rfl ?_
      refine w_dupr (p := 42) (q137 41) rfl ?_
      refine w_gI (p := 45) (j := 16) (v := (zz s 56 16)) (q137 42) rfl (r56 hB) (by decide) (iv_zz s 56 16) ?_
      refine w_ic (p := 46) (q137 45) rfl ?_
      refine w_add (p := 47) (q137 46) rfl ?_
      refine w_pI (p := 50) (j := 16) (q137 47) rfl (r56 hB) (by decide) rfl ?_
      refine w_aln (p := 51) (q137 50) rfl rfl ?_
      refine w_gI (p := 54) (j := 16) (v := ((zz s 56 16) + 1)) (q137 51) rfl (r56 hB) (by decide) rfl ?_
      refine w_ic (p := 55) (q137 54) rfl ?_
      refine w_sub (p := 56) (q137 55) rfl ?_
      refine w_ret (q137 56) rfl ⟨_, _, rfl, ?_⟩
      show a_W _ 197 34 [.ref 56, iv x1, .retAddr 0, .retAddr 0, .retAddr 0, .retAddr 0] [iv (((zz s 56 16) + 1) - 1)] _ _
      exact w_ret (q197 34) rfl w
  · replace w := w.2 (Int.not_le.mp c1)
    refine w_i1f (p := 7) (q197 4) rfl (inR_zz _ _ _) c1 ?_
    refine w_ic (p := 8) (q197 7) rfl ?_
    exact w_ret (q197 8) rfl w
theorem w197_94 {d : Nat} {B : aH} {Q : aR → Prop} (hB : a_Can B) (hd : 1 ≤ d) (x1 x2 : Int) (s : Nat → Nat → Int32) (l : Nat → Nat → Int64) (w : (((zz s 56 22) ≤ 0 → a_W d 197 105 [.ref 56, iv x1, iv x2, .retAddr 0, .retAddr 0, .retAddr 0] [] (mkH B (zu (zu s 56 22 3) 56 23 (zz s 72 0)) l) Q) ∧ (0 < (zz s 56 22) → a_W d 197 105 [.ref 56, iv x1, iv x2, .retAddr 0, .retAddr 0, .retAddr 0] [] (mkH B s l) Q))) : a_W d 197 94 [.ref 56, iv x1, iv x2, .retAddr 0, .retAddr 0, .retAddr 0] [] (mkH B s l) Q := by
  refine w_aln (p := 95) (q197 94) rfl rfl ?_
  refine w_ic (p := 96) (q197 95) rfl ?_
  refine w_aln (p := 97) (q197 96) rfl rfl ?_
  refine w_gR (p := 100) (j := 28) (v := 72) (q197 97) rfl (r56 hB) (by decide) (f56_28 hB) ?_
  refine w_ic (p := 101) (q197 100) rfl ?_
  refine w_ia (p := 102) (v := (zz s 72 0)) (q197 101) rfl (r72 hB) (by decide) (by decide) (iv_zz s 72 0) ?_
  refine w_call (st := []) (as := [.ref 56, iv 3, iv (zz s 72 0)]) (as' := [iv (zz s 72 0), iv 3, .ref 56]) (p := 105) (q197 102) rfl m152 (by decide) (a_ok_i rfl (r56 hB) rfl) rfl rfl (Nat.le_of_ble_eq_true rfl) (by omega) rfl rfl ?_
  refine w_aln (p := 1) (q152 0) rfl rfl ?_
  refine w_gI (p := 4) (j := 22) (v := (zz s 56 22)) (q152 1) rfl (r56 hB) (by decide) (iv_zz s 56 22) ?_
  by_cases c1 : (zz s 56 22) ≤ 0
  · replace w := w.1 c1
    refine w_i1t (q152 4) (inR_zz _ _ _) c1 ?_
    refine w_aln (p := 9) (q152 8) rfl rfl ?_
    refine w_iln (p := 10) (q152 9) rfl rfl ?_
    refine w_pI (p := 13) (j := 22) (q152 10) rfl (r56 hB) (by decide) rfl ?_
    refine w_aln (p := 14) (q152 13) rfl rfl ?_
    refine w_iln (p := 15) (q152 14) rfl rfl ?_
    refine w_pI (p := 18) (j := 23) (q152 15) rfl (r56 hB) (by decide) rfl ?_
    refine w_rv (q152 18) rfl ⟨_, _, rfl, ?_⟩
    show a_W _ 197 105 [.ref 56, iv x1, iv x2, .retAddr 0, .retAddr 0, .retAddr 0] [] _ _
    exact w
  · replace w := w.2 (Int.not_le.mp c1)
    refine w_i1f (p := 7) (q152 4) rfl (inR_zz _ _ _) c1 ?_
    refine w_rv (q152 7) rfl ⟨_, _, rfl, ?_⟩
    show a_W _ 197 105 [.ref 56, iv x1, iv x2, .retAddr 0, .retAddr 0, .retAddr 0] [] _ _
    exact w
theorem w197_105 {d : Nat} {B : aH} {Q : aR → Prop} (hB : a_Can B) (hd : 1 ≤ d) (x1 x2 : Int) (s : Nat → Nat → Int32) (l : Nat → Nat → Int64) (w : (((zz s 56 22) ≤ 0 → ((0 ≤ x1 ∧ x1 < 12100) ∧ (((zz s 77 x1.toNat) ≠ (-1) → a_W (d - 1) 197 0 [.ref 56, iv (zz s 77 x1.toNat), .retAddr 0, .retAddr 0, .retAddr 0, .retAddr 0] [] (mkH B s l) (fun r => ∃ (v6 : Int) (s4 : Nat → Nat → Int32) (l5 : Nat → Nat → Int64), r = (.inl (some (iv v6)), mkH B s4 l5) ∧ ((0 ≤ (zz s 77 x1.toNat) ∧ (zz s 77 x1.toNat) < 12100) ∧ (((zz s4 78 (zz s 77 x1.toNat).toNat) ≠ (-1) → a_W (d - 1) 197 0 [.ref 56, iv (zz s4 78 (zz s 77 x1.toNat).toNat), .retAddr 0, .retAddr 0, .retAddr 0, .retAddr 0] [] (mkH B s4 l5) (fun r => ∃ (v11 : Int) (s9 : Nat → Nat → Int32) (l10 : Nat → Nat → Int64), r = (.inl (some (iv v11)), mkH B s9 l10) ∧ ((0 ≤ (zz s9 56 16) ∧ (zz s9 56 16) < 60000) ∧ Q (.inl (some (iv (((zz s9 56 16) + 1) - 1))), (mkH B (zu (zu (zu (zu (zu s9 64 (zz s9 56 16).toNat x2) 65 (zz s9 56 16).toNat v6) 66 (zz s9 56 16).toNat v11) 67 (zz s9 56 16).toNat (-1)) 56 16 ((zz s9 56 16) + 1)) l10))))) ∧ ((zz s4 78 (zz s 77 x1.toNat).toNat) = (-1) → ((0 ≤ (zz s4 56 16) ∧ (zz s4 56 16) < 60000) ∧ Q (.inl (some (iv (((zz s4 56 16) + 1) - 1))), (mkH B (zu (zu (zu (zu (zu s4 64 (zz s4 56 16).toNat x2) 65 (zz s4 56 16).toNat v6) 66 (zz s4 56 16).toNat (-1)) 67 (zz s4 56 16).toNat (-1)) 56 16 ((zz s4 56 16) + 1)) l5)))))))) ∧ ((zz s 77 x1.toNat) = (-1) → ((0 ≤ (zz s 56 16) ∧ (zz s 56 16) < 60000) ∧ Q (.inl (some (iv (((zz s 56 16) + 1) - 1))), (mkH B (zu (zu (zu (zu (zu s 64 (zz s 56 16).toNat x2) 65 (zz s 56 16).toNat (-1)) 66 (zz s 56 16).toNat (-1)) 67 (zz s 56 16).toNat (-1)) 56 16 ((zz s 56 16) + 1)) l))))))) ∧ (0 < (zz s 56 22) → Q (.inl (some (iv 0)), (mkH B s l))))) : a_W d 197 105 [.ref 56, iv x1, iv x2, .retAddr 0, .retAddr 0, .retAddr 0] [] (mkH B s l) Q := by
  refine w_aln (p := 106) (q197 105) rfl rfl ?_
  refine w_gI (p := 109) (j := 22) (v := (zz s 56 22)) (q197 106) rfl (r56 hB) (by decide) (iv_zz s 56 22) ?_
  by_cases c1 : (zz s 56 22) ≤ 0
  · replace w := w.1 c1
    refine w_i1t (q197 109) (inR_zz _ _ _) c1 ?_
    refine w_aln (p := 115) (q197 114) rfl rfl ?_
    refine w_gR (p := 118) (j := 36) (v := 77) (q197 115) rfl (r56 hB) (by decide) (f56_36 hB) ?_
    refine w_iln (p := 119) (q197 118) rfl rfl ?_
    obtain ⟨o2, w⟩ := w
    refine w_ia (p := 120) (v := (zz s 77 x1.toNat)) (q197 119) rfl (r77 hB) (by decide) o2 (iv_zz s 77 x1.toNat) ?_
    refine w_isn (p := 121) (ls' := [.ref 56, iv x1, iv x2, iv (zz s 77 x1.toNat), .retAddr 0, .retAddr 0]) (q197 120) rfl (Nat.le_of_ble_eq_true rfl) rfl ?_
    refine w_iln (p := 122) (q197 121) rfl rfl ?_
    refine w_ic (p := 123) (q197 122) rfl ?_
    by_cases c3 : (zz s 77 x1.toNat) ≠ (-1)
    · replace w := w.1 c3
      refine w_i2t (q197 123) (inR_zz _ _ _) (by decide) c3 ?_
      refine w_aln (p := 135) (q197 134) rfl rfl ?_
      refine w_iln (p := 136) (q197 135) rfl rfl ?_
      refine w_call (st := []) (as := [.ref 56, iv (zz s 77 x1.toNat)]) (as' := [iv (zz s 77 x1.toNat), .ref 56]) (p := 139) (q197 136) rfl m197 (by decide) (a_ok_i rfl (r56 hB) rfl) rfl rfl (Nat.le_of_ble_eq_true rfl) (by omega) rfl rfl (a_W.imp w ?_)
      rintro _ ⟨v6, s4, l5, rfl, w⟩
      refine ⟨some (iv v6), _, rfl, ?_⟩
      show a_W _ 197 139 [.ref 56, iv x1, iv x2, iv (zz s 77 x1.toNat), .retAddr 0, .retAddr 0] [iv v6] (mkH B s4 l5) _
      refine w_is (p := 141) (ls' := [.ref 56, iv x1, iv x2, iv (zz s 77 x1.toNat), iv v6, .retAddr 0]) (q197 139) rfl (Nat.le_of_ble_eq_true rfl) rfl ?_
      refine w_aln (p := 142) (q197 141) rfl rfl ?_
      refine w_gR (p := 145) (j := 37) (v := 78) (q197 142) rfl (r56 hB) (by decide) (f56_37 hB) ?_
      refine w_iln (p := 146) (q197 145) rfl rfl ?_
      obtain ⟨o7, w⟩ := w
      refine w_ia (p := 147) (v := (zz s4 78 (zz s 77 x1.toNat).toNat)) (q197 146) rfl (r78 hB) (by decide) o7 (iv_zz s4 78 (zz s 77 x1.toNat).toNat) ?_
      refine w_ic (p := 148) (q197 147) rfl ?_
      by_cases c8 : (zz s4 78 (zz s 77 x1.toNat).toNat) ≠ (-1)
      · replace w := w.1 c8
        refine w_i2t (q197 148) (inR_zz _ _ _) (by decide) c8 ?_
        refine w_aln (p := 156) (q197 155) rfl rfl ?_
        refine w_aln (p := 157) (q197 156) rfl rfl ?_
        refine w_gR (p := 160) (j := 37) (v := 78) (q197 157) rfl (r56 hB) (by decide) (f56_37 hB) ?_
        refine w_iln (p := 161) (q197 160) rfl rfl ?_
        refine w_ia (p := 162) (v := (zz s4 78 (zz s 77 x1.toNat).toNat)) (q197 161) rfl (r78 hB) (by decide) o7 (iv_zz s4 78 (zz s 77 x1.toNat).toNat) ?_
        refine w_call (st := []) (as := [.ref 56, iv (zz s4 78 (zz s 77 x1.toNat).toNat)]) (as' := [iv (zz s4 78 (zz s 77 x1.toNat).toNat), .ref 56]) (p := 165) (q197 162) rfl m197 (by decide) (a_ok_i rfl (r56 hB) rfl) rfl rfl (Nat.le_of_ble_eq_true rfl) (by omega) rfl rfl (a_W.imp w ?_)
        rintro _ ⟨v11, s9, l10, rfl, w⟩
        refine ⟨some (iv v11), _, rfl, ?_⟩
        show a_W _ 197 165 [.ref 56, iv x1, iv x2, iv (zz s 77 x1.toNat), iv v6, .retAddr 0] [iv v11] (mkH B s9 l10) _
        refine w_is (p := 167) (ls' := [.ref 56, iv x1, iv x2, iv (zz s 77 x1.toNat), iv v6, iv v11]) (q197 165) rfl (Nat.le_of_ble_eq_true rfl) rfl ?_
        refine w_aln (p := 168) (q197 167) rfl rfl ?_
        refine w_iln (p := 169) (q197 168) rfl rfl ?_
        refine w_il (p := 171) (q197 169) rfl rfl ?_
        refine w_il (p := 173) (q197 171) rfl rfl ?_
        refine w_call (st := []) (as := [.ref 56, iv x2, iv v6, iv v11]) (as' := [iv v11, iv v6, iv x2, .ref 56]) (p := 176) (q197 173) rfl m137 (by decide) (a_ok_i rfl (r56 hB) rfl) rfl rfl (Nat.le_of_ble_eq_true rfl) (by omega) rfl rfl ?_
        refine w_aln (p := 1) (q137 0) rfl rfl ?_
        refine w_gR (p := 4) (j := 12) (v := 64) (q137 1) rfl (r56 hB) (by decide) (f56_12 hB) ?_
        refine w_aln (p := 5) (q137 4) rfl rfl ?_
        refine w_gI (p := 8) (j := 16) (v := (zz s9 56 16)) (q137 5) rfl (r56 hB) (by decide) (iv_zz s9 56 16) ?_
        refine w_iln (p := 9) (q137 8) rfl rfl ?_
        obtain ⟨o12, w⟩ := w
        refine w_ias (p := 10) (q137 9) rfl (r64 hB) (by decide) o12 ?_
        refine w_aln (p := 11) (q137 10) rfl rfl ?_
        refine w_gR (p := 14) (j := 13) (v := 65) (q137 11) rfl (r56 hB) (by decide) (f56_13 hB) ?_
        refine w_aln (p := 15) (q137 14) rfl rfl ?_
        refine w_gI (p := 18) (j := 16) (v := (zz s9 56 16)) (q137 15) rfl (r56 hB) (by decide) (iv_zz s9 56 16) ?_
        refine w_iln (p := 19) (q137 18) rfl rfl ?_
        refine w_ias (p := 20) (q137 19) rfl (r65 hB) (by decide) o12 ?_
        refine w_aln (p := 21) (q137 20) rfl rfl ?_
        refine w_gR (p := 24) (j := 14) (v := 66) (q137 21) rfl (r56 hB) (by decide) (f56_14 hB) ?_
        refine w_aln (p := 25) (q137 24) rfl rfl ?_
        refine w_gI (p := 28) (j := 16) (v := (zz s9 56 16)) (q137 25) rfl (r56 hB) (by decide) (iv_zz s9 56 16) ?_
        refine w_iln (p := 29) (q137 28) rfl rfl ?_
        refine w_ias (p := 30) (q137 29) rfl (r66 hB) (by decide) o12 ?_
        refine w_aln (p := 31) (q137 30) rfl rfl ?_
        refine w_gR (p := 34) (j := 15) (v := 67) (q137 31) rfl (r56 hB) (by decide) (f56_15 hB) ?_
        refine w_aln (p := 35) (q137 34) rfl rfl ?_
        refine w_gI (p := 38) (j := 16) (v := (zz s9 56 16)) (q137 35) rfl (r56 hB) (by decide) (iv_zz s9 56 16) ?_
        refine w_ic (p := 39) (q137 38) rfl ?_
        refine w_ias (p := 40) (q137 39) rfl (r67 hB) (by decide) o12 ?_
        refine w_aln (p := 41) (q137 40) rfl rfl ?_
        refine w_dupr (p := 42) (q137 41) rfl ?_
        refine w_gI (p := 45) (j := 16) (v := (zz s9 56 16)) (q137 42) rfl (r56 hB) (by decide) (iv_zz s9 56 16) ?_
        refine w_ic (p := 46) (q137 45) rfl ?_
        refine w_add (p := 47) (q137 46) rfl ?_
        refine w_pI (p := 50) (j := 16) (q137 47) rfl (r56 hB) (by decide) rfl ?_
        refine w_aln (p := 51) (q137 50) rfl rfl ?_
        refine w_gI (p := 54) (j := 16) (v := ((zz s9 56 16) + 1)) (q137 51) rfl (r56 hB) (by decide) rfl ?_
        refine w_ic (p := 55) (q137 54) rfl ?_
        refine w_sub (p := 56) (q137 55) rfl ?_
        refine w_ret (q137 56) rfl ⟨_, _, rfl, ?_⟩
        show a_W _ 197 176 [.ref 56, iv x1, iv x2, iv (zz s 77 x1.toNat), iv v6, iv v11] [iv (((zz s9 56 16) + 1) - 1)] _ _
        exact w_ret (q197 176) rfl w
      · replace w := w.2 (Decidable.not_not.mp c8)
        refine w_i2f (p := 151) (q197 148) rfl (inR_zz _ _ _) (by decide) c8 ?_
        refine w_ic (p := 152) (q197 151) rfl ?_
        refine w_goto (q197 152) ?_
        refine w_is (p := 167) (ls' := [.ref 56, iv x1, iv x2, iv (zz s 77 x1.toNat), iv v6, iv (-1)]) (q197 165) rfl (Nat.le_of_ble_eq_true rfl) rfl ?_
        refine w_aln (p := 168) (q197 167) rfl rfl ?_
        refine w_iln (p := 169) (q197 168) rfl rfl ?_
        refine w_il (p := 171) (q197 169) rfl rfl ?_
        refine w_il (p := 173) (q197 171) rfl rfl ?_
        refine w_call (st := []) (as := [.ref 56, iv x2, iv v6, iv (-1)]) (as' := [iv (-1), iv v6, iv x2, .ref 56]) (p := 176) (q197 173) rfl m137 (by decide) (a_ok_i rfl (r56 hB) rfl) rfl rfl (Nat.le_of_ble_eq_true rfl) (by omega) rfl rfl ?_
        refine w_aln (p := 1) (q137 0) rfl rfl ?_
        refine w_gR (p := 4) (j := 12) (v := 64) (q137 1) rfl (r56 hB) (by decide) (f56_12 hB) ?_
        refine w_aln (p := 5) (q137 4) rfl rfl ?_
        refine w_gI (p := 8) (j := 16) (v := (zz s4 56 16)) (q137 5) rfl (r56 hB) (by decide) (iv_zz s4 56 16) ?_
        refine w_iln (p := 9) (q137 8) rfl rfl ?_
        obtain ⟨o13, w⟩ := w
        refine w_ias (p := 10) (q137 9) rfl (r64 hB) (by decide) o13 ?_
        refine w_aln (p := 11) (q137 10) rfl rfl ?_
        refine w_gR (p := 14) (j := 13) (v := 65) (q137 11) rfl (r56 hB) (by decide) (f56_13 hB) ?_
        refine w_aln (p := 15) (q137 14) rfl rfl ?_
        refine w_gI (p := 18) (j := 16) (v := (zz s4 56 16)) (q137 15) rfl (r56 hB) (by decide) (iv_zz s4 56 16) ?_
        refine w_iln (p := 19) (q137 18) rfl rfl ?_
        refine w_ias (p := 20) (q137 19) rfl (r65 hB) (by decide) o13 ?_
        refine w_aln (p := 21) (q137 20) rfl rfl ?_
        refine w_gR (p := 24) (j := 14) (v := 66) (q137 21) rfl (r56 hB) (by decide) (f56_14 hB) ?_
        refine w_aln (p := 25) (q137 24) rfl rfl ?_
        refine w_gI (p := 28) (j := 16) (v := (zz s4 56 16)) (q137 25) rfl (r56 hB) (by decide) (iv_zz s4 56 16) ?_
        refine w_iln (p := 29) (q137 28) rfl rfl ?_
        refine w_ias (p := 30) (q137 29) rfl (r66 hB) (by decide) o13 ?_
        refine w_aln (p := 31) (q137 30) rfl rfl ?_
        refine w_gR (p := 34) (j := 15) (v := 67) (q137 31) rfl (r56 hB) (by decide) (f56_15 hB) ?_
        refine w_aln (p := 35) (q137 34) rfl rfl ?_
        refine w_gI (p := 38) (j := 16) (v := (zz s4 56 16)) (q137 35) rfl (r56 hB) (by decide) (iv_zz s4 56 16) ?_
        refine w_ic (p := 39) (q137 38) rfl ?_
        refine w_ias (p := 40) (q137 39) rfl (r67 hB) (by decide) o13 ?_
        refine w_aln (p := 41) (q137 40) rfl rfl ?_
        refine w_dupr (p := 42) (q137 41) rfl ?_
        refine w_gI (p := 45) (j := 16) (v := (zz s4 56 16)) (q137 42) rfl (r56 hB) (by decide) (iv_zz s4 56 16) ?_
        refine w_ic (p := 46) (q137 45) rfl ?_
        refine w_add (p := 47) (q137 46) rfl ?_
        refine w_pI (p := 50) (j := 16) (q137 47) rfl (r56 hB) (by decide) rfl ?_
        refine w_aln (p := 51) (q137 50) rfl rfl ?_
        refine w_gI (p := 54) (j := 16) (v := ((zz s4 56 16) + 1)) (q137 51) rfl (r56 hB) (by decide) rfl ?_
        refine w_ic (p := 55) (q137 54) rfl ?_
        refine w_sub (p := 56) (q137 55) rfl ?_
        refine w_ret (q137 56) rfl ⟨_, _, rfl, ?_⟩
        show a_W _ 197 176 [.ref 56, iv x1, iv x2, iv (zz s 77 x1.toNat), iv v6, iv (-1)] [iv (((zz s4 56 16) + 1) - 1)] _ _
        exact w_ret (q197 176) rfl w
    · replace w := w.2 (Decidable.not_not.mp c3)
      refine w_i2f (p := 126) (q197 123) rfl (inR_zz _ _ _) (by decide) c3 ?_
      refine w_aln (p := 127) (q197 126) rfl rfl ?_
      refine w_iln (p := 128) (q197 127) rfl rfl ?_
      refine w_ic (p := 129) (q197 128) rfl ?_
      refine w_ic (p := 130) (q197 129) rfl ?_
      refine w_call (st := []) (as := [.ref 56, iv x2, iv (-1), iv (-1)]) (as' := [iv (-1), iv (-1), iv x2, .ref 56]) (p := 133) (q197 130) rfl m137 (by decide) (a_ok_i rfl (r56 hB) rfl) rfl rfl (Nat.le_of_ble_eq_true rfl) (by omega) rfl rfl ?_
      refine w_aln (p := 1) (q137 0) rfl rfl ?_
      refine w_gR (p := 4) (j := 12) (v := 64) (q137 1) rfl (r56 hB) (by decide) (f56_12 hB) ?_
      refine w_aln (p := 5) (q137 4) rfl rfl ?_
      refine w_gI (p := 8) (j := 16) (v := (zz s 56 16)) (q137 5) rfl (r56 hB) (by decide) (iv_zz s 56 16) ?_
      refine w_iln (p := 9) (q137 8) rfl rfl ?_
      obtain ⟨o14, w⟩ := w
      refine w_ias (p := 10) (q137 9) rfl (r64 hB) (by decide) o14 ?_
      refine w_aln (p := 11) (q137 10) rfl rfl ?_
      refine w_gR (p := 14) (j := 13) (v := 65) (q137 11) rfl (r56 hB) (by decide) (f56_13 hB) ?_
      refine w_aln (p := 15) (q137 14) rfl rfl ?_
      refine w_gI (p := 18) (j := 16) (v := (zz s 56 16)) (q137 15) rfl (r56 hB) (by decide) (iv_zz s 56 16) ?_
      refine w_iln (p := 19) (q137 18) rfl rfl ?_
      refine w_ias (p := 20) (q137 19) rfl (r65 hB) (by decide) o14 ?_
      refine w_aln (p := 21) (q137 20) rfl rfl ?_
      refine w_gR (p := 24) (j := 14) (v := 66) (q137 21) rfl (r56 hB) (by decide) (f56_14 hB) ?_
      refine w_aln (p := 25) (q137 24) rfl rfl ?_
      refine w_gI (p := 28) (j := 16) (v := (zz s 56 16)) (q137 25) rfl (r56 hB) (by decide) (iv_zz s 56 16) ?_
      refine w_iln (p := 29) (q137 28) rfl rfl ?_
      refine w_ias (p := 30) (q137 29) rfl (r66 hB) (by decide) o14 ?_
      refine w_aln (p := 31) (q137 30) rfl rfl ?_
      refine w_gR (p := 34) (j := 15) (v := 67) (q137 31) rfl (r56 hB) (by decide) (f56_15 hB) ?_
      refine w_aln (p := 35) (q137 34) rfl rfl ?_
      refine w_gI (p := 38) (j := 16) (v := (zz s 56 16)) (q137 35) rfl (r56 hB) (by decide) (iv_zz s 56 16) ?_
      refine w_ic (p := 39) (q137 38) rfl ?_
      refine w_ias (p := 40) (q137 39) rfl (r67 hB) (by decide) o14 ?_
      refine w_aln (p := 41) (q137 40) rfl rfl ?_
      refine w_dupr (p := 42) (q137 41) rfl ?_
      refine w_gI (p := 45) (j := 16) (v := (zz s 56 16)) (q137 42) rfl (r56 hB) (by decide) (iv_zz s 56 16) ?_
      refine w_ic (p := 46) (q137 45) rfl ?_
      refine w_add (p := 47) (q137 46) rfl ?_
      refine w_pI (p := 50) (j := 16) (q137 47) rfl (r56 hB) (by decide) rfl ?_
      refine w_aln (p := 51) (q137 50) rfl rfl ?_
      refine w_gI (p := 54) (j := 16) (v := ((zz s 56 16) + 1)) (q137 51) rfl (r56 hB) (by decide) rfl ?_
      refine w_ic (p := 55) (q137 54) rfl ?_
      refine w_sub (p := 56) (q137 55) rfl ?_
      refine w_ret (q137 56) rfl ⟨_, _, rfl, ?_⟩
      show a_W _ 197 133 [.ref 56, iv x1, iv x2, iv (zz s 77 x1.toNat), .retAddr 0, .retAddr 0] [iv (((zz s 56 16) + 1) - 1)] _ _
      exact w_ret (q197 133) rfl w
  · replace w := w.2 (Int.not_le.mp c1)
    refine w_i1f (p := 112) (q197 109) rfl (inR_zz _ _ _) c1 ?_
    refine w_ic (p := 113) (q197 112) rfl ?_
    exact w_ret (q197 113) rfl w
