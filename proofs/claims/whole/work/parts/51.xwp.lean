/-! printed by wip/am/mk50.py: the reader's text -/
theorem w26_0 {d : Nat} {B : aH} {Q : aR → Prop} (hB : a_Can B) (x1 : Int) (s : Nat → Nat → Int32) (l : Nat → Nat → Int64) (w : a_W d 26 4 [.ref 1, iv x1, iv x1, iv 0] [] (mkH B s l) Q) : a_W d 26 0 [.ref 1, iv x1, .retAddr 0, .retAddr 0] [] (mkH B s l) Q := by
  refine w_iln (p := 1) (q26 0) rfl rfl ?_
  refine w_isn (p := 2) (ls' := [.ref 1, iv x1, iv x1, .retAddr 0]) (q26 1) rfl (Nat.le_of_ble_eq_true rfl) rfl ?_
  refine w_ic (p := 3) (q26 2) rfl ?_
  refine w_isn (p := 4) (ls' := [.ref 1, iv x1, iv x1, iv 0]) (q26 3) rfl (Nat.le_of_ble_eq_true rfl) rfl ?_
  exact w
theorem w26_4 {d : Nat} {B : aH} {Q : aR → Prop} (hB : a_Can B) (hd : 1 ≤ d) (x1 x2 x3 : Int) (s : Nat → Nat → Int32) (l : Nat → Nat → Int64) (w : (inR x2 ∧ (((zz s 1 3) ≤ x2 → Q (.inl (some (iv x2)), (mkH B s l))) ∧ (x2 < (zz s 1 3) → (inR x3 ∧ ((x3 ≠ 0 → ((0 ≤ x2 ∧ x2 < 8000) ∧ (((zz s 2 x2.toNat) = 10 → a_W d 26 4 [.ref 1, iv x1, iv (x2 + 1), iv 0] [] (mkH B s l) Q) ∧ ((zz s 2 x2.toNat) ≠ 10 → a_W d 26 4 [.ref 1, iv x1, iv (x2 + 1), iv 1] [] (mkH B s l) Q)))) ∧ (x3 = 0 → ((0 ≤ x2 ∧ x2 < 8000) ∧ (((z27 (zz s 2 x2.toNat)) ≠ 0 → (((zz s 2 x2.toNat) ≠ 35 → a_W d 26 4 [.ref 1, iv x1, iv (x2 + 1), iv 0] [] (mkH B s l) Q) ∧ ((zz s 2 x2.toNat) = 35 → a_W d 26 4 [.ref 1, iv x1, iv (x2 + 1), iv 1] [] (mkH B s l) Q))) ∧ ((z27 (zz s 2 x2.toNat)) = 0 → (((zz s 2 x2.toNat) ≠ 35 → Q (.inl (some (iv x2)), (mkH B s l))) ∧ ((zz s 2 x2.toNat) = 35 → a_W d 26 4 [.ref 1, iv x1, iv (x2 + 1), iv 1] [] (mkH B s l) Q)))))))))))) : a_W d 26 4 [.ref 1, iv x1, iv x2, iv x3] [] (mkH B s l) Q := by
  refine w_iln (p := 5) (q26 4) rfl rfl ?_
  refine w_aln (p := 6) (q26 5) rfl rfl ?_
  refine w_gI (p := 9) (j := 3) (v := (zz s 1 3)) (q26 6) rfl (r1 hB) (by decide) (iv_zz s 1 3) ?_
  obtain ⟨h1, w⟩ := w
  by_cases c2 : (zz s 1 3) ≤ x2
  · replace w := w.1 c2
    refine w_i2t (q26 9) h1 (inR_zz _ _ _) c2 ?_
    refine w_iln (p := 78) (q26 77) rfl rfl ?_
    exact w_ret (q26 78) rfl w
  · replace w := w.2 (Int.not_le.mp c2)
    refine w_i2f (p := 12) (q26 9) rfl h1 (inR_zz _ _ _) c2 ?_
    refine w_iln (p := 13) (q26 12) rfl rfl ?_
    obtain ⟨h3, w⟩ := w
    by_cases c4 : x3 ≠ 0
    · replace w := w.1 c4
      refine w_i1t (q26 13) h3 c4 ?_
      refine w_iln (p := 40) (q26 39) rfl rfl ?_
      refine w_i1t (q26 40) h3 (show zc _ _ _ by unfold zc; omega) ?_
      refine w_aln (p := 55) (q26 54) rfl rfl ?_
      refine w_gR (p := 58) (j := 0) (v := 2) (q26 55) rfl (r1 hB) (by decide) (f1_0 hB) ?_
      refine w_iln (p := 59) (q26 58) rfl rfl ?_
      obtain ⟨o5, w⟩ := w
      refine w_ba (p := 60) (v := (zz s 2 x2.toNat)) (q26 59) rfl (r2 hB) (by decide) o5 (iv_zz s 2 x2.toNat) ?_
      refine w_bp (p := 62) (q26 60) rfl (by decide) ?_
      by_cases c6 : (zz s 2 x2.toNat) = 10
      · replace w := w.1 c6
        refine w_i2t (q26 62) (inR_zz _ _ _) (by decide) c6 ?_
        refine w_ic (p := 70) (q26 69) rfl ?_
        refine w_isn (p := 71) (ls' := [.ref 1, iv x1, iv x2, iv 0]) (q26 70) rfl (Nat.le_of_ble_eq_true rfl) rfl ?_
        refine w_inc (p := 74) (ls' := [.ref 1, iv x1, iv (x2 + 1), iv 0]) (q26 71) rfl rfl rfl ?_
        refine w_goto (q26 74) ?_
        exact w
      · replace w := w.2 c6
        refine w_i2f (p := 65) (q26 62) rfl (inR_zz _ _ _) (by decide) c6 ?_
        refine w_ic (p := 66) (q26 65) rfl ?_
        refine w_goto (q26 66) ?_
        refine w_isn (p := 71) (ls' := [.ref 1, iv x1, iv x2, iv 1]) (q26 70) rfl (Nat.le_of_ble_eq_true rfl) rfl ?_
        refine w_inc (p := 74) (ls' := [.ref 1, iv x1, iv (x2 + 1), iv 1]) (q26 71) rfl rfl rfl ?_
        refine w_goto (q26 74) ?_
        exact w
    · replace w := w.2 (Decidable.not_not.mp c4)
      refine w_i1f (p := 16) (q26 13) rfl h3 c4 ?_
      refine w_aln (p := 17) (q26 16) rfl rfl ?_
      refine w_gR (p := 20) (j := 0) (v := 2) (q26 17) rfl (r1 hB) (by decide) (f1_0 hB) ?_
      refine w_iln (p := 21) (q26 20) rfl rfl ?_
      obtain ⟨o7, w⟩ := w
      refine w_ba (p := 22) (v := (zz s 2 x2.toNat)) (q26 21) rfl (r2 hB) (by decide) o7 (iv_zz s 2 x2.toNat) ?_
      refine w_call (st := []) (as := [iv (zz s 2 x2.toNat)]) (as' := [iv (zz s 2 x2.toNat)]) (p := 25) (q26 22) rfl m27 (by decide) (a_ok_s rfl rfl) rfl rfl (Nat.le_of_ble_eq_true rfl) (by omega) rfl rfl (a_W.imp (p27 hB (zz s 2 x2.toNat) _ _ (inR_zz _ _ _)) ?_)
      rintro _ rfl
      refine ⟨_, _, rfl, ?_⟩
      show a_W _ 26 25 [.ref 1, iv x1, iv x2, iv x3] [iv (z27 (zz s 2 x2.toNat))] _ _
      by_cases c8 : (z27 (zz s 2 x2.toNat)) ≠ 0
      · replace w := w.1 c8
        refine w_i1t (q26 25) (inR_z27 _) c8 ?_
        refine w_iln (p := 40) (q26 39) rfl rfl ?_
        refine w_i1f (p := 43) (q26 40) rfl h3 (show ¬ zc _ _ _ by unfold zc; omega) ?_
        refine w_aln (p := 44) (q26 43) rfl rfl ?_
        refine w_gR (p := 47) (j := 0) (v := 2) (q26 44) rfl (r1 hB) (by decide) (f1_0 hB) ?_
        refine w_iln (p := 48) (q26 47) rfl rfl ?_
        refine w_ba (p := 49) (v := (zz s 2 x2.toNat)) (q26 48) rfl (r2 hB) (by decide) o7 (iv_zz s 2 x2.toNat) ?_
        refine w_bp (p := 51) (q26 49) rfl (by decide) ?_
        by_cases c9 : (zz s 2 x2.toNat) ≠ 35
        · replace w := w.1 c9
          refine w_i2t (q26 51) (inR_zz _ _ _) (by decide) c9 ?_
          refine w_ic (p := 70) (q26 69) rfl ?_
          refine w_isn (p := 71) (ls' := [.ref 1, iv x1, iv x2, iv 0]) (q26 70) rfl (Nat.le_of_ble_eq_true rfl) rfl ?_
          refine w_inc (p := 74) (ls' := [.ref 1, iv x1, iv (x2 + 1), iv 0]) (q26 71) rfl rfl rfl ?_
          refine w_goto (q26 74) ?_
          exact w
        · replace w := w.2 (Decidable.not_not.mp c9)
          refine w_i2f (p := 54) (q26 51) rfl (inR_zz _ _ _) (by decide) c9 ?_
          refine w_aln (p := 55) (q26 54) rfl rfl ?_
          refine w_gR (p := 58) (j := 0) (v := 2) (q26 55) rfl (r1 hB) (by decide) (f1_0 hB) ?_
          refine w_iln (p := 59) (q26 58) rfl rfl ?_
          refine w_ba (p := 60) (v := (zz s 2 x2.toNat)) (q26 59) rfl (r2 hB) (by decide) o7 (iv_zz s 2 x2.toNat) ?_
          refine w_bp (p := 62) (q26 60) rfl (by decide) ?_
          refine w_i2f (p := 65) (q26 62) rfl (inR_zz _ _ _) (by decide) (show ¬ zc _ _ _ by unfold zc; omega) ?_
          refine w_ic (p := 66) (q26 65) rfl ?_
          refine w_goto (q26 66) ?_
          refine w_isn (p := 71) (ls' := [.ref 1, iv x1, iv x2, iv 1]) (q26 70) rfl (Nat.le_of_ble_eq_true rfl) rfl ?_
          refine w_inc (p := 74) (ls' := [.ref 1, iv x1, iv (x2 + 1), iv 1]) (q26 71) rfl rfl rfl ?_
          refine w_goto (q26 74) ?_
          exact w
      · replace w := w.2 (Decidable.not_not.mp c8)
        refine w_i1f (p := 28) (q26 25) rfl (inR_z27 _) c8 ?_
        refine w_aln (p := 29) (q26 28) rfl rfl ?_
        refine w_gR (p := 32) (j := 0) (v := 2) (q26 29) rfl (r1 hB) (by decide) (f1_0 hB) ?_
        refine w_iln (p := 33) (q26 32) rfl rfl ?_
        refine w_ba (p := 34) (v := (zz s 2 x2.toNat)) (q26 33) rfl (r2 hB) (by decide) o7 (iv_zz s 2 x2.toNat) ?_
        refine w_bp (p := 36) (q26 34) rfl (by decide) ?_
        by_cases c10 : (zz s 2 x2.toNat) ≠ 35
        · replace w := w.1 c10
          refine w_i2t (q26 36) (inR_zz _ _ _) (by decide) c10 ?_
          refine w_iln (p := 78) (q26 77) rfl rfl ?_
          exact w_ret (q26 78) rfl w
        · replace w := w.2 (Decidable.not_not.mp c10)
          refine w_i2f (p := 39) (q26 36) rfl (inR_zz _ _ _) (by decide) c10 ?_
          refine w_iln (p := 40) (q26 39) rfl rfl ?_
          refine w_i1f (p := 43) (q26 40) rfl h3 (show ¬ zc _ _ _ by unfold zc; omega) ?_
          refine w_aln (p := 44) (q26 43) rfl rfl ?_
          refine w_gR (p := 47) (j := 0) (v := 2) (q26 44) rfl (r1 hB) (by decide) (f1_0 hB) ?_
          refine w_iln (p := 48) (q26 47) rfl rfl ?_
          refine w_ba (p := 49) (v := (zz s 2 x2.toNat)) (q26 48) rfl (r2 hB) (by decide) o7 (iv_zz s 2 x2.toNat) ?_
          refine w_bp (p := 51) (q26 49) rfl (by decide) ?_
          refine w_i2f (p := 54) (q26 51) rfl (inR_zz _ _ _) (by decide) (show ¬ zc _ _ _ by unfold zc; omega) ?_
          refine w_aln (p := 55) (q26 54) rfl rfl ?_
          refine w_gR (p := 58) (j := 0) (v := 2) (q26 55) rfl (r1 hB) (by decide) (f1_0 hB) ?_
          refine w_iln (p := 59) (q26 58) rfl rfl ?_
          refine w_ba (p := 60) (v := (zz s 2 x2.toNat)) (q26 59) rfl (r2 hB) (by decide) o7 (iv_zz s 2 x2.toNat) ?_
          refine w_bp (p := 62) (q26 60) rfl (by decide) ?_
          refine w_i2f (p := 65) (q26 62) rfl (inR_zz _ _ _) (by decide) (show ¬ zc _ _ _ by unfold zc; omega) ?_
          refine w_ic (p := 66) (q26 65) rfl ?_
          refine w_goto (q26 66) ?_
          refine w_isn (p := 71) (ls' := [.ref 1, iv x1, iv x2, iv 1]) (q26 70) rfl (Nat.le_of_ble_eq_true rfl) rfl ?_
          refine w_inc (p := 74) (ls' := [.ref 1, iv x1, iv (x2 + 1), iv 1]) (q26 71) rfl rfl rfl ?_
          refine w_goto (q26 74) ?_
          exact w
theorem w33_0 {d : Nat} {B : aH} {Q : aR → Prop} (hB : a_Can B) (x1 : Int) (s : Nat → Nat → Int32) (l : Nat → Nat → Int64) (w : a_W d 33 2 [.ref 1, iv x1, iv x1] [] (mkH B s l) Q) : a_W d 33 0 [.ref 1, iv x1, .retAddr 0] [] (mkH B s l) Q := by
  refine w_iln (p := 1) (q33 0) rfl rfl ?_
  refine w_isn (p := 2) (ls' := [.ref 1, iv x1, iv x1]) (q33 1) rfl (Nat.le_of_ble_eq_true rfl) rfl ?_
  exact w
theorem w33_2 {d : Nat} {B : aH} {Q : aR → Prop} (hB : a_Can B) (hd : 1 ≤ d) (x1 x2 : Int) (s : Nat → Nat → Int32) (l : Nat → Nat → Int64) (w : (inR x2 ∧ (((zz s 1 3) ≤ x2 → Q (.inl (some (iv x2)), (mkH B s l))) ∧ (x2 < (zz s 1 3) → ((0 ≤ x2 ∧ x2 < 8000) ∧ (((z31 (zz s 2 x2.toNat)) ≠ 0 → a_W d 33 2 [.ref 1, iv x1, iv (x2 + 1)] [] (mkH B s l) Q) ∧ ((z31 (zz s 2 x2.toNat)) = 0 → (((z34 (zz s 2 x2.toNat)) ≠ 0 → a_W d 33 2 [.ref 1, iv x1, iv (x2 + 1)] [] (mkH B s l) Q) ∧ ((z34 (zz s 2 x2.toNat)) = 0 → (((zz s 2 x2.toNat) ≠ 39 → Q (.inl (some (iv x2)), (mkH B s l))) ∧ ((zz s 2 x2.toNat) = 39 → a_W d 33 2 [.ref 1, iv x1, iv (x2 + 1)] [] (mkH B s l) Q))))))))))) : a_W d 33 2 [.ref 1, iv x1, iv x2] [] (mkH B s l) Q := by
  refine w_iln (p := 3) (q33 2) rfl rfl ?_
  refine w_aln (p := 4) (q33 3) rfl rfl ?_
  refine w_gI (p := 7) (j := 3) (v := (zz s 1 3)) (q33 4) rfl (r1 hB) (by decide) (iv_zz s 1 3) ?_
  obtain ⟨h1, w⟩ := w
  by_cases c2 : (zz s 1 3) ≤ x2
  · replace w := w.1 c2
    refine w_i2t (q33 7) h1 (inR_zz _ _ _) c2 ?_
    refine w_iln (p := 52) (q33 51) rfl rfl ?_
    exact w_ret (q33 52) rfl w
  · replace w := w.2 (Int.not_le.mp c2)
    refine w_i2f (p := 10) (q33 7) rfl h1 (inR_zz _ _ _) c2 ?_
    refine w_aln (p := 11) (q33 10) rfl rfl ?_
    refine w_gR (p := 14) (j := 0) (v := 2) (q33 11) rfl (r1 hB) (by decide) (f1_0 hB) ?_
    refine w_iln (p := 15) (q33 14) rfl rfl ?_
    obtain ⟨o3, w⟩ := w
    refine w_ba (p := 16) (v := (zz s 2 x2.toNat)) (q33 15) rfl (r2 hB) (by decide) o3 (iv_zz s 2 x2.toNat) ?_
    refine w_call (st := []) (as := [iv (zz s 2 x2.toNat)]) (as' := [iv (zz s 2 x2.toNat)]) (p := 19) (q33 16) rfl m31 (by decide) (a_ok_s rfl rfl) rfl rfl (Nat.le_of_ble_eq_true rfl) (by omega) rfl rfl (a_W.imp (p31 hB (zz s 2 x2.toNat) _ _ (inR_zz _ _ _)) ?_)
    rintro _ rfl
    refine ⟨_, _, rfl, ?_⟩
    show a_W _ 33 19 [.ref 1, iv x1, iv x2] [iv (z31 (zz s 2 x2.toNat))] _ _
    by_cases c4 : (z31 (zz s 2 x2.toNat)) ≠ 0
    · replace w := w.1 c4
      refine w_i1t (q33 19) (inR_z31 _) c4 ?_
      refine w_inc (p := 48) (ls' := [.ref 1, iv x1, iv (x2 + 1)]) (q33 45) rfl rfl rfl ?_
      refine w_goto (q33 48) ?_
      exact w
    · replace w := w.2 (Decidable.not_not.mp c4)
      refine w_i1f (p := 22) (q33 19) rfl (inR_z31 _) c4 ?_
      refine w_aln (p := 23) (q33 22) rfl rfl ?_
      refine w_gR (p := 26) (j := 0) (v := 2) (q33 23) rfl (r1 hB) (by decide) (f1_0 hB) ?_
      refine w_iln (p := 27) (q33 26) rfl rfl ?_
      refine w_ba (p := 28) (v := (zz s 2 x2.toNat)) (q33 27) rfl (r2 hB) (by decide) o3 (iv_zz s 2 x2.toNat) ?_
      refine w_call (st := []) (as := [iv (zz s 2 x2.toNat)]) (as' := [iv (zz s 2 x2.toNat)]) (p := 31) (q33 28) rfl m34 (by decide) (a_ok_s rfl rfl) rfl rfl (Nat.le_of_ble_eq_true rfl) (by omega) rfl rfl (a_W.imp (p34 hB (zz s 2 x2.toNat) _ _ (inR_zz _ _ _)) ?_)
      rintro _ rfl
      refine ⟨_, _, rfl, ?_⟩
      show a_W _ 33 31 [.ref 1, iv x1, iv x2] [iv (z34 (zz s 2 x2.toNat))] _ _
      by_cases c5 : (z34 (zz s 2 x2.toNat)) ≠ 0
      · replace w := w.1 c5
        refine w_i1t (q33 31) (inR_z34 _) c5 ?_
        refine w_inc (p := 48) (ls' := [.ref 1, iv x1, iv (x2 + 1)]) (q33 45) rfl rfl rfl ?_
        refine w_goto (q33 48) ?_
        exact w
      · replace w := w.2 (Decidable.not_not.mp c5)
        refine w_i1f (p := 34) (q33 31) rfl (inR_z34 _) c5 ?_
        refine w_aln (p := 35) (q33 34) rfl rfl ?_
        refine w_gR (p := 38) (j := 0) (v := 2) (q33 35) rfl (r1 hB) (by decide) (f1_0 hB) ?_
        refine w_iln (p := 39) (q33 38) rfl rfl ?_
        refine w_ba (p := 40) (v := (zz s 2 x2.toNat)) (q33 39) rfl (r2 hB) (by decide) o3 (iv_zz s 2 x2.toNat) ?_
        refine w_bp (p := 42) (q33 40) rfl (by decide) ?_
        by_cases c6 : (zz s 2 x2.toNat) ≠ 39
        · replace w := w.1 c6
          refine w_i2t (q33 42) (inR_zz _ _ _) (by decide) c6 ?_
          refine w_iln (p := 52) (q33 51) rfl rfl ?_
          exact w_ret (q33 52) rfl w
        · replace w := w.2 (Decidable.not_not.mp c6)
          refine w_i2f (p := 45) (q33 42) rfl (inR_zz _ _ _) (by decide) c6 ?_
          refine w_inc (p := 48) (ls' := [.ref 1, iv x1, iv (x2 + 1)]) (q33 45) rfl rfl rfl ?_
          refine w_goto (q33 48) ?_
          exact w
theorem w35_0 {d : Nat} {B : aH} {Q : aR → Prop} (hB : a_Can B) (s : Nat → Nat → Int32) (l : Nat → Nat → Int64) (w : (inR ((zz s 1 8) - (zz s 1 7)) ∧ ((((zz s 1 8) - (zz s 1 7)) = 2 → ((0 ≤ (zz s 1 7) ∧ (zz s 1 7) < 8000) ∧ ((0 ≤ ((zz s 1 7) + 1) ∧ ((zz s 1 7) + 1) < 8000) ∧ (((zz s 2 (zz s 1 7).toNat) ≠ 98 → (((zz s 2 (zz s 1 7).toNat) ≠ 105 → Q (.inl (some (iv 0)), (mkH B s l))) ∧ ((zz s 2 (zz s 1 7).toNat) = 105 → (((zz s 2 ((zz s 1 7) + 1).toNat) ≠ 110 → Q (.inl (some (iv 0)), (mkH B s l))) ∧ ((zz s 2 ((zz s 1 7) + 1).toNat) = 110 → Q (.inl (some (iv 1)), (mkH B s l))))))) ∧ ((zz s 2 (zz s 1 7).toNat) = 98 → (((zz s 2 ((zz s 1 7) + 1).toNat) = 121 → Q (.inl (some (iv 1)), (mkH B s l))) ∧ ((zz s 2 ((zz s 1 7) + 1).toNat) ≠ 121 → Q (.inl (some (iv 0)), (mkH B s l))))))))) ∧ (((zz s 1 8) - (zz s 1 7)) ≠ 2 → Q (.inl (some (iv 0)), (mkH B s l)))))) : a_W d 35 0 [.ref 1, .retAddr 0, .retAddr 0] [] (mkH B s l) Q := by
  refine w_aln (p := 1) (q35 0) rfl rfl ?_
  refine w_gI (p := 4) (j := 8) (v := (zz s 1 8)) (q35 1) rfl (r1 hB) (by decide) (iv_zz s 1 8) ?_
  refine w_aln (p := 5) (q35 4) rfl rfl ?_
  refine w_gI (p := 8) (j := 7) (v := (zz s 1 7)) (q35 5) rfl (r1 hB) (by decide) (iv_zz s 1 7) ?_
  refine w_sub (p := 9) (q35 8) rfl ?_
  refine w_ic (p := 10) (q35 9) rfl ?_
  obtain ⟨h1, w⟩ := w
  by_cases c2 : ((zz s 1 8) - (zz s 1 7)) = 2
  · replace w := w.1 c2
    refine w_i2t (q35 10) h1 (by decide) c2 ?_
    refine w_aln (p := 16) (q35 15) rfl rfl ?_
    refine w_gR (p := 19) (j := 0) (v := 2) (q35 16) rfl (r1 hB) (by decide) (f1_0 hB) ?_
    refine w_aln (p := 20) (q35 19) rfl rfl ?_
    refine w_gI (p := 23) (j := 7) (v := (zz s 1 7)) (q35 20) rfl (r1 hB) (by decide) (iv_zz s 1 7) ?_
    obtain ⟨o3, w⟩ := w
    refine w_ba (p := 24) (v := (zz s 2 (zz s 1 7).toNat)) (q35 23) rfl (r2 hB) (by decide) o3 (iv_zz s 2 (zz s 1 7).toNat) ?_
    refine w_isn (p := 25) (ls' := [.ref 1, iv (zz s 2 (zz s 1 7).toNat), .retAddr 0]) (q35 24) rfl (Nat.le_of_ble_eq_true rfl) rfl ?_
    refine w_aln (p := 26) (q35 25) rfl rfl ?_
    refine w_gR (p := 29) (j := 0) (v := 2) (q35 26) rfl (r1 hB) (by decide) (f1_0 hB) ?_
    refine w_aln (p := 30) (q35 29) rfl rfl ?_
    refine w_gI (p := 33) (j := 7) (v := (zz s 1 7)) (q35 30) rfl (r1 hB) (by decide) (iv_zz s 1 7) ?_
    refine w_ic (p := 34) (q35 33) rfl ?_
    refine w_add (p := 35) (q35 34) rfl ?_
    obtain ⟨o4, w⟩ := w
    refine w_ba (p := 36) (v := (zz s 2 ((zz s 1 7) + 1).toNat)) (q35 35) rfl (r2 hB) (by decide) o4 (iv_zz s 2 ((zz s 1 7) + 1).toNat) ?_
    refine w_isn (p := 37) (ls' := [.ref 1, iv (zz s 2 (zz s 1 7).toNat), iv (zz s 2 ((zz s 1 7) + 1).toNat)]) (q35 36) rfl (Nat.le_of_ble_eq_true rfl) rfl ?_
    refine w_iln (p := 38) (q35 37) rfl rfl ?_
    refine w_bp (p := 40) (q35 38) rfl (by decide) ?_
    by_cases c5 : (zz s 2 (zz s 1 7).toNat) ≠ 98
    · replace w := w.1 c5
      refine w_i2t (q35 40) (inR_zz _ _ _) (by decide) c5 ?_
      refine w_iln (p := 50) (q35 49) rfl rfl ?_
      refine w_bp (p := 52) (q35 50) rfl (by decide) ?_
      by_cases c6 : (zz s 2 (zz s 1 7).toNat) ≠ 105
      · replace w := w.1 c6
        refine w_i2t (q35 52) (inR_zz _ _ _) (by decide) c6 ?_
        refine w_ic (p := 66) (q35 65) rfl ?_
        exact w_ret (q35 66) rfl w
      · replace w := w.2 (Decidable.not_not.mp c6)
        refine w_i2f (p := 55) (q35 52) rfl (inR_zz _ _ _) (by decide) c6 ?_
        refine w_iln (p := 56) (q35 55) rfl rfl ?_
        refine w_bp (p := 58) (q35 56) rfl (by decide) ?_
        by_cases c7 : (zz s 2 ((zz s 1 7) + 1).toNat) ≠ 110
        · replace w := w.1 c7
          refine w_i2t (q35 58) (inR_zz _ _ _) (by decide) c7 ?_
          refine w_ic (p := 66) (q35 65) rfl ?_
          exact w_ret (q35 66) rfl w
        · replace w := w.2 (Decidable.not_not.mp c7)
          refine w_i2f (p := 61) (q35 58) rfl (inR_zz _ _ _) (by decide) c7 ?_
          refine w_ic (p := 62) (q35 61) rfl ?_
          refine w_goto (q35 62) ?_
          exact w_ret (q35 66) rfl w
    · replace w := w.2 (Decidable.not_not.mp c5)
      refine w_i2f (p := 43) (q35 40) rfl (inR_zz _ _ _) (by decide) c5 ?_
      refine w_iln (p := 44) (q35 43) rfl rfl ?_
      refine w_bp (p := 46) (q35 44) rfl (by decide) ?_
      by_cases c8 : (zz s 2 ((zz s 1 7) + 1).toNat) = 121
      · replace w := w.1 c8
        refine w_i2t (q35 46) (inR_zz _ _ _) (by decide) c8 ?_
        refine w_ic (p := 62) (q35 61) rfl ?_
        refine w_goto (q35 62) ?_
        exact w_ret (q35 66) rfl w
      · replace w := w.2 c8
        refine w_i2f (p := 49) (q35 46) rfl (inR_zz _ _ _) (by decide) c8 ?_
        refine w_iln (p := 50) (q35 49) rfl rfl ?_
        refine w_bp (p := 52) (q35 50) rfl (by decide) ?_
        refine w_i2t (q35 52) (inR_zz _ _ _) (by decide) (show zc _ _ _ by unfold zc; omega) ?_
        refine w_ic (p := 66) (q35 65) rfl ?_
        exact w_ret (q35 66) rfl w
  · replace w := w.2 c2
    refine w_i2f (p := 13) (q35 10) rfl h1 (by decide) c2 ?_
    refine w_ic (p := 14) (q35 13) rfl ?_
    exact w_ret (q35 14) rfl w
theorem w37_0 {d : Nat} {B : aH} {Q : aR → Prop} (hB : a_Can B) (x1 : Int) (s : Nat → Nat → Int32) (l : Nat → Nat → Int64) (w : (inR x1 ∧ (((zz s 1 3) ≤ x1 → Q (.inl (some (iv 0)), (mkH B s l))) ∧ (x1 < (zz s 1 3) → ((0 ≤ x1 ∧ x1 < 8000) ∧ Q (.inl (some (iv (zz s 2 x1.toNat))), (mkH B s l))))))) : a_W d 37 0 [.ref 1, iv x1] [] (mkH B s l) Q := by
  refine w_iln (p := 1) (q37 0) rfl rfl ?_
  refine w_aln (p := 2) (q37 1) rfl rfl ?_
  refine w_gI (p := 5) (j := 3) (v := (zz s 1 3)) (q37 2) rfl (r1 hB) (by decide) (iv_zz s 1 3) ?_
  obtain ⟨h1, w⟩ := w
  by_cases c2 : (zz s 1 3) ≤ x1
  · replace w := w.1 c2
    refine w_i2t (q37 5) h1 (inR_zz _ _ _) c2 ?_
    refine w_ic (p := 18) (q37 17) rfl ?_
    exact w_ret (q37 18) rfl w
  · replace w := w.2 (Int.not_le.mp c2)
    refine w_i2f (p := 8) (q37 5) rfl h1 (inR_zz _ _ _) c2 ?_
    refine w_aln (p := 9) (q37 8) rfl rfl ?_
    refine w_gR (p := 12) (j := 0) (v := 2) (q37 9) rfl (r1 hB) (by decide) (f1_0 hB) ?_
    refine w_iln (p := 13) (q37 12) rfl rfl ?_
    obtain ⟨o3, w⟩ := w
    refine w_ba (p := 14) (v := (zz s 2 x1.toNat)) (q37 13) rfl (r2 hB) (by decide) o3 (iv_zz s 2 x1.toNat) ?_
    refine w_goto (q37 14) ?_
    exact w_ret (q37 18) rfl w
theorem w41_0 {d : Nat} {B : aH} {Q : aR → Prop} (hB : a_Can B) (s : Nat → Nat → Int32) (l : Nat → Nat → Int64) (w : a_W d 41 5 [.ref 1] [] (mkH B (zu s 1 9 0) l) Q) : a_W d 41 0 [.ref 1] [] (mkH B s l) Q := by
  refine w_aln (p := 1) (q41 0) rfl rfl ?_
  refine w_ic (p := 2) (q41 1) rfl ?_
  refine w_pI (p := 5) (j := 9) (q41 2) rfl (r1 hB) (by decide) rfl ?_
  exact w
theorem w41_5 {d : Nat} {B : aH} {Q : aR → Prop} (hB : a_Can B) (hd : 2 ≤ d) (s : Nat → Nat → Int32) (l : Nat → Nat → Int64) (w : (((zz s 1 3) ≤ (zz s 1 8) → (((zz s 1 9) ≤ 49 → Q (.inl none, (mkH B (zu s 1 6 3) l))) ∧ (49 < (zz s 1 9) → (((zz s 1 10) ≠ 0 → Q (.inl none, (mkH B (zu s 1 6 3) l))) ∧ ((zz s 1 10) = 0 → Q (.inl none, (mkH B (zu (zu (zu (zu s 1 6 3) 1 10 8) 1 11 (zz s 1 7)) 1 6 0) l))))))) ∧ ((zz s 1 8) < (zz s 1 3) → ((0 ≤ (zz s 1 8) ∧ (zz s 1 8) < 8000) ∧ (((z34 (zz s 2 (zz s 1 8).toNat)) = 0 → (((zz s 1 9) ≤ 49 → Q (.inl none, (mkH B (zu s 1 6 3) l))) ∧ (49 < (zz s 1 9) → (((zz s 1 10) ≠ 0 → Q (.inl none, (mkH B (zu s 1 6 3) l))) ∧ ((zz s 1 10) = 0 → Q (.inl none, (mkH B (zu (zu (zu (zu s 1 6 3) 1 10 8) 1 11 (zz s 1 7)) 1 6 0) l))))))) ∧ ((z34 (zz s 2 (zz s 1 8).toNat)) ≠ 0 → (inR ((((zz s 1 9) * 10) + (zz s 2 (zz s 1 8).toNat)) - 48) ∧ a_W d 41 5 [.ref 1] [] (mkH B (zu (zu s 1 9 (min ((((zz s 1 9) * 10) + (zz s 2 (zz s 1 8).toNat)) - 48) 50)) 1 8 ((zz s 1 8) + 1)) l) Q))))))) : a_W d 41 5 [.ref 1] [] (mkH B s l) Q := by
  refine w_aln (p := 6) (q41 5) rfl rfl ?_
  refine w_gI (p := 9) (j := 8) (v := (zz s 1 8)) (q41 6) rfl (r1 hB) (by decide) (iv_zz s 1 8) ?_
  refine w_aln (p := 10) (q41 9) rfl rfl ?_
  refine w_gI (p := 13) (j := 3) (v := (zz s 1 3)) (q41 10) rfl (r1 hB) (by decide) (iv_zz s 1 3) ?_
  by_cases c1 : (zz s 1 3) ≤ (zz s 1 8)
  · replace w := w.1 c1
    refine w_i2t (q41 13) (inR_zz _ _ _) (inR_zz _ _ _) c1 ?_
    refine w_aln (p := 74) (q41 73) rfl rfl ?_
    refine w_ic (p := 75) (q41 74) rfl ?_
    refine w_pI (p := 78) (j := 6) (q41 75) rfl (r1 hB) (by decide) rfl ?_
    refine w_aln (p := 79) (q41 78) rfl rfl ?_
    refine w_gI (p := 82) (j := 9) (v := (zz s 1 9)) (q41 79) rfl (r1 hB) (by decide) (iv_zz s 1 9) ?_
    refine w_bp (p := 84) (q41 82) rfl (by decide) ?_
    by_cases c2 : (zz s 1 9) ≤ 49
    · replace w := w.1 c2
      refine w_i2t (q41 84) (inR_zz _ _ _) (by decide) c2 ?_
      exact w_rv (q41 93) rfl w
    · replace w := w.2 (Int.not_le.mp c2)
      refine w_i2f (p := 87) (q41 84) rfl (inR_zz _ _ _) (by decide) c2 ?_
      refine w_aln (p := 88) (q41 87) rfl rfl ?_
      refine w_bp (p := 90) (q41 88) rfl (by decide) ?_
      refine w_call (st := []) (as := [.ref 1, iv 8]) (as' := [iv 8, .ref 1]) (p := 93) (q41 90) rfl m28 (by decide) (a_ok_i rfl (r1 hB) rfl) rfl rfl (Nat.le_of_ble_eq_true rfl) (by omega) rfl rfl ?_
      refine w_aln (p := 1) (q28 0) rfl rfl ?_
      refine w_iln (p := 2) (q28 1) rfl rfl ?_
      refine w_aln (p := 3) (q28 2) rfl rfl ?_
      refine w_gI (p := 6) (j := 7) (v := (zz s 1 7)) (q28 3) rfl (r1 hB) (by decide) (iv_zz s 1 7) ?_
      refine w_call (st := []) (as := [.ref 1, iv 8, iv (zz s 1 7)]) (as' := [iv (zz s 1 7), iv 8, .ref 1]) (p := 9) (q28 6) rfl m29 (by decide) (a_ok_i rfl (r1 hB) rfl) rfl rfl (Nat.le_of_ble_eq_true rfl) (by omega) rfl rfl ?_
      refine w_aln (p := 1) (q29 0) rfl rfl ?_
      refine w_gI (p := 4) (j := 10) (v := (zz s 1 10)) (q29 1) rfl (r1 hB) (by decide) (iv_zz s 1 10) ?_
      by_cases c3 : (zz s 1 10) ≠ 0
      · replace w := w.1 c3
        refine w_i1t (q29 4) (inR_zz _ _ _) c3 ?_
        refine w_rv (q29 22) rfl ⟨_, _, rfl, ?_⟩
        show a_W _ 28 9 [.ref 1, iv 8] [] _ _
        refine w_rv (q28 9) rfl ⟨_, _, rfl, ?_⟩
        show a_W _ 41 93 [.ref 1] [] _ _
        exact w_rv (q41 93) rfl w
      · replace w := w.2 (Decidable.not_not.mp c3)
        refine w_i1f (p := 7) (q29 4) rfl (inR_zz _ _ _) c3 ?_
        refine w_aln (p := 8) (q29 7) rfl rfl ?_
        refine w_iln (p := 9) (q29 8) rfl rfl ?_
        refine w_pI (p := 12) (j := 10) (q29 9) rfl (r1 hB) (by decide) rfl ?_
        refine w_aln (p := 13) (q29 12) rfl rfl ?_
        refine w_iln (p := 14) (q29 13) rfl rfl ?_
        refine w_pI (p := 17) (j := 11) (q29 14) rfl (r1 hB) (by decide) rfl ?_
        refine w_aln (p := 18) (q29 17) rfl rfl ?_
        refine w_ic (p := 19) (q29 18) rfl ?_
        refine w_pI (p := 22) (j := 6) (q29 19) rfl (r1 hB) (by decide) rfl ?_
        refine w_rv (q29 22) rfl ⟨_, _, rfl, ?_⟩
        show a_W _ 28 9 [.ref 1, iv 8] [] _ _
        refine w_rv (q28 9) rfl ⟨_, _, rfl, ?_⟩
        show a_W _ 41 93 [.ref 1] [] _ _
        exact w_rv (q41 93) rfl w
  · replace w := w.2 (Int.not_le.mp c1)
    refine w_i2f (p := 16) (q41 13) rfl (inR_zz _ _ _) (inR_zz _ _ _) c1 ?_
    refine w_aln (p := 17) (q41 16) rfl rfl ?_
    refine w_gR (p := 20) (j := 0) (v := 2) (q41 17) rfl (r1 hB) (by decide) (f1_0 hB) ?_
    refine w_aln (p := 21) (q41 20) rfl rfl ?_
    refine w_gI (p := 24) (j := 8) (v := (zz s 1 8)) (q41 21) rfl (r1 hB) (by decide) (iv_zz s 1 8) ?_
    obtain ⟨o4, w⟩ := w
    refine w_ba (p := 25) (v := (zz s 2 (zz s 1 8).toNat)) (q41 24) rfl (r2 hB) (by decide) o4 (iv_zz s 2 (zz s 1 8).toNat) ?_
    refine w_call (st := []) (as := [iv (zz s 2 (zz s 1 8).toNat)]) (as' := [iv (zz s 2 (zz s 1 8).toNat)]) (p := 28) (q41 25) rfl m34 (by decide) (a_ok_s rfl rfl) rfl rfl (Nat.le_of_ble_eq_true rfl) (by omega) rfl rfl (a_W.imp (p34 hB (zz s 2 (zz s 1 8).toNat) _ _ (inR_zz _ _ _)) ?_)
    rintro _ rfl
    refine ⟨_, _, rfl, ?_⟩
    show a_W _ 41 28 [.ref 1] [iv (z34 (zz s 2 (zz s 1 8).toNat))] _ _
    by_cases c5 : (z34 (zz s 2 (zz s 1 8).toNat)) = 0
    · replace w := w.1 c5
      refine w_i1t (q41 28) (inR_z34 _) c5 ?_
      refine w_aln (p := 74) (q41 73) rfl rfl ?_
      refine w_ic (p := 75) (q41 74) rfl ?_
      refine w_pI (p := 78) (j := 6) (q41 75) rfl (r1 hB) (by decide) rfl ?_
      refine w_aln (p := 79) (q41 78) rfl rfl ?_
      refine w_gI (p := 82) (j := 9) (v := (zz s 1 9)) (q41 79) rfl (r1 hB) (by decide) (iv_zz s 1 9) ?_
      refine w_bp (p := 84) (q41 82) rfl (by decide) ?_
      by_cases c6 : (zz s 1 9) ≤ 49
      · replace w := w.1 c6
        refine w_i2t (q41 84) (inR_zz _ _ _) (by decide) c6 ?_
        exact w_rv (q41 93) rfl w
      · replace w := w.2 (Int.not_le.mp c6)
        refine w_i2f (p := 87) (q41 84) rfl (inR_zz _ _ _) (by decide) c6 ?_
        refine w_aln (p := 88) (q41 87) rfl rfl ?_
        refine w_bp (p := 90) (q41 88) rfl (by decide) ?_
        refine w_call (st := []) (as := [.ref 1, iv 8]) (as' := [iv 8, .ref 1]) (p := 93) (q41 90) rfl m28 (by decide) (a_ok_i rfl (r1 hB) rfl) rfl rfl (Nat.le_of_ble_eq_true rfl) (by omega) rfl rfl ?_
        refine w_aln (p := 1) (q28 0) rfl rfl ?_
        refine w_iln (p := 2) (q28 1) rfl rfl ?_
        refine w_aln (p := 3) (q28 2) rfl rfl ?_
        refine w_gI (p := 6) (j := 7) (v := (zz s 1 7)) (q28 3) rfl (r1 hB) (by decide) (iv_zz s 1 7) ?_
        refine w_call (st := []) (as := [.ref 1, iv 8, iv (zz s 1 7)]) (as' := [iv (zz s 1 7), iv 8, .ref 1]) (p := 9) (q28 6) rfl m29 (by decide) (a_ok_i rfl (r1 hB) rfl) rfl rfl (Nat.le_of_ble_eq_true rfl) (by omega) rfl rfl ?_
        refine w_aln (p := 1) (q29 0) rfl rfl ?_
        refine w_gI (p := 4) (j := 10) (v := (zz s 1 10)) (q29 1) rfl (r1 hB) (by decide) (iv_zz s 1 10) ?_
        by_cases c7 : (zz s 1 10) ≠ 0
        · replace w := w.1 c7
          refine w_i1t (q29 4) (inR_zz _ _ _) c7 ?_
          refine w_rv (q29 22) rfl ⟨_, _, rfl, ?_⟩
          show a_W _ 28 9 [.ref 1, iv 8] [] _ _
          refine w_rv (q28 9) rfl ⟨_, _, rfl, ?_⟩
          show a_W _ 41 93 [.ref 1] [] _ _
          exact w_rv (q41 93) rfl w
        · replace w := w.2 (Decidable.not_not.mp c7)
          refine w_i1f (p := 7) (q29 4) rfl (inR_zz _ _ _) c7 ?_
          refine w_aln (p := 8) (q29 7) rfl rfl ?_
          refine w_iln (p := 9) (q29 8) rfl rfl ?_
          refine w_pI (p := 12) (j := 10) (q29 9) rfl (r1 hB) (by decide) rfl ?_
          refine w_aln (p := 13) (q29 12) rfl rfl ?_
          refine w_iln (p := 14) (q29 13) rfl rfl ?_
          refine w_pI (p := 17) (j := 11) (q29 14) rfl (r1 hB) (by decide) rfl ?_
          refine w_aln (p := 18) (q29 17) rfl rfl ?_
          refine w_ic (p := 19) (q29 18) rfl ?_
          refine w_pI (p := 22) (j := 6) (q29 19) rfl (r1 hB) (by decide) rfl ?_
          refine w_rv (q29 22) rfl ⟨_, _, rfl, ?_⟩
          show a_W _ 28 9 [.ref 1, iv 8] [] _ _
          refine w_rv (q28 9) rfl ⟨_, _, rfl, ?_⟩
          show a_W _ 41 93 [.ref 1] [] _ _
          exact w_rv (q41 93) rfl w
    · replace w := w.2 c5
      refine w_i1f (p := 31) (q41 28) rfl (inR_z34 _) c5 ?_
      refine w_aln (p := 32) (q41 31) rfl rfl ?_
      refine w_aln (p := 33) (q41 32) rfl rfl ?_
      refine w_gI (p := 36) (j := 9) (v := (zz s 1 9)) (q41 33) rfl (r1 hB) (by decide) (iv_zz s 1 9) ?_
      refine w_bp (p := 38) (q41 36) rfl (by decide) ?_
      refine w_mulz (p := 39) (q41 38) rfl ?_
      refine w_aln (p := 40) (q41 39) rfl rfl ?_
      refine w_gR (p := 43) (j := 0) (v := 2) (q41 40) rfl (r1 hB) (by decide) (f1_0 hB) ?_
      refine w_aln (p := 44) (q41 43) rfl rfl ?_
      refine w_gI (p := 47) (j := 8) (v := (zz s 1 8)) (q41 44) rfl (r1 hB) (by decide) (iv_zz s 1 8) ?_
      refine w_ba (p := 48) (v := (zz s 2 (zz s 1 8).toNat)) (q41 47) rfl (r2 hB) (by decide) o4 (iv_zz s 2 (zz s 1 8).toNat) ?_
      refine w_add (p := 49) (q41 48) rfl ?_
      refine w_bp (p := 51) (q41 49) rfl (by decide) ?_
      refine w_sub (p := 52) (q41 51) rfl ?_
      refine w_bp (p := 54) (q41 52) rfl (by decide) ?_
      obtain ⟨h8, w⟩ := w
      refine w_min (p := 57) (q41 54) rfl rfl h8 (by decide) (Nat.le_of_ble_eq_true rfl) (by omega) ?_
      refine w_pI (p := 60) (j := 9) (q41 57) rfl (r1 hB) (by decide) rfl ?_
      refine w_aln (p := 61) (q41 60) rfl rfl ?_
      refine w_dupr (p := 62) (q41 61) rfl ?_
      refine w_gI (p := 65) (j := 8) (v := (zz s 1 8)) (q41 62) rfl (r1 hB) (by decide) (iv_zz s 1 8) ?_
      refine w_ic (p := 66) (q41 65) rfl ?_
      refine w_add (p := 67) (q41 66) rfl ?_
      refine w_pI (p := 70) (j := 8) (q41 67) rfl (r1 hB) (by decide) rfl ?_
      refine w_goto (q41 70) ?_
      exact w
theorem w42_0 {d : Nat} {B : aH} {Q : aR → Prop} (hB : a_Can B) (hd : 1 ≤ d) (x1 : Int) (s : Nat → Nat → Int32) (l : Nat → Nat → Int64) (w : (inR ((zz s 1 7) + 1) ∧ (((zz s 1 3) ≤ ((zz s 1 7) + 1) → (inR ((zz s 1 7) + 2) ∧ (((zz s 1 3) ≤ ((zz s 1 7) + 2) → (inR x1 ∧ (((z43 x1 0 0) ≠ (-1) → a_W d 42 67 [.ref 1, iv x1, iv 0] [] (mkH B (zu (zu s 1 6 (z43 x1 0 0)) 1 8 ((zz s 1 7) + 3)) l) Q) ∧ ((z43 x1 0 0) = (-1) → a_W d 42 67 [.ref 1, iv x1, iv 0] [] (mkH B (zu (zu (zu (zu s 1 6 (z43 x1 0 0)) 1 8 ((zz s 1 7) + 3)) 1 6 (z44 x1 0)) 1 8 ((zz s 1 7) + 2)) l) Q)))) ∧ (((zz s 1 7) + 2) < (zz s 1 3) → ((0 ≤ ((zz s 1 7) + 2) ∧ ((zz s 1 7) + 2) < 8000) ∧ (inR x1 ∧ (((z43 x1 0 (zz s 2 ((zz s 1 7) + 2).toNat)) ≠ (-1) → a_W d 42 67 [.ref 1, iv x1, iv 0] [] (mkH B (zu (zu s 1 6 (z43 x1 0 (zz s 2 ((zz s 1 7) + 2).toNat))) 1 8 ((zz s 1 7) + 3)) l) Q) ∧ ((z43 x1 0 (zz s 2 ((zz s 1 7) + 2).toNat)) = (-1) → a_W d 42 67 [.ref 1, iv x1, iv 0] [] (mkH B (zu (zu (zu (zu s 1 6 (z43 x1 0 (zz s 2 ((zz s 1 7) + 2).toNat))) 1 8 ((zz s 1 7) + 3)) 1 6 (z44 x1 0)) 1 8 ((zz s 1 7) + 2)) l) Q)))))))) ∧ (((zz s 1 7) + 1) < (zz s 1 3) → ((0 ≤ ((zz s 1 7) + 1) ∧ ((zz s 1 7) + 1) < 8000) ∧ (inR ((zz s 1 7) + 2) ∧ (((zz s 1 3) ≤ ((zz s 1 7) + 2) → (inR x1 ∧ (((z43 x1 (zz s 2 ((zz s 1 7) + 1).toNat) 0) ≠ (-1) → a_W d 42 67 [.ref 1, iv x1, iv (zz s 2 ((zz s 1 7) + 1).toNat)] [] (mkH B (zu (zu s 1 6 (z43 x1 (zz s 2 ((zz s 1 7) + 1).toNat) 0)) 1 8 ((zz s 1 7) + 3)) l) Q) ∧ ((z43 x1 (zz s 2 ((zz s 1 7) + 1).toNat) 0) = (-1) → a_W d 42 67 [.ref 1, iv x1, iv (zz s 2 ((zz s 1 7) + 1).toNat)] [] (mkH B (zu (zu (zu (zu s 1 6 (z43 x1 (zz s 2 ((zz s 1 7) + 1).toNat) 0)) 1 8 ((zz s 1 7) + 3)) 1 6 (z44 x1 (zz s 2 ((zz s 1 7) + 1).toNat))) 1 8 ((zz s 1 7) + 2)) l) Q)))) ∧ (((zz s 1 7) + 2) < (zz s 1 3) → ((0 ≤ ((zz s 1 7) + 2) ∧ ((zz s 1 7) + 2) < 8000) ∧ (inR x1 ∧ (((z43 x1 (zz s 2 ((zz s 1 7) + 1).toNat) (zz s 2 ((zz s 1 7) + 2).toNat)) ≠ (-1) → a_W d 42 67 [.ref 1, iv x1, iv (zz s 2 ((zz s 1 7) + 1).toNat)] [] (mkH B (zu (zu s 1 6 (z43 x1 (zz s 2 ((zz s 1 7) + 1).toNat) (zz s 2 ((zz s 1 7) + 2).toNat))) 1 8 ((zz s 1 7) + 3)) l) Q) ∧ ((z43 x1 (zz s 2 ((zz s 1 7) + 1).toNat) (zz s 2 ((zz s 1 7) + 2).toNat)) = (-1) → a_W d 42 67 [.ref 1, iv x1, iv (zz s 2 ((zz s 1 7) + 1).toNat)] [] (mkH B (zu (zu (zu (zu s 1 6 (z43 x1 (zz s 2 ((zz s 1 7) + 1).toNat) (zz s 2 ((zz s 1 7) + 2).toNat))) 1 8 ((zz s 1 7) + 3)) 1 6 (z44 x1 (zz s 2 ((zz s 1 7) + 1).toNat))) 1 8 ((zz s 1 7) + 2)) l) Q)))))))))))) : a_W d 42 0 [.ref 1, iv x1, .retAddr 0] [] (mkH B s l) Q := by
  refine w_aln (p := 1) (q42 0) rfl rfl ?_
  refine w_aln (p := 2) (q42 1) rfl rfl ?_
  refine w_gI (p := 5) (j := 7) (v := (zz s 1 7)) (q42 2) rfl (r1 hB) (by decide) (iv_zz s 1 7) ?_
  refine w_ic (p := 6) (q42 5) rfl ?_
  refine w_add (p := 7) (q42 6) rfl ?_
  refine w_call (st := []) (as := [.ref 1, iv ((zz s 1 7) + 1)]) (as' := [iv ((zz s 1 7) + 1), .ref 1]) (p := 10) (q42 7) rfl m37 (by decide) (a_ok_i rfl (r1 hB) rfl) rfl rfl (Nat.le_of_ble_eq_true rfl) (by omega) rfl rfl ?_
  refine w_iln (p := 1) (q37 0) rfl rfl ?_
  refine w_aln (p := 2) (q37 1) rfl rfl ?_
  refine w_gI (p := 5) (j := 3) (v := (zz s 1 3)) (q37 2) rfl (r1 hB) (by decide) (iv_zz s 1 3) ?_
  obtain ⟨h1, w⟩ := w
  by_cases c2 : (zz s 1 3) ≤ ((zz s 1 7) + 1)
  · replace w := w.1 c2
    refine w_i2t (q37 5) h1 (inR_zz _ _ _) c2 ?_
    refine w_ic (p := 18) (q37 17) rfl ?_
    refine w_ret (q37 18) rfl ⟨_, _, rfl, ?_⟩
    show a_W _ 42 10 [.ref 1, iv x1, .retAddr 0] [iv 0] _ _
    refine w_isn (p := 11) (ls' := [.ref 1, iv x1, iv 0]) (q42 10) rfl (Nat.le_of_ble_eq_true rfl) rfl ?_
    refine w_aln (p := 12) (q42 11) rfl rfl ?_
    refine w_iln (p := 13) (q42 12) rfl rfl ?_
    refine w_iln (p := 14) (q42 13) rfl rfl ?_
    refine w_aln (p := 15) (q42 14) rfl rfl ?_
    refine w_aln (p := 16) (q42 15) rfl rfl ?_
    refine w_gI (p := 19) (j := 7) (v := (zz s 1 7)) (q42 16) rfl (r1 hB) (by decide) (iv_zz s 1 7) ?_
    refine w_ic (p := 20) (q42 19) rfl ?_
    refine w_add (p := 21) (q42 20) rfl ?_
    refine w_call (st := [iv 0, iv x1, .ref 1]) (as := [.ref 1, iv ((zz s 1 7) + 2)]) (as' := [iv ((zz s 1 7) + 2), .ref 1]) (p := 24) (q42 21) rfl m37 (by decide) (a_ok_i rfl (r1 hB) rfl) rfl rfl (Nat.le_of_ble_eq_true rfl) (by omega) rfl rfl ?_
    refine w_iln (p := 1) (q37 0) rfl rfl ?_
    refine w_aln (p := 2) (q37 1) rfl rfl ?_
    refine w_gI (p := 5) (j := 3) (v := (zz s 1 3)) (q37 2) rfl (r1 hB) (by decide) (iv_zz s 1 3) ?_
    obtain ⟨h3, w⟩ := w
    by_cases c4 : (zz s 1 3) ≤ ((zz s 1 7) + 2)
    · replace w := w.1 c4
      refine w_i2t (q37 5) h3 (inR_zz _ _ _) c4 ?_
      refine w_ic (p := 18) (q37 17) rfl ?_
      refine w_ret (q37 18) rfl ⟨_, _, rfl, ?_⟩
      show a_W _ 42 24 [.ref 1, iv x1, iv 0] [iv 0, iv 0, iv x1, .ref 1] _ _
      obtain ⟨h5, w⟩ := w
      refine w_call (st := [.ref 1]) (as := [iv x1, iv 0, iv 0]) (as' := [iv 0, iv 0, iv x1]) (p := 27) (q42 24) rfl m43 (by decide) (a_ok_s rfl rfl) rfl rfl (Nat.le_of_ble_eq_true rfl) (by omega) rfl rfl (a_W.imp (p43 hB x1 0 0 _ _ h5 (by decide) (by decide)) ?_)
      rintro _ rfl
      refine ⟨_, _, rfl, ?_⟩
      show a_W _ 42 27 [.ref 1, iv x1, iv 0] [iv (z43 x1 0 0), .ref 1] _ _
      refine w_pI (p := 30) (j := 6) (q42 27) rfl (r1 hB) (by decide) rfl ?_
      refine w_aln (p := 31) (q42 30) rfl rfl ?_
      refine w_aln (p := 32) (q42 31) rfl rfl ?_
      refine w_gI (p := 35) (j := 7) (v := (zz s 1 7)) (q42 32) rfl (r1 hB) (by decide) (iv_zz s 1 7) ?_
      refine w_ic (p := 36) (q42 35) rfl ?_
      refine w_add (p := 37) (q42 36) rfl ?_
      refine w_pI (p := 40) (j := 8) (q42 37) rfl (r1 hB) (by decide) rfl ?_
      refine w_aln (p := 41) (q42 40) rfl rfl ?_
      refine w_gI (p := 44) (j := 6) (v := (z43 x1 0 0)) (q42 41) rfl (r1 hB) (by decide) rfl ?_
      refine w_ic (p := 45) (q42 44) rfl ?_
      by_cases c6 : (z43 x1 0 0) ≠ (-1)
      · replace w := w.1 c6
        refine w_i2t (q42 45) (inR_z43 _ _ _) (by decide) c6 ?_
        exact w
      · replace w := w.2 (Decidable.not_not.mp c6)
        refine w_i2f (p := 48) (q42 45) rfl (inR_z43 _ _ _) (by decide) c6 ?_
        refine w_aln (p := 49) (q42 48) rfl rfl ?_
        refine w_iln (p := 50) (q42 49) rfl rfl ?_
        refine w_iln (p := 51) (q42 50) rfl rfl ?_
        refine w_call (st := [.ref 1]) (as := [iv x1, iv 0]) (as' := [iv 0, iv x1]) (p := 54) (q42 51) rfl m44 (by decide) (a_ok_s rfl rfl) rfl rfl (Nat.le_of_ble_eq_true rfl) (by omega) rfl rfl (a_W.imp (p44 hB x1 0 _ _ h5 (by decide)) ?_)
        rintro _ rfl
        refine ⟨_, _, rfl, ?_⟩
        show a_W _ 42 54 [.ref 1, iv x1, iv 0] [iv (z44 x1 0), .ref 1] _ _
        refine w_pI (p := 57) (j := 6) (q42 54) rfl (r1 hB) (by decide) rfl ?_
        refine w_aln (p := 58) (q42 57) rfl rfl ?_
        refine w_aln (p := 59) (q42 58) rfl rfl ?_
        refine w_gI (p := 62) (j := 7) (v := (zz s 1 7)) (q42 59) rfl (r1 hB) (by decide) (iv_zz s 1 7) ?_
        refine w_ic (p := 63) (q42 62) rfl ?_
        refine w_add (p := 64) (q42 63) rfl ?_
        refine w_pI (p := 67) (j := 8) (q42 64) rfl (r1 hB) (by decide) rfl ?_
        exact w
    · replace w := w.2 (Int.not_le.mp c4)
      refine w_i2f (p := 8) (q37 5) rfl h3 (inR_zz _ _ _) c4 ?_
      refine w_aln (p := 9) (q37 8) rfl rfl ?_
      refine w_gR (p := 12) (j := 0) (v := 2) (q37 9) rfl (r1 hB) (by decide) (f1_0 hB) ?_
      refine w_iln (p := 13) (q37 12) rfl rfl ?_
      obtain ⟨o7, w⟩ := w
      refine w_ba (p := 14) (v := (zz s 2 ((zz s 1 7) + 2).toNat)) (q37 13) rfl (r2 hB) (by decide) o7 (iv_zz s 2 ((zz s 1 7) + 2).toNat) ?_
      refine w_goto (q37 14) ?_
      refine w_ret (q37 18) rfl ⟨_, _, rfl, ?_⟩
      show a_W _ 42 24 [.ref 1, iv x1, iv 0] [iv (zz s 2 ((zz s 1 7) + 2).toNat), iv 0, iv x1, .ref 1] _ _
      obtain ⟨h8, w⟩ := w
      refine w_call (st := [.ref 1]) (as := [iv x1, iv 0, iv (zz s 2 ((zz s 1 7) + 2).toNat)]) (as' := [iv (zz s 2 ((zz s 1 7) + 2).toNat), iv 0, iv x1]) (p := 27) (q42 24) rfl m43 (by decide) (a_ok_s rfl rfl) rfl rfl (Nat.le_of_ble_eq_true rfl) (by omega) rfl rfl (a_W.imp (p43 hB x1 0 (zz s 2 ((zz s 1 7) + 2).toNat) _ _ h8 (by decide) (inR_zz _ _ _)) ?_)
      rintro _ rfl
      refine ⟨_, _, rfl, ?_⟩
      show a_W _ 42 27 [.ref 1, iv x1, iv 0] [iv (z43 x1 0 (zz s 2 ((zz s 1 7) + 2).toNat)), .ref 1] _ _
      refine w_pI (p := 30) (j := 6) (q42 27) rfl (r1 hB) (by decide) rfl ?_
      refine w_aln (p := 31) (q42 30) rfl rfl ?_
      refine w_aln (p := 32) (q42 31) rfl rfl ?_
      refine w_gI (p := 35) (j := 7) (v := (zz s 1 7)) (q42 32) rfl (r1 hB) (by decide) (iv_zz s 1 7) ?_
      refine w_ic (p := 36) (q42 35) rfl ?_
      refine w_add (p := 37) (q42 36) rfl ?_
      refine w_pI (p := 40) (j := 8) (q42 37) rfl (r1 hB) (by decide) rfl ?_
      refine w_aln (p := 41) (q42 40) rfl rfl ?_
      refine w_gI (p := 44) (j := 6) (v := (z43 x1 0 (zz s 2 ((zz s 1 7) + 2).toNat))) (q42 41) rfl (r1 hB) (by decide) rfl ?_
      refine w_ic (p := 45) (q42 44) rfl ?_
      by_cases c9 : (z43 x1 0 (zz s 2 ((zz s 1 7) + 2).toNat)) ≠ (-1)
      · replace w := w.1 c9
        refine w_i2t (q42 45) (inR_z43 _ _ _) (by decide) c9 ?_
        exact w
      · replace w := w.2 (Decidable.not_not.mp c9)
        refine w_i2f (p := 48) (q42 45) rfl (inR_z43 _ _ _) (by decide) c9 ?_
        refine w_aln (p := 49) (q42 48) rfl rfl ?_
        refine w_iln (p := 50) (q42 49) rfl rfl ?_
        refine w_iln (p := 51) (q42 50) rfl rfl ?_
        refine w_call (st := [.ref 1]) (as := [iv x1, iv 0]) (as' := [iv 0, iv x1]) (p := 54) (q42 51) rfl m44 (by decide) (a_ok_s rfl rfl) rfl rfl (Nat.le_of_ble_eq_true rfl) (by omega) rfl rfl (a_W.imp (p44 hB x1 0 _ _ h8 (by decide)) ?_)
        rintro _ rfl
        refine ⟨_, _, rfl, ?_⟩
        show a_W _ 42 54 [.ref 1, iv x1, iv 0] [iv (z44 x1 0), .ref 1] _ _
        refine w_pI (p := 57) (j := 6) (q42 54) rfl (r1 hB) (by decide) rfl ?_
        refine w_aln (p := 58) (q42 57) rfl rfl ?_
        refine w_aln (p := 59) (q42 58) rfl rfl ?_
        refine w_gI (p := 62) (j := 7) (v := (zz s 1 7)) (q42 59) rfl (r1 hB) (by decide) (iv_zz s 1 7) ?_
        refine w_ic (p := 63) (q42 62) rfl ?_
        refine w_add (p := 64) (q42 63) rfl ?_
        refine w_pI (p := 67) (j := 8) (q42 64) rfl (r1 hB) (by decide) rfl ?_
        exact w
  · replace w := w.2 (Int.not_le.mp c2)
    refine w_i2f (p := 8) (q37 5) rfl h1 (inR_zz _ _ _) c2 ?_
    refine w_aln (p := 9) (q37 8) rfl rfl ?_
    refine w_gR (p := 12) (j := 0) (v := 2) (q37 9) rfl (r1 hB) (by decide) (f1_0 hB) ?_
    refine w_iln (p := 13) (q37 12) rfl rfl ?_
    obtain ⟨o10, w⟩ := w
    refine w_ba (p := 14) (v := (zz s 2 ((zz s 1 7) + 1).toNat)) (q37 13) rfl (r2 hB) (by decide) o10 (iv_zz s 2 ((zz s 1 7) + 1).toNat) ?_
    refine w_goto (q37 14) ?_
    refine w_ret (q37 18) rfl ⟨_, _, rfl, ?_⟩
    show a_W _ 42 10 [.ref 1, iv x1, .retAddr 0] [iv (zz s 2 ((zz s 1 7) + 1).toNat)] _ _
    refine w_isn (p := 11) (ls' := [.ref 1, iv x1, iv (zz s 2 ((zz s 1 7) + 1).toNat)]) (q42 10) rfl (Nat.le_of_ble_eq_true rfl) rfl ?_
    refine w_aln (p := 12) (q42 11) rfl rfl ?_
    refine w_iln (p := 13) (q42 12) rfl rfl ?_
    refine w_iln (p := 14) (q42 13) rfl rfl ?_
    refine w_aln (p := 15) (q42 14) rfl rfl ?_
    refine w_aln (p := 16) (q42 15) rfl rfl ?_
    refine w_gI (p := 19) (j := 7) (v := (zz s 1 7)) (q42 16) rfl (r1 hB) (by decide) (iv_zz s 1 7) ?_
    refine w_ic (p := 20) (q42 19) rfl ?_
    refine w_add (p := 21) (q42 20) rfl ?_
    refine w_call (st := [iv (zz s 2 ((zz s 1 7) + 1).toNat), iv x1, .ref 1]) (as := [.ref 1, iv ((zz s 1 7) + 2)]) (as' := [iv ((zz s 1 7) + 2), .ref 1]) (p := 24) (q42 21) rfl m37 (by decide) (a_ok_i rfl (r1 hB) rfl) rfl rfl (Nat.le_of_ble_eq_true rfl) (by omega) rfl rfl ?_
    refine w_iln (p := 1) (q37 0) rfl rfl ?_
    refine w_aln (p := 2) (q37 1) rfl rfl ?_
    refine w_gI (p := 5) (j := 3) (v := (zz s 1 3)) (q37 2) rfl (r1 hB) (by decide) (iv_zz s 1 3) ?_
    obtain ⟨h11, w⟩ := w
    by_cases c12 : (zz s 1 3) ≤ ((zz s 1 7) + 2)
    · replace w := w.1 c12
      refine w_i2t (q37 5) h11 (inR_zz _ _ _) c12 ?_
      refine w_ic (p := 18) (q37 17) rfl ?_
      refine w_ret (q37 18) rfl ⟨_, _, rfl, ?_⟩
      show a_W _ 42 24 [.ref 1, iv x1, iv (zz s 2 ((zz s 1 7) + 1).toNat)] [iv 0, iv (zz s 2 ((zz s 1 7) + 1).toNat), iv x1, .ref 1] _ _
      obtain ⟨h13, w⟩ := w
      refine w_call (st := [.ref 1]) (as := [iv x1, iv (zz s 2 ((zz s 1 7) + 1).toNat), iv 0]) (as' := [iv 0, iv (zz s 2 ((zz s 1 7) + 1).toNat), iv x1]) (p := 27) (q42 24) rfl m43 (by decide) (a_ok_s rfl rfl) rfl rfl (Nat.le_of_ble_eq_true rfl) (by omega) rfl rfl (a_W.imp (p43 hB x1 (zz s 2 ((zz s 1 7) + 1).toNat) 0 _ _ h13 (inR_zz _ _ _) (by decide)) ?_)
      rintro _ rfl
      refine ⟨_, _, rfl, ?_⟩
      show a_W _ 42 27 [.ref 1, iv x1, iv (zz s 2 ((zz s 1 7) + 1).toNat)] [iv (z43 x1 (zz s 2 ((zz s 1 7) + 1).toNat) 0), .ref 1] _ _
      refine w_pI (p := 30) (j := 6) (q42 27) rfl (r1 hB) (by decide) rfl ?_
      refine w_aln (p := 31) (q42 30) rfl rfl ?_
      refine w_aln (p := 32) (q42 31) rfl rfl ?_
      refine w_gI (p := 35) (j := 7) (v := (zz s 1 7)) (q42 32) rfl (r1 hB) (by decide) (iv_zz s 1 7) ?_
      refine w_ic (p := 36) (q42 35) rfl ?_
      refine w_add (p := 37) (q42 36) rfl ?_
      refine w_pI (p := 40) (j := 8) (q42 37) rfl (r1 hB) (by decide) rfl ?_
      refine w_aln (p := 41) (q42 40) rfl rfl ?_
      refine w_gI (p := 44) (j := 6) (v := (z43 x1 (zz s 2 ((zz s 1 7) + 1).toNat) 0)) (q42 41) rfl (r1 hB) (by decide) rfl ?_
      refine w_ic (p := 45) (q42 44) rfl ?_
      by_cases c14 : (z43 x1 (zz s 2 ((zz s 1 7) + 1).toNat) 0) ≠ (-1)
      · replace w := w.1 c14
        refine w_i2t (q42 45) (inR_z43 _ _ _) (by decide) c14 ?_
        exact w
      · replace w := w.2 (Decidable.not_not.mp c14)
        refine w_i2f (p := 48) (q42 45) rfl (inR_z43 _ _ _) (by decide) c14 ?_
        refine w_aln (p := 49) (q42 48) rfl rfl ?_
        refine w_iln (p := 50) (q42 49) rfl rfl ?_
        refine w_iln (p := 51) (q42 50) rfl rfl ?_
        refine w_call (st := [.ref 1]) (as := [iv x1, iv (zz s 2 ((zz s 1 7) + 1).toNat)]) (as' := [iv (zz s 2 ((zz s 1 7) + 1).toNat), iv x1]) (p := 54) (q42 51) rfl m44 (by decide) (a_ok_s rfl rfl) rfl rfl (Nat.le_of_ble_eq_true rfl) (by omega) rfl rfl (a_W.imp (p44 hB x1 (zz s 2 ((zz s 1 7) + 1).toNat) _ _ h13 (inR_zz _ _ _)) ?_)
        rintro _ rfl
        refine ⟨_, _, rfl, ?_⟩
        show a_W _ 42 54 [.ref 1, iv x1, iv (zz s 2 ((zz s 1 7) + 1).toNat)] [iv (z44 x1 (zz s 2 ((zz s 1 7) + 1).toNat)), .ref 1] _ _
        refine w_pI (p := 57) (j := 6) (q42 54) rfl (r1 hB) (by decide) rfl ?_
        refine w_aln (p := 58) (q42 57) rfl rfl ?_
        refine w_aln (p := 59) (q42 58) rfl rfl ?_
        refine w_gI (p := 62) (j := 7) (v := (zz s 1 7)) (q42 59) rfl (r1 hB) (by decide) (iv_zz s 1 7) ?_
        refine w_ic (p := 63) (q42 62) rfl ?_
        refine w_add (p := 64) (q42 63) rfl ?_
        refine w_pI (p := 67) (j := 8) (q42 64) rfl (r1 hB) (by decide) rfl ?_
        exact w
    · replace w := w.2 (Int.not_le.mp c12)
      refine w_i2f (p := 8) (q37 5) rfl h11 (inR_zz _ _ _) c12 ?_
      refine w_aln (p := 9) (q37 8) rfl rfl ?_
      refine w_gR (p := 12) (j := 0) (v := 2) (q37 9) rfl (r1 hB) (by decide) (f1_0 hB) ?_
      refine w_iln (p := 13) (q37 12) rfl rfl ?_
      obtain ⟨o15, w⟩ := w
      refine w_ba (p := 14) (v := (zz s 2 ((zz s 1 7) + 2).toNat)) (q37 13) rfl (r2 hB) (by decide) o15 (iv_zz s 2 ((zz s 1 7) + 2).toNat) ?_
      refine w_goto (q37 14) ?_
      refine w_ret (q37 18) rfl ⟨_, _, rfl, ?_⟩
      show a_W _ 42 24 [.ref 1, iv x1, iv (zz s 2 ((zz s 1 7) + 1).toNat)] [iv (zz s 2 ((zz s 1 7) + 2).toNat), iv (zz s 2 ((zz s 1 7) + 1).toNat), iv x1, .ref 1] _ _
      obtain ⟨h16, w⟩ := w
      refine w_call (st := [.ref 1]) (as := [iv x1, iv (zz s 2 ((zz s 1 7) + 1).toNat), iv (zz s 2 ((zz s 1 7) + 2).toNat)]) (as' := [iv (zz s 2 ((zz s 1 7) + 2).toNat), iv (zz s 2 ((zz s 1 7) + 1).toNat), iv x1]) (p := 27) (q42 24) rfl m43 (by decide) (a_ok_s rfl rfl) rfl rfl (Nat.le_of_ble_eq_true rfl) (by omega) rfl rfl (a_W.imp (p43 hB x1 (zz s 2 ((zz s 1 7) + 1).toNat) (zz s 2 ((zz s 1 7) + 2).toNat) _ _ h16 (inR_zz _ _ _) (inR_zz _ _ _)) ?_)
      rintro _ rfl
      refine ⟨_, _, rfl, ?_⟩
      show a_W _ 42 27 [.ref 1, iv x1, iv (zz s 2 ((zz s 1 7) + 1).toNat)] [iv (z43 x1 (zz s 2 ((zz s 1 7) + 1).toNat) (zz s 2 ((zz s 1 7) + 2).toNat)), .ref 1] _ _
      refine w_pI (p := 30) (j := 6) (q42 27) rfl (r1 hB) (by decide) rfl ?_
      refine w_aln (p := 31) (q42 30) rfl rfl ?_
      refine w_aln (p := 32) (q42 31) rfl rfl ?_
      refine w_gI (p := 35) (j := 7) (v := (zz s 1 7)) (q42 32) rfl (r1 hB) (by decide) (iv_zz s 1 7) ?_
      refine w_ic (p := 36) (q42 35) rfl ?_
      refine w_add (p := 37) (q42 36) rfl ?_
      refine w_pI (p := 40) (j := 8) (q42 37) rfl (r1 hB) (by decide) rfl ?_
      refine w_aln (p := 41) (q42 40) rfl rfl ?_
      refine w_gI (p := 44) (j := 6) (v := (z43 x1 (zz s 2 ((zz s 1 7) + 1).toNat) (zz s 2 ((zz s 1 7) + 2).toNat))) (q42 41) rfl (r1 hB) (by decide) rfl ?_
      refine w_ic (p := 45) (q42 44) rfl ?_
      by_cases c17 : (z43 x1 (zz s 2 ((zz s 1 7) + 1).toNat) (zz s 2 ((zz s 1 7) + 2).toNat)) ≠ (-1)
      · replace w := w.1 c17
        refine w_i2t (q42 45) (inR_z43 _ _ _) (by decide) c17 ?_
        exact w
      · replace w := w.2 (Decidable.not_not.mp c17)
        refine w_i2f (p := 48) (q42 45) rfl (inR_z43 _ _ _) (by decide) c17 ?_
        refine w_aln (p := 49) (q42 48) rfl rfl ?_
        refine w_iln (p := 50) (q42 49) rfl rfl ?_
        refine w_iln (p := 51) (q42 50) rfl rfl ?_
        refine w_call (st := [.ref 1]) (as := [iv x1, iv (zz s 2 ((zz s 1 7) + 1).toNat)]) (as' := [iv (zz s 2 ((zz s 1 7) + 1).toNat), iv x1]) (p := 54) (q42 51) rfl m44 (by decide) (a_ok_s rfl rfl) rfl rfl (Nat.le_of_ble_eq_true rfl) (by omega) rfl rfl (a_W.imp (p44 hB x1 (zz s 2 ((zz s 1 7) + 1).toNat) _ _ h16 (inR_zz _ _ _)) ?_)
        rintro _ rfl
        refine ⟨_, _, rfl, ?_⟩
        show a_W _ 42 54 [.ref 1, iv x1, iv (zz s 2 ((zz s 1 7) + 1).toNat)] [iv (z44 x1 (zz s 2 ((zz s 1 7) + 1).toNat)), .ref 1] _ _
        refine w_pI (p := 57) (j := 6) (q42 54) rfl (r1 hB) (by decide) rfl ?_
        refine w_aln (p := 58) (q42 57) rfl rfl ?_
        refine w_aln (p := 59) (q42 58) rfl rfl ?_
        refine w_gI (p := 62) (j := 7) (v := (zz s 1 7)) (q42 59) rfl (r1 hB) (by decide) (iv_zz s 1 7) ?_
        refine w_ic (p := 63) (q42 62) rfl ?_
        refine w_add (p := 64) (q42 63) rfl ?_
        refine w_pI (p := 67) (j := 8) (q42 64) rfl (r1 hB) (by decide) rfl ?_
        exact w
theorem w42_67 {d : Nat} {B : aH} {Q : aR → Prop} (hB : a_Can B) (hd : 1 ≤ d) (x1 x2 : Int) (s : Nat → Nat → Int32) (l : Nat → Nat → Int64) (w : (((zz s 1 6) ≠ (-1) → a_W d 42 93 [.ref 1, iv x1, iv x2] [] (mkH B s l) Q) ∧ ((zz s 1 6) = (-1) → (inR x1 ∧ a_W d 42 93 [.ref 1, iv x1, iv x2] [] (mkH B (zu (zu s 1 6 (z45 x1)) 1 8 ((zz s 1 7) + 1)) l) Q)))) : a_W d 42 67 [.ref 1, iv x1, iv x2] [] (mkH B s l) Q := by
  refine w_aln (p := 68) (q42 67) rfl rfl ?_
  refine w_gI (p := 71) (j := 6) (v := (zz s 1 6)) (q42 68) rfl (r1 hB) (by decide) (iv_zz s 1 6) ?_
  refine w_ic (p := 72) (q42 71) rfl ?_
  by_cases c1 : (zz s 1 6) ≠ (-1)
  · replace w := w.1 c1
    refine w_i2t (q42 72) (inR_zz _ _ _) (by decide) c1 ?_
    exact w
  · replace w := w.2 (Decidable.not_not.mp c1)
    refine w_i2f (p := 75) (q42 72) rfl (inR_zz _ _ _) (by decide) c1 ?_
    refine w_aln (p := 76) (q42 75) rfl rfl ?_
    refine w_iln (p := 77) (q42 76) rfl rfl ?_
    obtain ⟨h2, w⟩ := w
    refine w_call (st := [.ref 1]) (as := [iv x1]) (as' := [iv x1]) (p := 80) (q42 77) rfl m45 (by decide) (a_ok_s rfl rfl) rfl rfl (Nat.le_of_ble_eq_true rfl) (by omega) rfl rfl (a_W.imp (p45 hB x1 _ _ h2) ?_)
    rintro _ rfl
    refine ⟨_, _, rfl, ?_⟩
    show a_W _ 42 80 [.ref 1, iv x1, iv x2] [iv (z45 x1), .ref 1] _ _
    refine w_pI (p := 83) (j := 6) (q42 80) rfl (r1 hB) (by decide) rfl ?_
    refine w_aln (p := 84) (q42 83) rfl rfl ?_
    refine w_aln (p := 85) (q42 84) rfl rfl ?_
    refine w_gI (p := 88) (j := 7) (v := (zz s 1 7)) (q42 85) rfl (r1 hB) (by decide) (iv_zz s 1 7) ?_
    refine w_ic (p := 89) (q42 88) rfl ?_
    refine w_add (p := 90) (q42 89) rfl ?_
    refine w_pI (p := 93) (j := 8) (q42 90) rfl (r1 hB) (by decide) rfl ?_
    exact w
theorem w42_93 {d : Nat} {B : aH} {Q : aR → Prop} (hB : a_Can B) (hd : 2 ≤ d) (x1 x2 : Int) (s : Nat → Nat → Int32) (l : Nat → Nat → Int64) (w : (((zz s 1 6) ≠ (-1) → a_W d 42 106 [.ref 1, iv x1, iv x2] [] (mkH B s l) Q) ∧ ((zz s 1 6) = (-1) → (((zz s 1 10) ≠ 0 → a_W d 42 106 [.ref 1, iv x1, iv x2] [] (mkH B s l) Q) ∧ ((zz s 1 10) = 0 → a_W d 42 106 [.ref 1, iv x1, iv x2] [] (mkH B (zu (zu (zu s 1 10 1) 1 11 (zz s 1 7)) 1 6 0) l) Q))))) : a_W d 42 93 [.ref 1, iv x1, iv x2] [] (mkH B s l) Q := by
  refine w_aln (p := 94) (q42 93) rfl rfl ?_
  refine w_gI (p := 97) (j := 6) (v := (zz s 1 6)) (q42 94) rfl (r1 hB) (by decide) (iv_zz s 1 6) ?_
  refine w_ic (p := 98) (q42 97) rfl ?_
  by_cases c1 : (zz s 1 6) ≠ (-1)
  · replace w := w.1 c1
    refine w_i2t (q42 98) (inR_zz _ _ _) (by decide) c1 ?_
    exact w
  · replace w := w.2 (Decidable.not_not.mp c1)
    refine w_i2f (p := 101) (q42 98) rfl (inR_zz _ _ _) (by decide) c1 ?_
    refine w_aln (p := 102) (q42 101) rfl rfl ?_
    refine w_ic (p := 103) (q42 102) rfl ?_
    refine w_call (st := []) (as := [.ref 1, iv 1]) (as' := [iv 1, .ref 1]) (p := 106) (q42 103) rfl m28 (by decide) (a_ok_i rfl (r1 hB) rfl) rfl rfl (Nat.le_of_ble_eq_true rfl) (by omega) rfl rfl ?_
    refine w_aln (p := 1) (q28 0) rfl rfl ?_
    refine w_iln (p := 2) (q28 1) rfl rfl ?_
    refine w_aln (p := 3) (q28 2) rfl rfl ?_
    refine w_gI (p := 6) (j := 7) (v := (zz s 1 7)) (q28 3) rfl (r1 hB) (by decide) (iv_zz s 1 7) ?_
    refine w_call (st := []) (as := [.ref 1, iv 1, iv (zz s 1 7)]) (as' := [iv (zz s 1 7), iv 1, .ref 1]) (p := 9) (q28 6) rfl m29 (by decide) (a_ok_i rfl (r1 hB) rfl) rfl rfl (Nat.le_of_ble_eq_true rfl) (by omega) rfl rfl ?_
    refine w_aln (p := 1) (q29 0) rfl rfl ?_
    refine w_gI (p := 4) (j := 10) (v := (zz s 1 10)) (q29 1) rfl (r1 hB) (by decide) (iv_zz s 1 10) ?_
    by_cases c2 : (zz s 1 10) ≠ 0
    · replace w := w.1 c2
      refine w_i1t (q29 4) (inR_zz _ _ _) c2 ?_
      refine w_rv (q29 22) rfl ⟨_, _, rfl, ?_⟩
      show a_W _ 28 9 [.ref 1, iv 1] [] _ _
      refine w_rv (q28 9) rfl ⟨_, _, rfl, ?_⟩
      show a_W _ 42 106 [.ref 1, iv x1, iv x2] [] _ _
      exact w
    · replace w := w.2 (Decidable.not_not.mp c2)
      refine w_i1f (p := 7) (q29 4) rfl (inR_zz _ _ _) c2 ?_
      refine w_aln (p := 8) (q29 7) rfl rfl ?_
      refine w_iln (p := 9) (q29 8) rfl rfl ?_
      refine w_pI (p := 12) (j := 10) (q29 9) rfl (r1 hB) (by decide) rfl ?_
      refine w_aln (p := 13) (q29 12) rfl rfl ?_
      refine w_iln (p := 14) (q29 13) rfl rfl ?_
      refine w_pI (p := 17) (j := 11) (q29 14) rfl (r1 hB) (by decide) rfl ?_
      refine w_aln (p := 18) (q29 17) rfl rfl ?_
      refine w_ic (p := 19) (q29 18) rfl ?_
      refine w_pI (p := 22) (j := 6) (q29 19) rfl (r1 hB) (by decide) rfl ?_
      refine w_rv (q29 22) rfl ⟨_, _, rfl, ?_⟩
      show a_W _ 28 9 [.ref 1, iv 1] [] _ _
      refine w_rv (q28 9) rfl ⟨_, _, rfl, ?_⟩
      show a_W _ 42 106 [.ref 1, iv x1, iv x2] [] _ _
      exact w
theorem w42_106 {d : Nat} {B : aH} {Q : aR → Prop} (hB : a_Can B) (x1 x2 : Int) (s : Nat → Nat → Int32) (l : Nat → Nat → Int64) (w : Q (.inl none, (mkH B s l))) : a_W d 42 106 [.ref 1, iv x1, iv x2] [] (mkH B s l) Q := by
  exact w_rv (q42 106) rfl w
theorem w32_0 {d : Nat} {B : aH} {Q : aR → Prop} (hB : a_Can B) (hd : 2 ≤ d) (s : Nat → Nat → Int32) (l : Nat → Nat → Int64) (w : a_W (d - 1) 33 0 [.ref 1, iv (zz s 1 7), .retAddr 0] [] (mkH B s l) (fun r => ∃ (v3 : Int) (s1 : Nat → Nat → Int32) (l2 : Nat → Nat → Int64), r = (.inl (some (iv v3)), mkH B s1 l2) ∧ a_W (d - 1) 35 0 [.ref 1, .retAddr 0, .retAddr 0] [] (mkH B (zu s1 1 8 v3) l2) (fun r => ∃ (v6 : Int) (s4 : Nat → Nat → Int32) (l5 : Nat → Nat → Int64), r = (.inl (some (iv v6)), mkH B s4 l5) ∧ (inR v6 ∧ ((v6 = 0 → (inR ((zz s4 1 8) - (zz s4 1 7)) ∧ ((((zz s4 1 8) - (zz s4 1 7)) ≤ 24 → Q (.inl none, (mkH B (zu s4 1 6 1) l5))) ∧ (24 < ((zz s4 1 8) - (zz s4 1 7)) → (((zz s4 1 10) ≠ 0 → Q (.inl none, (mkH B (zu s4 1 6 1) l5))) ∧ ((zz s4 1 10) = 0 → Q (.inl none, (mkH B (zu (zu (zu (zu s4 1 6 1) 1 10 8) 1 11 (zz s4 1 7)) 1 6 0) l5)))))))) ∧ (v6 ≠ 0 → (inR ((zz s4 1 8) - (zz s4 1 7)) ∧ ((((zz s4 1 8) - (zz s4 1 7)) ≤ 24 → Q (.inl none, (mkH B (zu s4 1 6 23) l5))) ∧ (24 < ((zz s4 1 8) - (zz s4 1 7)) → (((zz s4 1 10) ≠ 0 → Q (.inl none, (mkH B (zu s4 1 6 23) l5))) ∧ ((zz s4 1 10) = 0 → Q (.inl none, (mkH B (zu (zu (zu (zu s4 1 6 23) 1 10 8) 1 11 (zz s4 1 7)) 1 6 0) l5))))))))))))) : a_W d 32 0 [.ref 1] [] (mkH B s l) Q := by
  refine w_aln (p := 1) (q32 0) rfl rfl ?_
  refine w_aln (p := 2) (q32 1) rfl rfl ?_
  refine w_aln (p := 3) (q32 2) rfl rfl ?_
  refine w_gI (p := 6) (j := 7) (v := (zz s 1 7)) (q32 3) rfl (r1 hB) (by decide) (iv_zz s 1 7) ?_
  refine w_call (st := [.ref 1]) (as := [.ref 1, iv (zz s 1 7)]) (as' := [iv (zz s 1 7), .ref 1]) (p := 9) (q32 6) rfl m33 (by decide) (a_ok_i rfl (r1 hB) rfl) rfl rfl (Nat.le_of_ble_eq_true rfl) (by omega) rfl rfl (a_W.imp w ?_)
  rintro _ ⟨v3, s1, l2, rfl, w⟩
  refine ⟨some (iv v3), _, rfl, ?_⟩
  show a_W _ 32 9 [.ref 1] [iv v3, .ref 1] (mkH B s1 l2) _
  refine w_pI (p := 12) (j := 8) (q32 9) rfl (r1 hB) (by decide) rfl ?_
  refine w_aln (p := 13) (q32 12) rfl rfl ?_
  refine w_aln (p := 14) (q32 13) rfl rfl ?_
  refine w_call (st := [.ref 1]) (as := [.ref 1]) (as' := [.ref 1]) (p := 17) (q32 14) rfl m35 (by decide) (a_ok_i rfl (r1 hB) rfl) rfl rfl (Nat.le_of_ble_eq_true rfl) (by omega) rfl rfl (a_W.imp w ?_)
  rintro _ ⟨v6, s4, l5, rfl, w⟩
  refine ⟨some (iv v6), _, rfl, ?_⟩
  show a_W _ 32 17 [.ref 1] [iv v6, .ref 1] (mkH B s4 l5) _
  obtain ⟨h7, w⟩ := w
  by_cases c8 : v6 = 0
  · replace w := w.1 c8
    refine w_i1t (q32 17) h7 c8 ?_
    refine w_ic (p := 26) (q32 25) rfl ?_
    refine w_pI (p := 29) (j := 6) (q32 26) rfl (r1 hB) (by decide) rfl ?_
    refine w_aln (p := 30) (q32 29) rfl rfl ?_
    refine w_gI (p := 33) (j := 8) (v := (zz s4 1 8)) (q32 30) rfl (r1 hB) (by decide) (iv_zz s4 1 8) ?_
    refine w_aln (p := 34) (q32 33) rfl rfl ?_
    refine w_gI (p := 37) (j := 7) (v := (zz s4 1 7)) (q32 34) rfl (r1 hB) (by decide) (iv_zz s4 1 7) ?_
    refine w_sub (p := 38) (q32 37) rfl ?_
    refine w_bp (p := 40) (q32 38) rfl (by decide) ?_
    obtain ⟨h9, w⟩ := w
    by_cases c10 : ((zz s4 1 8) - (zz s4 1 7)) ≤ 24
    · replace w := w.1 c10
      refine w_i2t (q32 40) h9 (by decide) c10 ?_
      exact w_rv (q32 49) rfl w
    · replace w := w.2 (Int.not_le.mp c10)
      refine w_i2f (p := 43) (q32 40) rfl h9 (by decide) c10 ?_
      refine w_aln (p := 44) (q32 43) rfl rfl ?_
      refine w_bp (p := 46) (q32 44) rfl (by decide) ?_
      refine w_call (st := []) (as := [.ref 1, iv 8]) (as' := [iv 8, .ref 1]) (p := 49) (q32 46) rfl m28 (by decide) (a_ok_i rfl (r1 hB) rfl) rfl rfl (Nat.le_of_ble_eq_true rfl) (by omega) rfl rfl ?_
      refine w_aln (p := 1) (q28 0) rfl rfl ?_
      refine w_iln (p := 2) (q28 1) rfl rfl ?_
      refine w_aln (p := 3) (q28 2) rfl rfl ?_
      refine w_gI (p := 6) (j := 7) (v := (zz s4 1 7)) (q28 3) rfl (r1 hB) (by decide) (iv_zz s4 1 7) ?_
      refine w_call (st := []) (as := [.ref 1, iv 8, iv (zz s4 1 7)]) (as' := [iv (zz s4 1 7), iv 8, .ref 1]) (p := 9) (q28 6) rfl m29 (by decide) (a_ok_i rfl (r1 hB) rfl) rfl rfl (Nat.le_of_ble_eq_true rfl) (by omega) rfl rfl ?_
      refine w_aln (p := 1) (q29 0) rfl rfl ?_
      refine w_gI (p := 4) (j := 10) (v := (zz s4 1 10)) (q29 1) rfl (r1 hB) (by decide) (iv_zz s4 1 10) ?_
      by_cases c11 : (zz s4 1 10) ≠ 0
      · replace w := w.1 c11
        refine w_i1t (q29 4) (inR_zz _ _ _) c11 ?_
        refine w_rv (q29 22) rfl ⟨_, _, rfl, ?_⟩
        show a_W _ 28 9 [.ref 1, iv 8] [] _ _
        refine w_rv (q28 9) rfl ⟨_, _, rfl, ?_⟩
        show a_W _ 32 49 [.ref 1] [] _ _
        exact w_rv (q32 49) rfl w
      · replace w := w.2 (Decidable.not_not.mp c11)
        refine w_i1f (p := 7) (q29 4) rfl (inR_zz _ _ _) c11 ?_
        refine w_aln (p := 8) (q29 7) rfl rfl ?_
        refine w_iln (p := 9) (q29 8) rfl rfl ?_
        refine w_pI (p := 12) (j := 10) (q29 9) rfl (r1 hB) (by decide) rfl ?_
        refine w_aln (p := 13) (q29 12) rfl rfl ?_
        refine w_iln (p := 14) (q29 13) rfl rfl ?_
        refine w_pI (p := 17) (j := 11) (q29 14) rfl (r1 hB) (by decide) rfl ?_
        refine w_aln (p := 18) (q29 17) rfl rfl ?_
        refine w_ic (p := 19) (q29 18) rfl ?_
        refine w_pI (p := 22) (j := 6) (q29 19) rfl (r1 hB) (by decide) rfl ?_
        refine w_rv (q29 22) rfl ⟨_, _, rfl, ?_⟩
        show a_W _ 28 9 [.ref 1, iv 8] [] _ _
        refine w_rv (q28 9) rfl ⟨_, _, rfl, ?_⟩
        show a_W _ 32 49 [.ref 1] [] _ _
        exact w_rv (q32 49) rfl w
  · replace w := w.2 c8
    refine w_i1f (p := 20) (q32 17) rfl h7 c8 ?_
    refine w_bp (p := 22) (q32 20) rfl (by decide) ?_
    refine w_goto (q32 22) ?_
    refine w_pI (p := 29) (j := 6) (q32 26) rfl (r1 hB) (by decide) rfl ?_
    refine w_aln (p := 30) (q32 29) rfl rfl ?_
    refine w_gI (p := 33) (j := 8) (v := (zz s4 1 8)) (q32 30) rfl (r1 hB) (by decide) (iv_zz s4 1 8) ?_
    refine w_aln (p := 34) (q32 33) rfl rfl ?_
    refine w_gI (p := 37) (j := 7) (v := (zz s4 1 7)) (q32 34) rfl (r1 hB) (by decide) (iv_zz s4 1 7) ?_
    refine w_sub (p := 38) (q32 37) rfl ?_
    refine w_bp (p := 40) (q32 38) rfl (by decide) ?_
    obtain ⟨h12, w⟩ := w
    by_cases c13 : ((zz s4 1 8) - (zz s4 1 7)) ≤ 24
    · replace w := w.1 c13
      refine w_i2t (q32 40) h12 (by decide) c13 ?_
      exact w_rv (q32 49) rfl w
    · replace w := w.2 (Int.not_le.mp c13)
      refine w_i2f (p := 43) (q32 40) rfl h12 (by decide) c13 ?_
      refine w_aln (p := 44) (q32 43) rfl rfl ?_
      refine w_bp (p := 46) (q32 44) rfl (by decide) ?_
      refine w_call (st := []) (as := [.ref 1, iv 8]) (as' := [iv 8, .ref 1]) (p := 49) (q32 46) rfl m28 (by decide) (a_ok_i rfl (r1 hB) rfl) rfl rfl (Nat.le_of_ble_eq_true rfl) (by omega) rfl rfl ?_
      refine w_aln (p := 1) (q28 0) rfl rfl ?_
      refine w_iln (p := 2) (q28 1) rfl rfl ?_
      refine w_aln (p := 3) (q28 2) rfl rfl ?_
      refine w_gI (p := 6) (j := 7) (v := (zz s4 1 7)) (q28 3) rfl (r1 hB) (by decide) (iv_zz s4 1 7) ?_
      refine w_call (st := []) (as := [.ref 1, iv 8, iv (zz s4 1 7)]) (as' := [iv (zz s4 1 7), iv 8, .ref 1]) (p := 9) (q28 6) rfl m29 (by decide) (a_ok_i rfl (r1 hB) rfl) rfl rfl (Nat.le_of_ble_eq_true rfl) (by omega) rfl rfl ?_
      refine w_aln (p := 1) (q29 0) rfl rfl ?_
      refine w_gI (p := 4) (j := 10) (v := (zz s4 1 10)) (q29 1) rfl (r1 hB) (by decide) (iv_zz s4 1 10) ?_
      by_cases c14 : (zz s4 1 10) ≠ 0
      · replace w := w.1 c14
        refine w_i1t (q29 4) (inR_zz _ _ _) c14 ?_
        refine w_rv (q29 22) rfl ⟨_, _, rfl, ?_⟩
        show a_W _ 28 9 [.ref 1, iv 8] [] _ _
        refine w_rv (q28 9) rfl ⟨_, _, rfl, ?_⟩
        show a_W _ 32 49 [.ref 1] [] _ _
        exact w_rv (q32 49) rfl w
      · replace w := w.2 (Decidable.not_not.mp c14)
        refine w_i1f (p := 7) (q29 4) rfl (inR_zz _ _ _) c14 ?_
        refine w_aln (p := 8) (q29 7) rfl rfl ?_
        refine w_iln (p := 9) (q29 8) rfl rfl ?_
        refine w_pI (p := 12) (j := 10) (q29 9) rfl (r1 hB) (by decide) rfl ?_
        refine w_aln (p := 13) (q29 12) rfl rfl ?_
        refine w_iln (p := 14) (q29 13) rfl rfl ?_
        refine w_pI (p := 17) (j := 11) (q29 14) rfl (r1 hB) (by decide) rfl ?_
        refine w_aln (p := 18) (q29 17) rfl rfl ?_
        refine w_ic (p := 19) (q29 18) rfl ?_
        refine w_pI (p := 22) (j := 6) (q29 19) rfl (r1 hB) (by decide) rfl ?_
        refine w_rv (q29 22) rfl ⟨_, _, rfl, ?_⟩
        show a_W _ 28 9 [.ref 1, iv 8] [] _ _
        refine w_rv (q28 9) rfl ⟨_, _, rfl, ?_⟩
        show a_W _ 32 49 [.ref 1] [] _ _
        exact w_rv (q32 49) rfl w
theorem w36_0 {d : Nat} {B : aH} {Q : aR → Prop} (hB : a_Can B) (hd : 2 ≤ d) (s : Nat → Nat → Int32) (l : Nat → Nat → Int64) (w : (inR ((zz s 1 7) + 1) ∧ (((zz s 1 3) ≤ ((zz s 1 7) + 1) → (((z31 0) ≠ 0 → a_W (d - 1) 33 0 [.ref 1, iv ((zz s 1 7) + 1), .retAddr 0] [] (mkH B s l) (fun r => ∃ (v6 : Int) (s4 : Nat → Nat → Int32) (l5 : Nat → Nat → Int64), r = (.inl (some (iv v6)), mkH B s4 l5) ∧ (inR (v6 - ((zz s 1 7) + 1)) ∧ (((v6 - ((zz s 1 7) + 1)) ≤ 24 → a_W (d - 1) 39 0 [.ref 3, .ref 2, iv ((zz s 1 7) + 1), iv v6, .retAddr 0, .retAddr 0] [] (mkH B (zu (zu s4 1 8 v6) 1 6 2) l5) (fun r => ∃ (v11 : Int) (s9 : Nat → Nat → Int32) (l10 : Nat → Nat → Int64), r = (.inl (some (iv v11)), mkH B s9 l10) ∧ (inR v11 ∧ ((0 ≤ v11 → Q (.inl none, (mkH B (zu s9 1 9 v11) l10))) ∧ (v11 < 0 → a_W (d - 1) 5 0 [.ref 3, .ref 2, iv ((zz s 1 7) + 1), iv (zz s9 1 8), .retAddr 0, .retAddr 0] [] (mkH B (zu s9 1 9 v11) l10) (fun r => ∃ (v16 : Int) (s14 : Nat → Nat → Int32) (l15 : Nat → Nat → Int64), r = (.inl (some (iv v16)), mkH B s14 l15) ∧ Q (.inl none, (mkH B (zu s14 1 9 v16) l15)))))))) ∧ (24 < (v6 - ((zz s 1 7) + 1)) → (((zz s4 1 10) ≠ 0 → Q (.inl none, (mkH B (zu (zu s4 1 8 v6) 1 6 2) l5))) ∧ ((zz s4 1 10) = 0 → Q (.inl none, (mkH B (zu (zu (zu (zu (zu s4 1 8 v6) 1 6 2) 1 10 8) 1 11 (zz s4 1 7)) 1 6 0) l5))))))))) ∧ ((z31 0) = 0 → (((zz s 1 10) ≠ 0 → Q (.inl none, (mkH B s l))) ∧ ((zz s 1 10) = 0 → Q (.inl none, (mkH B (zu (zu (zu s 1 10 1) 1 11 (zz s 1 7)) 1 6 0) l))))))) ∧ (((zz s 1 7) + 1) < (zz s 1 3) → ((0 ≤ ((zz s 1 7) + 1) ∧ ((zz s 1 7) + 1) < 8000) ∧ (((z31 (zz s 2 ((zz s 1 7) + 1).toNat)) ≠ 0 → a_W (d - 1) 33 0 [.ref 1, iv ((zz s 1 7) + 1), .retAddr 0] [] (mkH B s l) (fun r => ∃ (v23 : Int) (s21 : Nat → Nat → Int32) (l22 : Nat → Nat → Int64), r = (.inl (some (iv v23)), mkH B s21 l22) ∧ (inR (v23 - ((zz s 1 7) + 1)) ∧ (((v23 - ((zz s 1 7) + 1)) ≤ 24 → a_W (d - 1) 39 0 [.ref 3, .ref 2, iv ((zz s 1 7) + 1), iv v23, .retAddr 0, .retAddr 0] [] (mkH B (zu (zu s21 1 8 v23) 1 6 2) l22) (fun r => ∃ (v28 : Int) (s26 : Nat → Nat → Int32) (l27 : Nat → Nat → Int64), r = (.inl (some (iv v28)), mkH B s26 l27) ∧ (inR v28 ∧ ((0 ≤ v28 → Q (.inl none, (mkH B (zu s26 1 9 v28) l27))) ∧ (v28 < 0 → a_W (d - 1) 5 0 [.ref 3, .ref 2, iv ((zz s 1 7) + 1), iv (zz s26 1 8), .retAddr 0, .retAddr 0] [] (mkH B (zu s26 1 9 v28) l27) (fun r => ∃ (v33 : Int) (s31 : Nat → Nat → Int32) (l32 : Nat → Nat → Int64), r = (.inl (some (iv v33)), mkH B s31 l32) ∧ Q (.inl none, (mkH B (zu s31 1 9 v33) l32)))))))) ∧ (24 < (v23 - ((zz s 1 7) + 1)) → (((zz s21 1 10) ≠ 0 → Q (.inl none, (mkH B (zu (zu s21 1 8 v23) 1 6 2) l22))) ∧ ((zz s21 1 10) = 0 → Q (.inl none, (mkH B (zu (zu (zu (zu (zu s21 1 8 v23) 1 6 2) 1 10 8) 1 11 (zz s21 1 7)) 1 6 0) l22))))))))) ∧ ((z31 (zz s 2 ((zz s 1 7) + 1).toNat)) = 0 → (((zz s 1 10) ≠ 0 → Q (.inl none, (mkH B s l))) ∧ ((zz s 1 10) = 0 → Q (.inl none, (mkH B (zu (zu (zu s 1 10 1) 1 11 (zz s 1 7)) 1 6 0) l))))))))))) : a_W d 36 0 [.ref 1, .retAddr 0] [] (mkH B s l) Q := by
  refine w_aln (p := 1) (q36 0) rfl rfl ?_
  refine w_gI (p := 4) (j := 7) (v := (zz s 1 7)) (q36 1) rfl (r1 hB) (by decide) (iv_zz s 1 7) ?_
  refine w_ic (p := 5) (q36 4) rfl ?_
  refine w_add (p := 6) (q36 5) rfl ?_
  refine w_isn (p := 7) (ls' := [.ref 1, iv ((zz s 1 7) + 1)]) (q36 6) rfl (Nat.le_of_ble_eq_true rfl) rfl ?_
  refine w_aln (p := 8) (q36 7) rfl rfl ?_
  refine w_iln (p := 9) (q36 8) rfl rfl ?_
  refine w_call (st := []) (as := [.ref 1, iv ((zz s 1 7) + 1)]) (as' := [iv ((zz s 1 7) + 1), .ref 1]) (p := 12) (q36 9) rfl m37 (by decide) (a_ok_i rfl (r1 hB) rfl) rfl rfl (Nat.le_of_ble_eq_true rfl) (by omega) rfl rfl ?_
  refine w_iln (p := 1) (q37 0) rfl rfl ?_
  refine w_aln (p := 2) (q37 1) rfl rfl ?_
  refine w_gI (p := 5) (j := 3) (v := (zz s 1 3)) (q37 2) rfl (r1 hB) (by decide) (iv_zz s 1 3) ?_
  obtain ⟨h1, w⟩ := w
  by_cases c2 : (zz s 1 3) ≤ ((zz s 1 7) + 1)
  · replace w := w.1 c2
    refine w_i2t (q37 5) h1 (inR_zz _ _ _) c2 ?_
    refine w_ic (p := 18) (q37 17) rfl ?_
    refine w_ret (q37 18) rfl ⟨_, _, rfl, ?_⟩
    show a_W _ 36 12 [.ref 1, iv ((zz s 1 7) + 1)] [iv 0] _ _
    refine w_call (st := []) (as := [iv 0]) (as' := [iv 0]) (p := 15) (q36 12) rfl m31 (by decide) (a_ok_s rfl rfl) rfl rfl (Nat.le_of_ble_eq_true rfl) (by omega) rfl rfl (a_W.imp (p31 hB 0 _ _ (by decide)) ?_)
    rintro _ rfl
    refine ⟨_, _, rfl, ?_⟩
    show a_W _ 36 15 [.ref 1, iv ((zz s 1 7) + 1)] [iv (z31 0)] _ _
    by_cases c3 : (z31 0) ≠ 0
    · replace w := w.1 c3
      refine w_i1t (q36 15) (inR_z31 _) c3 ?_
      refine w_aln (p := 25) (q36 24) rfl rfl ?_
      refine w_aln (p := 26) (q36 25) rfl rfl ?_
      refine w_iln (p := 27) (q36 26) rfl rfl ?_
      refine w_call (st := [.ref 1]) (as := [.ref 1, iv ((zz s 1 7) + 1)]) (as' := [iv ((zz s 1 7) + 1), .ref 1]) (p := 30) (q36 27) rfl m33 (by decide) (a_ok_i rfl (r1 hB) rfl) rfl rfl (Nat.le_of_ble_eq_true rfl) (by omega) rfl rfl (a_W.imp w ?_)
      rintro _ ⟨v6, s4, l5, rfl, w⟩
      refine ⟨some (iv v6), _, rfl, ?_⟩
      show a_W _ 36 30 [.ref 1, iv ((zz s 1 7) + 1)] [iv v6, .ref 1] (mkH B s4 l5) _
      refine w_pI (p := 33) (j := 8) (q36 30) rfl (r1 hB) (by decide) rfl ?_
      refine w_aln (p := 34) (q36 33) rfl rfl ?_
      refine w_ic (p := 35) (q36 34) rfl ?_
      refine w_pI (p := 38) (j := 6) (q36 35) rfl (r1 hB) (by decide) rfl ?_
      refine w_aln (p := 39) (q36 38) rfl rfl ?_
      refine w_gI (p := 42) (j := 8) (v := v6) (q36 39) rfl (r1 hB) (by decide) rfl ?_
      refine w_iln (p := 43) (q36 42) rfl rfl ?_
      refine w_sub (p := 44) (q36 43) rfl ?_
      refine w_bp (p := 46) (q36 44) rfl (by decide) ?_
      obtain ⟨h7, w⟩ := w
      by_cases c8 : (v6 - ((zz s 1 7) + 1)) ≤ 24
      · replace w := w.1 c8
        refine w_i2t (q36 46) h7 (by decide) c8 ?_
        refine w_aln (p := 57) (q36 56) rfl rfl ?_
        refine w_aln (p := 58) (q36 57) rfl rfl ?_
        refine w_gR (p := 61) (j := 1) (v := 3) (q36 58) rfl (r1 hB) (by decide) (f1_1 hB) ?_
        refine w_aln (p := 62) (q36 61) rfl rfl ?_
        refine w_gR (p := 65) (j := 0) (v := 2) (q36 62) rfl (r1 hB) (by decide) (f1_0 hB) ?_
        refine w_iln (p := 66) (q36 65) rfl rfl ?_
        refine w_aln (p := 67) (q36 66) rfl rfl ?_
        refine w_gI (p := 70) (j := 8) (v := v6) (q36 67) rfl (r1 hB) (by decide) rfl ?_
        refine w_call (st := [.ref 1]) (as := [.ref 3, .ref 2, iv ((zz s 1 7) + 1), iv v6]) (as' := [iv v6, iv ((zz s 1 7) + 1), .ref 2, .ref 3]) (p := 73) (q36 70) rfl m39 (by decide) (a_ok_i rfl (r3 hB) rfl) rfl rfl (Nat.le_of_ble_eq_true rfl) (by omega) rfl rfl (a_W.imp w ?_)
        rintro _ ⟨v11, s9, l10, rfl, w⟩
        refine ⟨some (iv v11), _, rfl, ?_⟩
        show a_W _ 36 73 [.ref 1, iv ((zz s 1 7) + 1)] [iv v11, .ref 1] (mkH B s9 l10) _
        refine w_pI (p := 76) (j := 9) (q36 73) rfl (r1 hB) (by decide) rfl ?_
        refine w_aln (p := 77) (q36 76) rfl rfl ?_
        refine w_gI (p := 80) (j := 9) (v := v11) (q36 77) rfl (r1 hB) (by decide) rfl ?_
        obtain ⟨h12, w⟩ := w
        by_cases c13 : 0 ≤ v11
        · replace w := w.1 c13
          refine w_i1t (q36 80) h12 c13 ?_
          exact w_rv (q36 103) rfl w
        · replace w := w.2 (Int.not_le.mp c13)
          refine w_i1f (p := 83) (q36 80) rfl h12 c13 ?_
          refine w_aln (p := 84) (q36 83) rfl rfl ?_
          refine w_aln (p := 85) (q36 84) rfl rfl ?_
          refine w_gR (p := 88) (j := 1) (v := 3) (q36 85) rfl (r1 hB) (by decide) (f1_1 hB) ?_
          refine w_aln (p := 89) (q36 88) rfl rfl ?_
          refine w_gR (p := 92) (j := 0) (v := 2) (q36 89) rfl (r1 hB) (by decide) (f1_0 hB) ?_
          refine w_iln (p := 93) (q36 92) rfl rfl ?_
          refine w_aln (p := 94) (q36 93) rfl rfl ?_
          refine w_gI (p := 97) (j := 8) (v := (zz s9 1 8)) (q36 94) rfl (r1 hB) (by decide) (iv_zz s9 1 8) ?_
          refine w_call (st := [.ref 1]) (as := [.ref 3, .ref 2, iv ((zz s 1 7) + 1), iv (zz s9 1 8)]) (as' := [iv (zz s9 1 8), iv ((zz s 1 7) + 1), .ref 2, .ref 3]) (p := 100) (q36 97) rfl m5 (by decide) (a_ok_i rfl (r3 hB) rfl) rfl rfl (Nat.le_of_ble_eq_true rfl) (by omega) rfl rfl (a_W.imp w ?_)
          rintro _ ⟨v16, s14, l15, rfl, w⟩
          refine ⟨some (iv v16), _, rfl, ?_⟩
          show a_W _ 36 100 [.ref 1, iv ((zz s 1 7) + 1)] [iv v16, .ref 1] (mkH B s14 l15) _
          refine w_pI (p := 103) (j := 9) (q36 100) rfl (r1 hB) (by decide) rfl ?_
          exact w_rv (q36 103) rfl w
      · replace w := w.2 (Int.not_le.mp c8)
        refine w_i2f (p := 49) (q36 46) rfl h7 (by decide) c8 ?_
        refine w_aln (p := 50) (q36 49) rfl rfl ?_
        refine w_bp (p := 52) (q36 50) rfl (by decide) ?_
        refine w_call (st := []) (as := [.ref 1, iv 8]) (as' := [iv 8, .ref 1]) (p := 55) (q36 52) rfl m28 (by decide) (a_ok_i rfl (r1 hB) rfl) rfl rfl (Nat.le_of_ble_eq_true rfl) (by omega) rfl rfl ?_
        refine w_aln (p := 1) (q28 0) rfl rfl ?_
        refine w_iln (p := 2) (q28 1) rfl rfl ?_
        refine w_aln (p := 3) (q28 2) rfl rfl ?_
        refine w_gI (p := 6) (j := 7) (v := (zz s4 1 7)) (q28 3) rfl (r1 hB) (by decide) (iv_zz s4 1 7) ?_
        refine w_call (st := []) (as := [.ref 1, iv 8, iv (zz s4 1 7)]) (as' := [iv (zz s4 1 7), iv 8, .ref 1]) (p := 9) (q28 6) rfl m29 (by decide) (a_ok_i rfl (r1 hB) rfl) rfl rfl (Nat.le_of_ble_eq_true rfl) (by omega) rfl rfl ?_
        refine w_aln (p := 1) (q29 0) rfl rfl ?_
        refine w_gI (p := 4) (j := 10) (v := (zz s4 1 10)) (q29 1) rfl (r1 hB) (by decide) (iv_zz s4 1 10) ?_
        by_cases c17 : (zz s4 1 10) ≠ 0
        · replace w := w.1 c17
          refine w_i1t (q29 4) (inR_zz _ _ _) c17 ?_
          refine w_rv (q29 22) rfl ⟨_, _, rfl, ?_⟩
          show a_W _ 28 9 [.ref 1, iv 8] [] _ _
          refine w_rv (q28 9) rfl ⟨_, _, rfl, ?_⟩
          show a_W _ 36 55 [.ref 1, iv ((zz s 1 7) + 1)] [] _ _
          exact w_rv (q36 55) rfl w
        · replace w := w.2 (Decidable.not_not.mp c17)
          refine w_i1f (p := 7) (q29 4) rfl (inR_zz _ _ _) c17 ?_
          refine w_aln (p := 8) (q29 7) rfl rfl ?_
          refine w_iln (p := 9) (q29 8) rfl rfl ?_
          refine w_pI (p := 12) (j := 10) (q29 9) rfl (r1 hB) (by decide) rfl ?_
          refine w_aln (p := 13) (q29 12) rfl rfl ?_
          refine w_iln (p := 14) (q29 13) rfl rfl ?_
          refine w_pI (p := 17) (j := 11) (q29 14) rfl (r1 hB) (by decide) rfl ?_
          refine w_aln (p := 18) (q29 17) rfl rfl ?_
          refine w_ic (p := 19) (q29 18) rfl ?_
          refine w_pI (p := 22) (j := 6) (q29 19) rfl (r1 hB) (by decide) rfl ?_
          refine w_rv (q29 22) rfl ⟨_, _, rfl, ?_⟩
          show a_W _ 28 9 [.ref 1, iv 8] [] _ _
          refine w_rv (q28 9) rfl ⟨_, _, rfl, ?_⟩
          show a_W _ 36 55 [.ref 1, iv ((zz s 1 7) + 1)] [] _ _
          exact w_rv (q36 55) rfl w
    · replace w := w.2 (Decidable.not_not.mp c3)
      refine w_i1f (p := 18) (q36 15) rfl (inR_z31 _) c3 ?_
      refine w_aln (p := 19) (q36 18) rfl rfl ?_
      refine w_ic (p := 20) (q36 19) rfl ?_
      refine w_call (st := []) (as := [.ref 1, iv 1]) (as' := [iv 1, .ref 1]) (p := 23) (q36 20) rfl m28 (by decide) (a_ok_i rfl (r1 hB) rfl) rfl rfl (Nat.le_of_ble_eq_true rfl) (by omega) rfl rfl ?_
      refine w_aln (p := 1) (q28 0) rfl rfl ?_
      refine w_iln (p := 2) (q28 1) rfl rfl ?_
      refine w_aln (p := 3) (q28 2) rfl rfl ?_
      refine w_gI (p := 6) (j := 7) (v := (zz s 1 7)) (q28 3) rfl (r1 hB) (by decide) (iv_zz s 1 7) ?_
      refine w_call (st := []) (as := [.ref 1, iv 1, iv (zz s 1 7)]) (as' := [iv (zz s 1 7), iv 1, .ref 1]) (p := 9) (q28 6) rfl m29 (by decide) (a_ok_i rfl (r1 hB) rfl) rfl rfl (Nat.le_of_ble_eq_true rfl) (by omega) rfl rfl ?_
      refine w_aln (p := 1) (q29 0) rfl rfl ?_
      refine w_gI (p := 4) (j := 10) (v := (zz s 1 10)) (q29 1) rfl (r1 hB) (by decide) (iv_zz s 1 10) ?_
      by_cases c18 : (zz s 1 10) ≠ 0
      · replace w := w.1 c18
        refine w_i1t (q29 4) (inR_zz _ _ _) c18 ?_
        refine w_rv (q29 22) rfl ⟨_, _, rfl, ?_⟩
        show a_W _ 28 9 [.ref 1, iv 1] [] _ _
        refine w_rv (q28 9) rfl ⟨_, _, rfl, ?_⟩
        show a_W _ 36 23 [.ref 1, iv ((zz s 1 7) + 1)] [] _ _
        exact w_rv (q36 23) rfl w
      · replace w := w.2 (Decidable.not_not.mp c18)
        refine w_i1f (p := 7) (q29 4) rfl (inR_zz _ _ _) c18 ?_
        refine w_aln (p := 8) (q29 7) rfl rfl ?_
        refine w_iln (p := 9) (q29 8) rfl rfl ?_
        refine w_pI (p := 12) (j := 10) (q29 9) rfl (r1 hB) (by decide) rfl ?_
        refine w_aln (p := 13) (q29 12) rfl rfl ?_
        refine w_iln (p := 14) (q29 13) rfl rfl ?_
        refine w_pI (p := 17) (j := 11) (q29 14) rfl (r1 hB) (by decide) rfl ?_
        refine w_aln (p := 18) (q29 17) rfl rfl ?_
        refine w_ic (p := 19) (q29 18) rfl ?_
        refine w_pI (p := 22) (j := 6) (q29 19) rfl (r1 hB) (by decide) rfl ?_
        refine w_rv (q29 22) rfl ⟨_, _, rfl, ?_⟩
        show a_W _ 28 9 [.ref 1, iv 1] [] _ _
        refine w_rv (q28 9) rfl ⟨_, _, rfl, ?_⟩
        show a_W _ 36 23 [.ref 1, iv ((zz s 1 7) + 1)] [] _ _
        exact w_rv (q36 23) rfl w
  · replace w := w.2 (Int.not_le.mp c2)
    refine w_i2f (p := 8) (q37 5) rfl h1 (inR_zz _ _ _) c2 ?_
    refine w_aln (p := 9) (q37 8) rfl rfl ?_
    refine w_gR (p := 12) (j := 0) (v := 2) (q37 9) rfl (r1 hB) (by decide) (f1_0 hB) ?_
    refine w_iln (p := 13) (q37 12) rfl rfl ?_
    obtain ⟨o19, w⟩ := w
    refine w_ba (p := 14) (v := (zz s 2 ((zz s 1 7) + 1).toNat)) (q37 13) rfl (r2 hB) (by decide) o19 (iv_zz s 2 ((zz s 1 7) + 1).toNat) ?_
    refine w_goto (q37 14) ?_
    refine w_ret (q37 18) rfl ⟨_, _, rfl, ?_⟩
    show a_W _ 36 12 [.ref 1, iv ((zz s 1 7) + 1)] [iv (zz s 2 ((zz s 1 7) + 1).toNat)] _ _
    refine w_call (st := []) (as := [iv (zz s 2 ((zz s 1 7) + 1).toNat)]) (as' := [iv (zz s 2 ((zz s 1 7) + 1).toNat)]) (p := 15) (q36 12) rfl m31 (by decide) (a_ok_s rfl rfl) rfl rfl (Nat.le_of_ble_eq_true rfl) (by omega) rfl rfl (a_W.imp (p31 hB (zz s 2 ((zz s 1 7) + 1).toNat) _ _ (inR_zz _ _ _)) ?_)
    rintro _ rfl
    refine ⟨_, _, rfl, ?_⟩
    show a_W _ 36 15 [.ref 1, iv ((zz s 1 7) + 1)] [iv (z31 (zz s 2 ((zz s 1 7) + 1).toNat))] _ _
    by_cases c20 : (z31 (zz s 2 ((zz s 1 7) + 1).toNat)) ≠ 0
    · replace w := w.1 c20
      refine w_i1t (q36 15) (inR_z31 _) c20 ?_
      refine w_aln (p := 25) (q36 24) rfl rfl ?_
      refine w_aln (p := 26) (q36 25) rfl rfl ?_
      refine w_iln (p := 27) (q36 26) rfl rfl ?_
      refine w_call (st := [.ref 1]) (as := [.ref 1, iv ((zz s 1 7) + 1)]) (as' := [iv ((zz s 1 7) + 1), .ref 1]) (p := 30) (q36 27) rfl m33 (by decide) (a_ok_i rfl (r1 hB) rfl) rfl rfl (Nat.le_of_ble_eq_true rfl) (by omega) rfl rfl (a_W.imp w ?_)
      rintro _ ⟨v23, s21, l22, rfl, w⟩
      refine ⟨some (iv v23), _, rfl, ?_⟩
      show a_W _ 36 30 [.ref 1, iv ((zz s 1 7) + 1)] [iv v23, .ref 1] (mkH B s21 l22) _
      refine w_pI (p := 33) (j := 8) (q36 30) rfl (r1 hB) (by decide) rfl ?_
      refine w_aln (p := 34) (q36 33) rfl rfl ?_
      refine w_ic (p := 35) (q36 34) rfl ?_
      refine w_pI (p := 38) (j := 6) (q36 35) rfl (r1 hB) (by decide) rfl ?_
      refine w_aln (p := 39) (q36 38) rfl rfl ?_
      refine w_gI (p := 42) (j := 8) (v := v23) (q36 39) rfl (r1 hB) (by decide) rfl ?_
      refine w_iln (p := 43) (q36 42) rfl rfl ?_
      refine w_sub (p := 44) (q36 43) rfl ?_
      refine w_bp (p := 46) (q36 44) rfl (by decide) ?_
      obtain ⟨h24, w⟩ := w
      by_cases c25 : (v23 - ((zz s 1 7) + 1)) ≤ 24
      · replace w := w.1 c25
        refine w_i2t (q36 46) h24 (by decide) c25 ?_
        refine w_aln (p := 57) (q36 56) rfl rfl ?_
        refine w_aln (p := 58) (q36 57) rfl rfl ?_
        refine w_gR (p := 61) (j := 1) (v := 3) (q36 58) rfl (r1 hB) (by decide) (f1_1 hB) ?_
        refine w_aln (p := 62) (q36 61) rfl rfl ?_
        refine w_gR (p := 65) (j := 0) (v := 2) (q36 62) rfl (r1 hB) (by decide) (f1_0 hB) ?_
        refine w_iln (p := 66) (q36 65) rfl rfl ?_
        refine w_aln (p := 67) (q36 66) rfl rfl ?_
        refine w_gI (p := 70) (j := 8) (v := v23) (q36 67) rfl (r1 hB) (by decide) rfl ?_
        refine w_call (st := [.ref 1]) (as := [.ref 3, .ref 2, iv ((zz s 1 7) + 1), iv v23]) (as' := [iv v23, iv ((zz s 1 7) + 1), .ref 2, .ref 3]) (p := 73) (q36 70) rfl m39 (by decide) (a_ok_i rfl (r3 hB) rfl) rfl rfl (Nat.le_of_ble_eq_true rfl) (by omega) rfl rfl (a_W.imp w ?_)
        rintro _ ⟨v28, s26, l27, rfl, w⟩
        refine ⟨some (iv v28), _, rfl, ?_⟩
        show a_W _ 36 73 [.ref 1, iv ((zz s 1 7) + 1)] [iv v28, .ref 1] (mkH B s26 l27) _
        refine w_pI (p := 76) (j := 9) (q36 73) rfl (r1 hB) (by decide) rfl ?_
        refine w_aln (p := 77) (q36 76) rfl rfl ?_
        refine w_gI (p := 80) (j := 9) (v := v28) (q36 77) rfl (r1 hB) (by decide) rfl ?_
        obtain ⟨h29, w⟩ := w
        by_cases c30 : 0 ≤ v28
        · replace w := w.1 c30
          refine w_i1t (q36 80) h29 c30 ?_
          exact w_rv (q36 103) rfl w
        · replace w := w.2 (Int.not_le.mp c30)
          refine w_i1f (p := 83) (q36 80) rfl h29 c30 ?_
          refine w_aln (p := 84) (q36 83) rfl rfl ?_
          refine w_aln (p := 85) (q36 84) rfl rfl ?_
          refine w_gR (p := 88) (j := 1) (v := 3) (q36 85) rfl (r1 hB) (by decide) (f1_1 hB) ?_
          refine w_aln (p := 89) (q36 88) rfl rfl ?_
          refine w_gR (p := 92) (j := 0) (v := 2) (q36 89) rfl (r1 hB) (by decide) (f1_0 hB) ?_
          refine w_iln (p := 93) (q36 92) rfl rfl ?_
          refine w_aln (p := 94) (q36 93) rfl rfl ?_
          refine w_gI (p := 97) (j := 8) (v := (zz s26 1 8)) (q36 94) rfl (r1 hB) (by decide) (iv_zz s26 1 8) ?_
          refine w_call (st := [.ref 1]) (as := [.ref 3, .ref 2, iv ((zz s 1 7) + 1), iv (zz s26 1 8)]) (as' := [iv (zz s26 1 8), iv ((zz s 1 7) + 1), .ref 2, .ref 3]) (p := 100) (q36 97) rfl m5 (by decide) (a_ok_i rfl (r3 hB) rfl) rfl rfl (Nat.le_of_ble_eq_true rfl) (by omega) rfl rfl (a_W.imp w ?_)
          rintro _ ⟨v33, s31, l32, rfl, w⟩
          refine ⟨some (iv v33), _, rfl, ?_⟩
          show a_W _ 36 100 [.ref 1, iv ((zz s 1 7) + 1)] [iv v33, .ref 1] (mkH B s31 l32) _
          refine w_pI (p := 103) (j := 9) (q36 100) rfl (r1 hB) (by decide) rfl ?_
          exact w_rv (q36 103) rfl w
      · replace w := w.2 (Int.not_le.mp c25)
        refine w_i2f (p := 49) (q36 46) rfl h24 (by decide) c25 ?_
        refine w_aln (p := 50) (q36 49) rfl rfl ?_
        refine w_bp (p := 52) (q36 50) rfl (by decide) ?_
        refine w_call (st := []) (as := [.ref 1, iv 8]) (as' := [iv 8, .ref 1]) (p := 55) (q36 52) rfl m28 (by decide) (a_ok_i rfl (r1 hB) rfl) rfl rfl (Nat.le_of_ble_eq_true rfl) (by omega) rfl rfl ?_
        refine w_aln (p := 1) (q28 0) rfl rfl ?_
        refine w_iln (p := 2) (q28 1) rfl rfl ?_
        refine w_aln (p := 3) (q28 2) rfl rfl ?_
        refine w_gI (p := 6) (j := 7) (v := (zz s21 1 7)) (q28 3) rfl (r1 hB) (by decide) (iv_zz s21 1 7) ?_
        refine w_call (st := []) (as := [.ref 1, iv 8, iv (zz s21 1 7)]) (as' := [iv (zz s21 1 7), iv 8, .ref 1]) (p := 9) (q28 6) rfl m29 (by decide) (a_ok_i rfl (r1 hB) rfl) rfl rfl (Nat.le_of_ble_eq_true rfl) (by omega) rfl rfl ?_
        refine w_aln (p := 1) (q29 0) rfl rfl ?_
        refine w_gI (p := 4) (j := 10) (v := (zz s21 1 10)) (q29 1) rfl (r1 hB) (by decide) (iv_zz s21 1 10) ?_
        by_cases c34 : (zz s21 1 10) ≠ 0
        · replace w := w.1 c34
          refine w_i1t (q29 4) (inR_zz _ _ _) c34 ?_
          refine w_rv (q29 22) rfl ⟨_, _, rfl, ?_⟩
          show a_W _ 28 9 [.ref 1, iv 8] [] _ _
          refine w_rv (q28 9) rfl ⟨_, _, rfl, ?_⟩
          show a_W _ 36 55 [.ref 1, iv ((zz s 1 7) + 1)] [] _ _
          exact w_rv (q36 55) rfl w
        · replace w := w.2 (Decidable.not_not.mp c34)
          refine w_i1f (p := 7) (q29 4) rfl (inR_zz _ _ _) c34 ?_
          refine w_aln (p := 8) (q29 7) rfl rfl ?_
          refine w_iln (p := 9) (q29 8) rfl rfl ?_
          refine w_pI (p := 12) (j := 10) (q29 9) rfl (r1 hB) (by decide) rfl ?_
          refine w_aln (p := 13) (q29 12) rfl rfl ?_
          refine w_iln (p := 14) (q29 13) rfl rfl ?_
          refine w_pI (p := 17) (j := 11) (q29 14) rfl (r1 hB) (by decide) rfl ?_
          refine w_aln (p := 18) (q29 17) rfl rfl ?_
          refine w_ic (p := 19) (q29 18) rfl ?_
          refine w_pI (p := 22) (j := 6) (q29 19) rfl (r1 hB) (by decide) rfl ?_
          refine w_rv (q29 22) rfl ⟨_, _, rfl, ?_⟩
          show a_W _ 28 9 [.ref 1, iv 8] [] _ _
          refine w_rv (q28 9) rfl ⟨_, _, rfl, ?_⟩
          show a_W _ 36 55 [.ref 1, iv ((zz s 1 7) + 1)] [] _ _
          exact w_rv (q36 55) rfl w
    · replace w := w.2 (Decidable.not_not.mp c20)
      refine w_i1f (p := 18) (q36 15) rfl (inR_z31 _) c20 ?_
      refine w_aln (p := 19) (q36 18) rfl rfl ?_
      refine w_ic (p := 20) (q36 19) rfl ?_
      refine w_call (st := []) (as := [.ref 1, iv 1]) (as' := [iv 1, .ref 1]) (p := 23) (q36 20) rfl m28 (by decide) (a_ok_i rfl (r1 hB) rfl) rfl rfl (Nat.le_of_ble_eq_true rfl) (by omega) rfl rfl ?_
      refine w_aln (p := 1) (q28 0) rfl rfl ?_
      refine w_iln (p := 2) (q28 1) rfl rfl ?_
      refine w_aln (p := 3) (q28 2) rfl rfl ?_
      refine w_gI (p := 6) (j := 7) (v := (zz s 1 7)) (q28 3) rfl (r1 hB) (by decide) (iv_zz s 1 7) ?_
      refine w_call (st := []) (as := [.ref 1, iv 1, iv (zz s 1 7)]) (as' := [iv (zz s 1 7), iv 1, .ref 1]) (p := 9) (q28 6) rfl m29 (by decide) (a_ok_i rfl (r1 hB) rfl) rfl rfl (Nat.le_of_ble_eq_true rfl) (by omega) rfl rfl ?_
      refine w_aln (p := 1) (q29 0) rfl rfl ?_
      refine w_gI (p := 4) (j := 10) (v := (zz s 1 10)) (q29 1) rfl (r1 hB) (by decide) (iv_zz s 1 10) ?_
      by_cases c35 : (zz s 1 10) ≠ 0
      · replace w := w.1 c35
        refine w_i1t (q29 4) (inR_zz _ _ _) c35 ?_
        refine w_rv (q29 22) rfl ⟨_, _, rfl, ?_⟩
        show a_W _ 28 9 [.ref 1, iv 1] [] _ _
        refine w_rv (q28 9) rfl ⟨_, _, rfl, ?_⟩
        show a_W _ 36 23 [.ref 1, iv ((zz s 1 7) + 1)] [] _ _
        exact w_rv (q36 23) rfl w
      · replace w := w.2 (Decidable.not_not.mp c35)
        refine w_i1f (p := 7) (q29 4) rfl (inR_zz _ _ _) c35 ?_
        refine w_aln (p := 8) (q29 7) rfl rfl ?_
        refine w_iln (p := 9) (q29 8) rfl rfl ?_
        refine w_pI (p := 12) (j := 10) (q29 9) rfl (r1 hB) (by decide) rfl ?_
        refine w_aln (p := 13) (q29 12) rfl rfl ?_
        refine w_iln (p := 14) (q29 13) rfl rfl ?_
        refine w_pI (p := 17) (j := 11) (q29 14) rfl (r1 hB) (by decide) rfl ?_
        refine w_aln (p := 18) (q29 17) rfl rfl ?_
        refine w_ic (p := 19) (q29 18) rfl ?_
        refine w_pI (p := 22) (j := 6) (q29 19) rfl (r1 hB) (by decide) rfl ?_
        refine w_rv (q29 22) rfl ⟨_, _, rfl, ?_⟩
        show a_W _ 28 9 [.ref 1, iv 1] [] _ _
        refine w_rv (q28 9) rfl ⟨_, _, rfl, ?_⟩
        show a_W _ 36 23 [.ref 1, iv ((zz s 1 7) + 1)] [] _ _
        exact w_rv (q36 23) rfl w
theorem w24_0 {d : Nat} {B : aH} {Q : aR → Prop} (hB : a_Can B) (hd : 2 ≤ d) (s : Nat → Nat → Int32) (l : Nat → Nat → Int64) (w : (((zz s 1 10) ≠ 0 → Q (.inl none, (mkH B s l))) ∧ ((zz s 1 10) = 0 → a_W (d - 1) 26 0 [.ref 1, iv (zz s 1 8), .retAddr 0, .retAddr 0] [] (mkH B s l) (fun r => ∃ (v4 : Int) (s2 : Nat → Nat → Int32) (l3 : Nat → Nat → Int64), r = (.inl (some (iv v4)), mkH B s2 l3) ∧ (inR v4 ∧ ((v4 < (zz s2 1 3) → (((zz s2 1 4) < 6000 → ((0 ≤ v4 ∧ v4 < 8000) ∧ (((z31 (zz s2 2 v4.toNat)) = 0 → (((zz s2 2 v4.toNat) ≠ 39 → (((z34 (zz s2 2 v4.toNat)) = 0 → a_W (d - 1) 42 0 [.ref 1, iv (zz s2 2 v4.toNat), .retAddr 0] [] (mkH B (zu (zu (zu s2 1 7 v4) 1 8 v4) 1 4 ((zz s2 1 4) + 1)) l3) (fun r => ∃ (s12 : Nat → Nat → Int32) (l13 : Nat → Nat → Int64), r = (.inl none, mkH B s12 l13) ∧ Q (.inl none, (mkH B s12 l13)))) ∧ ((z34 (zz s2 2 v4.toNat)) ≠ 0 → a_W (d - 1) 41 0 [.ref 1] [] (mkH B (zu (zu (zu s2 1 7 v4) 1 8 v4) 1 4 ((zz s2 1 4) + 1)) l3) (fun r => ∃ (s14 : Nat → Nat → Int32) (l15 : Nat → Nat → Int64), r = (.inl none, mkH B s14 l15) ∧ Q (.inl none, (mkH B s14 l15)))))) ∧ ((zz s2 2 v4.toNat) = 39 → a_W (d - 1) 36 0 [.ref 1, .retAddr 0] [] (mkH B (zu (zu (zu s2 1 7 v4) 1 8 v4) 1 4 ((zz s2 1 4) + 1)) l3) (fun r => ∃ (s16 : Nat → Nat → Int32) (l17 : Nat → Nat → Int64), r = (.inl none, mkH B s16 l17) ∧ Q (.inl none, (mkH B s16 l17)))))) ∧ ((z31 (zz s2 2 v4.toNat)) ≠ 0 → a_W (d - 1) 32 0 [.ref 1] [] (mkH B (zu (zu (zu s2 1 7 v4) 1 8 v4) 1 4 ((zz s2 1 4) + 1)) l3) (fun r => ∃ (s18 : Nat → Nat → Int32) (l19 : Nat → Nat → Int64), r = (.inl none, mkH B s18 l19) ∧ Q (.inl none, (mkH B s18 l19))))))) ∧ (6000 ≤ (zz s2 1 4) → (((zz s2 1 10) ≠ 0 → Q (.inl none, (mkH B (zu (zu s2 1 7 v4) 1 8 v4) l3))) ∧ ((zz s2 1 10) = 0 → Q (.inl none, (mkH B (zu (zu (zu (zu (zu s2 1 7 v4) 1 8 v4) 1 10 8) 1 11 v4) 1 6 0) l3))))))) ∧ ((zz s2 1 3) ≤ v4 → Q (.inl none, (mkH B (zu (zu (zu s2 1 7 v4) 1 8 v4) 1 6 0) l3))))))))) : a_W d 24 0 [.ref 1, .retAddr 0] [] (mkH B s l) Q := by
  refine w_aln (p := 1) (q24 0) rfl rfl ?_
  refine w_call (st := []) (as := [.ref 1]) (as' := [.ref 1]) (p := 4) (q24 1) rfl m25 (by decide) (a_ok_i rfl (r1 hB) rfl) rfl rfl (Nat.le_of_ble_eq_true rfl) (by omega) rfl rfl ?_
  refine w_aln (p := 1) (q25 0) rfl rfl ?_
  refine w_gI (p := 4) (j := 10) (v := (zz s 1 10)) (q25 1) rfl (r1 hB) (by decide) (iv_zz s 1 10) ?_
  by_cases c1 : (zz s 1 10) ≠ 0
  · replace w := w.1 c1
    refine w_i1t (q25 4) (inR_zz _ _ _) c1 ?_
    refine w_ic (p := 12) (q25 11) rfl ?_
    refine w_ret (q25 12) rfl ⟨_, _, rfl, ?_⟩
    show a_W _ 24 4 [.ref 1, .retAddr 0] [iv 0] _ _
    refine w_i1f (p := 7) (q24 4) rfl (by decide) (show ¬ zc _ _ _ by unfold zc; omega) ?_
    exact w_rv (q24 7) rfl w
  · replace w := w.2 (Decidable.not_not.mp c1)
    refine w_i1f (p := 7) (q25 4) rfl (inR_zz _ _ _) c1 ?_
    refine w_ic (p := 8) (q25 7) rfl ?_
    refine w_goto (q25 8) ?_
    refine w_ret (q25 12) rfl ⟨_, _, rfl, ?_⟩
    show a_W _ 24 4 [.ref 1, .retAddr 0] [iv 1] _ _
    refine w_i1t (q24 4) (by decide) (show zc _ _ _ by unfold zc; omega) ?_
    refine w_aln (p := 9) (q24 8) rfl rfl ?_
    refine w_aln (p := 10) (q24 9) rfl rfl ?_
    refine w_aln (p := 11) (q24 10) rfl rfl ?_
    refine w_gI (p := 14) (j := 8) (v := (zz s 1 8)) (q24 11) rfl (r1 hB) (by decide) (iv_zz s 1 8) ?_
    refine w_call (st := [.ref 1]) (as := [.ref 1, iv (zz s 1 8)]) (as' := [iv (zz s 1 8), .ref 1]) (p := 17) (q24 14) rfl m26 (by decide) (a_ok_i rfl (r1 hB) rfl) rfl rfl (Nat.le_of_ble_eq_true rfl) (by omega) rfl rfl (a_W.imp w ?_)
    rintro _ ⟨v4, s2, l3, rfl, w⟩
    refine ⟨some (iv v4), _, rfl, ?_⟩
    show a_W _ 24 17 [.ref 1, .retAddr 0] [iv v4, .ref 1] (mkH B s2 l3) _
    refine w_pI (p := 20) (j := 7) (q24 17) rfl (r1 hB) (by decide) rfl ?_
    refine w_aln (p := 21) (q24 20) rfl rfl ?_
    refine w_aln (p := 22) (q24 21) rfl rfl ?_
    refine w_gI (p := 25) (j := 7) (v := v4) (q24 22) rfl (r1 hB) (by decide) rfl ?_
    refine w_pI (p := 28) (j := 8) (q24 25) rfl (r1 hB) (by decide) rfl ?_
    refine w_aln (p := 29) (q24 28) rfl rfl ?_
    refine w_gI (p := 32) (j := 7) (v := v4) (q24 29) rfl (r1 hB) (by decide) rfl ?_
    refine w_aln (p := 33) (q24 32) rfl rfl ?_
    refine w_gI (p := 36) (j := 3) (v := (zz s2 1 3)) (q24 33) rfl (r1 hB) (by decide) (iv_zz s2 1 3) ?_
    obtain ⟨h5, w⟩ := w
    by_cases c6 : v4 < (zz s2 1 3)
    · replace w := w.1 c6
      refine w_i2t (q24 36) h5 (inR_zz _ _ _) c6 ?_
      refine w_aln (p := 48) (q24 47) rfl rfl ?_
      refine w_gI (p := 51) (j := 4) (v := (zz s2 1 4)) (q24 48) rfl (r1 hB) (by decide) (iv_zz s2 1 4) ?_
      refine w_sp (p := 54) (q24 51) rfl (by decide) ?_
      by_cases c7 : (zz s2 1 4) < 6000
      · replace w := w.1 c7
        refine w_i2t (q24 54) (inR_zz _ _ _) (by decide) c7 ?_
        refine w_aln (p := 67) (q24 66) rfl rfl ?_
        refine w_dupr (p := 68) (q24 67) rfl ?_
        refine w_gI (p := 71) (j := 4) (v := (zz s2 1 4)) (q24 68) rfl (r1 hB) (by decide) (iv_zz s2 1 4) ?_
        refine w_ic (p := 72) (q24 71) rfl ?_
        refine w_add (p := 73) (q24 72) rfl ?_
        refine w_pI (p := 76) (j := 4) (q24 73) rfl (r1 hB) (by decide) rfl ?_
        refine w_aln (p := 77) (q24 76) rfl rfl ?_
        refine w_gR (p := 80) (j := 0) (v := 2) (q24 77) rfl (r1 hB) (by decide) (f1_0 hB) ?_
        refine w_aln (p := 81) (q24 80) rfl rfl ?_
        refine w_gI (p := 84) (j := 7) (v := v4) (q24 81) rfl (r1 hB) (by decide) rfl ?_
        obtain ⟨o8, w⟩ := w
        refine w_ba (p := 85) (v := (zz s2 2 v4.toNat)) (q24 84) rfl (r2 hB) (by decide) o8 (iv_zz s2 2 v4.toNat) ?_
        refine w_isn (p := 86) (ls' := [.ref 1, iv (zz s2 2 v4.toNat)]) (q24 85) rfl (Nat.le_of_ble_eq_true rfl) rfl ?_
        refine w_iln (p := 87) (q24 86) rfl rfl ?_
        refine w_call (st := []) (as := [iv (zz s2 2 v4.toNat)]) (as' := [iv (zz s2 2 v4.toNat)]) (p := 90) (q24 87) rfl m31 (by decide) (a_ok_s rfl rfl) rfl rfl (Nat.le_of_ble_eq_true rfl) (by omega) rfl rfl (a_W.imp (p31 hB (zz s2 2 v4.toNat) _ _ (inR_zz _ _ _)) ?_)
        rintro _ rfl
        refine ⟨_, _, rfl, ?_⟩
        show a_W _ 24 90 [.ref 1, iv (zz s2 2 v4.toNat)] [iv (z31 (zz s2 2 v4.toNat))] _ _
        by_cases c9 : (z31 (zz s2 2 v4.toNat)) = 0
        · replace w := w.1 c9
          refine w_i1t (q24 90) (inR_z31 _) c9 ?_
          refine w_iln (p := 101) (q24 100) rfl rfl ?_
          refine w_bp (p := 103) (q24 101) rfl (by decide) ?_
          by_cases c10 : (zz s2 2 v4.toNat) ≠ 39
          · replace w := w.1 c10
            refine w_i2t (q24 103) (inR_zz _ _ _) (by decide) c10 ?_
            refine w_iln (p := 114) (q24 113) rfl rfl ?_
            refine w_call (st := []) (as := [iv (zz s2 2 v4.toNat)]) (as' := [iv (zz s2 2 v4.toNat)]) (p := 117) (q24 114) rfl m34 (by decide) (a_ok_s rfl rfl) rfl rfl (Nat.le_of_ble_eq_true rfl) (by omega) rfl rfl (a_W.imp (p34 hB (zz s2 2 v4.toNat) _ _ (inR_zz _ _ _)) ?_)
            rintro _ rfl
            refine ⟨_, _, rfl, ?_⟩
            show a_W _ 24 117 [.ref 1, iv (zz s2 2 v4.toNat)] [iv (z34 (zz s2 2 v4.toNat))] _ _
            by_cases c11 : (z34 (zz s2 2 v4.toNat)) = 0
            · replace w := w.1 c11
              refine w_i1t (q24 117) (inR_z34 _) c11 ?_
              refine w_aln (p := 128) (q24 127) rfl rfl ?_
              refine w_iln (p := 129) (q24 128) rfl rfl ?_
              refine w_call (st := []) (as := [.ref 1, iv (zz s2 2 v4.toNat)]) (as' := [iv (zz s2 2 v4.toNat), .ref 1]) (p := 132) (q24 129) rfl m42 (by decide) (a_ok_i rfl (r1 hB) rfl) rfl rfl (Nat.le_of_ble_eq_true rfl) (by omega) rfl rfl (a_W.imp w ?_)
              rintro _ ⟨s12, l13, rfl, w⟩
              refine ⟨none, _, rfl, ?_⟩
              show a_W _ 24 132 [.ref 1, iv (zz s2 2 v4.toNat)] [] (mkH B s12 l13) _
              exact w_rv (q24 132) rfl w
            · replace w := w.2 c11
              refine w_i1f (p := 120) (q24 117) rfl (inR_z34 _) c11 ?_
              refine w_aln (p := 121) (q24 120) rfl rfl ?_
              refine w_call (st := []) (as := [.ref 1]) (as' := [.ref 1]) (p := 124) (q24 121) rfl m41 (by decide) (a_ok_i rfl (r1 hB) rfl) rfl rfl (Nat.le_of_ble_eq_true rfl) (by omega) rfl rfl (a_W.imp w ?_)
              rintro _ ⟨s14, l15, rfl, w⟩
              refine ⟨none, _, rfl, ?_⟩
              show a_W _ 24 124 [.ref 1, iv (zz s2 2 v4.toNat)] [] (mkH B s14 l15) _
              refine w_goto (q24 124) ?_
              exact w_rv (q24 132) rfl w
          · replace w := w.2 (Decidable.not_not.mp c10)
            refine w_i2f (p := 106) (q24 103) rfl (inR_zz _ _ _) (by decide) c10 ?_
            refine w_aln (p := 107) (q24 106) rfl rfl ?_
            refine w_call (st := []) (as := [.ref 1]) (as' := [.ref 1]) (p := 110) (q24 107) rfl m36 (by decide) (a_ok_i rfl (r1 hB) rfl) rfl rfl (Nat.le_of_ble_eq_true rfl) (by omega) rfl rfl (a_W.imp w ?_)
            rintro _ ⟨s16, l17, rfl, w⟩
            refine ⟨none, _, rfl, ?_⟩
            show a_W _ 24 110 [.ref 1, iv (zz s2 2 v4.toNat)] [] (mkH B s16 l17) _
            refine w_goto (q24 110) ?_
            exact w_rv (q24 132) rfl w
        · replace w := w.2 c9
          refine w_i1f (p := 93) (q24 90) rfl (inR_z31 _) c9 ?_
          refine w_aln (p := 94) (q24 93) rfl rfl ?_
          refine w_call (st := []) (as := [.ref 1]) (as' := [.ref 1]) (p := 97) (q24 94) rfl m32 (by decide) (a_ok_i rfl (r1 hB) rfl) rfl rfl (Nat.le_of_ble_eq_true rfl) (by omega) rfl rfl (a_W.imp w ?_)
          rintro _ ⟨s18, l19, rfl, w⟩
          refine ⟨none, _, rfl, ?_⟩
          show a_W _ 24 97 [.ref 1, iv (zz s2 2 v4.toNat)] [] (mkH B s18 l19) _
          refine w_goto (q24 97) ?_
          exact w_rv (q24 132) rfl w
      · replace w := w.2 (Int.not_lt.mp c7)
        refine w_i2f (p := 57) (q24 54) rfl (inR_zz _ _ _) (by decide) c7 ?_
        refine w_aln (p := 58) (q24 57) rfl rfl ?_
        refine w_bp (p := 60) (q24 58) rfl (by decide) ?_
        refine w_call (st := []) (as := [.ref 1, iv 8]) (as' := [iv 8, .ref 1]) (p := 63) (q24 60) rfl m28 (by decide) (a_ok_i rfl (r1 hB) rfl) rfl rfl (Nat.le_of_ble_eq_true rfl) (by omega) rfl rfl ?_
        refine w_aln (p := 1) (q28 0) rfl rfl ?_
        refine w_iln (p := 2) (q28 1) rfl rfl ?_
        refine w_aln (p := 3) (q28 2) rfl rfl ?_
        refine w_gI (p := 6) (j := 7) (v := v4) (q28 3) rfl (r1 hB) (by decide) rfl ?_
        refine w_call (st := []) (as := [.ref 1, iv 8, iv v4]) (as' := [iv v4, iv 8, .ref 1]) (p := 9) (q28 6) rfl m29 (by decide) (a_ok_i rfl (r1 hB) rfl) rfl rfl (Nat.le_of_ble_eq_true rfl) (by omega) rfl rfl ?_
        refine w_aln (p := 1) (q29 0) rfl rfl ?_
        refine w_gI (p := 4) (j := 10) (v := (zz s2 1 10)) (q29 1) rfl (r1 hB) (by decide) (iv_zz s2 1 10) ?_
        by_cases c20 : (zz s2 1 10) ≠ 0
        · replace w := w.1 c20
          refine w_i1t (q29 4) (inR_zz _ _ _) c20 ?_
          refine w_rv (q29 22) rfl ⟨_, _, rfl, ?_⟩
          show a_W _ 28 9 [.ref 1, iv 8] [] _ _
          refine w_rv (q28 9) rfl ⟨_, _, rfl, ?_⟩
          show a_W _ 24 63 [.ref 1, .retAddr 0] [] _ _
          refine w_goto (q24 63) ?_
          exact w_rv (q24 132) rfl w
        · replace w := w.2 (Decidable.not_not.mp c20)
          refine w_i1f (p := 7) (q29 4) rfl (inR_zz _ _ _) c20 ?_
          refine w_aln (p := 8) (q29 7) rfl rfl ?_
          refine w_iln (p := 9) (q29 8) rfl rfl ?_
          refine w_pI (p := 12) (j := 10) (q29 9) rfl (r1 hB) (by decide) rfl ?_
          refine w_aln (p := 13) (q29 12) rfl rfl ?_
          refine w_iln (p := 14) (q29 13) rfl rfl ?_
          refine w_pI (p := 17) (j := 11) (q29 14) rfl (r1 hB) (by decide) rfl ?_
          refine w_aln (p := 18) (q29 17) rfl rfl ?_
          refine w_ic (p := 19) (q29 18) rfl ?_
          refine w_pI (p := 22) (j := 6) (q29 19) rfl (r1 hB) (by decide) rfl ?_
          refine w_rv (q29 22) rfl ⟨_, _, rfl, ?_⟩
          show a_W _ 28 9 [.ref 1, iv 8] [] _ _
          refine w_rv (q28 9) rfl ⟨_, _, rfl, ?_⟩
          show a_W _ 24 63 [.ref 1, .retAddr 0] [] _ _
          refine w_goto (q24 63) ?_
          exact w_rv (q24 132) rfl w
    · replace w := w.2 (Int.not_lt.mp c6)
      refine w_i2f (p := 39) (q24 36) rfl h5 (inR_zz _ _ _) c6 ?_
      refine w_aln (p := 40) (q24 39) rfl rfl ?_
      refine w_ic (p := 41) (q24 40) rfl ?_
      refine w_pI (p := 44) (j := 6) (q24 41) rfl (r1 hB) (by decide) rfl ?_
      refine w_goto (q24 44) ?_
      exact w_rv (q24 132) rfl w
theorem w23_0 {d : Nat} {B : aH} {Q : aR → Prop} (hB : a_Can B) (hd : 1 ≤ d) (x1 : Int) (s : Nat → Nat → Int32) (l : Nat → Nat → Int64) (w : a_W (d - 1) 24 0 [.ref 1, .retAddr 0] [] (mkH B (zu (zu (zu (zu (zu (zu s 1 3 x1) 1 2 0) 1 4 0) 1 8 0) 1 10 0) 1 11 (-1)) l) (fun r => ∃ (s1 : Nat → Nat → Int32) (l2 : Nat → Nat → Int64), r = (.inl none, mkH B s1 l2) ∧ Q (.inl none, (mkH B (zu s1 1 5 (zz s1 1 7)) l2)))) : a_W d 23 0 [.ref 1, iv x1] [] (mkH B s l) Q := by
  refine w_aln (p := 1) (q23 0) rfl rfl ?_
  refine w_iln (p := 2) (q23 1) rfl rfl ?_
  refine w_pI (p := 5) (j := 3) (q23 2) rfl (r1 hB) (by decide) rfl ?_
  refine w_aln (p := 6) (q23 5) rfl rfl ?_
  refine w_ic (p := 7) (q23 6) rfl ?_
  refine w_pI (p := 10) (j := 2) (q23 7) rfl (r1 hB) (by decide) rfl ?_
  refine w_aln (p := 11) (q23 10) rfl rfl ?_
  refine w_ic (p := 12) (q23 11) rfl ?_
  refine w_pI (p := 15) (j := 4) (q23 12) rfl (r1 hB) (by decide) rfl ?_
  refine w_aln (p := 16) (q23 15) rfl rfl ?_
  refine w_ic (p := 17) (q23 16) rfl ?_
  refine w_pI (p := 20) (j := 8) (q23 17) rfl (r1 hB) (by decide) rfl ?_
  refine w_aln (p := 21) (q23 20) rfl rfl ?_
  refine w_ic (p := 22) (q23 21) rfl ?_
  refine w_pI (p := 25) (j := 10) (q23 22) rfl (r1 hB) (by decide) rfl ?_
  refine w_aln (p := 26) (q23 25) rfl rfl ?_
  refine w_ic (p := 27) (q23 26) rfl ?_
  refine w_pI (p := 30) (j := 11) (q23 27) rfl (r1 hB) (by decide) rfl ?_
  refine w_aln (p := 31) (q23 30) rfl rfl ?_
  refine w_call (st := []) (as := [.ref 1]) (as' := [.ref 1]) (p := 34) (q23 31) rfl m24 (by decide) (a_ok_i rfl (r1 hB) rfl) rfl rfl (Nat.le_of_ble_eq_true rfl) (by omega) rfl rfl (a_W.imp w ?_)
  rintro _ ⟨s1, l2, rfl, w⟩
  refine ⟨none, _, rfl, ?_⟩
  show a_W _ 23 34 [.ref 1, iv x1] [] (mkH B s1 l2) _
  refine w_aln (p := 35) (q23 34) rfl rfl ?_
  refine w_aln (p := 36) (q23 35) rfl rfl ?_
  refine w_gI (p := 39) (j := 7) (v := (zz s1 1 7)) (q23 36) rfl (r1 hB) (by decide) (iv_zz s1 1 7) ?_
  refine w_pI (p := 42) (j := 5) (q23 39) rfl (r1 hB) (by decide) rfl ?_
  exact w_rv (q23 42) rfl w
