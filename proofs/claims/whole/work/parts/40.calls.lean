/-! printed by wip/am/mk40.py: the calls of the law -/
theorem w21_0 {d : Nat} {B : aH} {Q : aR → Prop} (hB : a_Can B) (hd : 1 ≤ d) (x1 : Int) (s : Nat → Nat → Int32) (l : Nat → Nat → Int64) (w : (inR x1 ∧ ((x1 < 0 → (B.1 + 1 < aSc ∧ Q (.inr 12, a_mk 12 6 (mkH B s l)))) ∧ (0 ≤ x1 → (((zz s 1 2) < x1 → (B.1 + 1 < aSc ∧ Q (.inr 12, a_mk 12 6 (mkH B s l)))) ∧ (x1 ≤ (zz s 1 2) → a_W (d - 1) 23 0 [.ref 1, iv x1] [] (mkH B s l) (fun r => ∃ (s4 : Nat → Nat → Int32) (l5 : Nat → Nat → Int64), r = (.inl none, mkH B s4 l5) ∧ a_W (d - 1) 46 0 [.ref 17] [] (mkH B s4 l5) (fun r => ∃ (s6 : Nat → Nat → Int32) (l7 : Nat → Nat → Int64), r = (.inl none, mkH B s6 l7) ∧ a_W (d - 1) 54 0 [.ref 36] [] (mkH B s6 l7) (fun r => ∃ (s8 : Nat → Nat → Int32) (l9 : Nat → Nat → Int64), r = (.inl none, mkH B s8 l9) ∧ a_W (d - 1) 55 0 [.ref 38] [] (mkH B s8 l9) (fun r => ∃ (s10 : Nat → Nat → Int32) (l11 : Nat → Nat → Int64), r = (.inl none, mkH B s10 l11) ∧ a_W (d - 1) 57 0 [.ref 38, iv 0, .retAddr 0, .retAddr 0, .retAddr 0, .retAddr 0] [] (mkH B s10 l11) (fun r => ∃ (v14 : Int) (s12 : Nat → Nat → Int32) (l13 : Nat → Nat → Int64), r = (.inl (some (iv v14)), mkH B s12 l13) ∧ a_W (d - 1) 106 0 [.ref 1] [] (mkH B s12 l13) (fun r => ∃ (s15 : Nat → Nat → Int32) (l16 : Nat → Nat → Int64), r = (.inl none, mkH B s15 l16) ∧ (((zz s15 1 10) ≠ 0 → Q (.inl (some (iv (-1))), (mkH B s15 l16))) ∧ ((zz s15 1 10) = 0 → a_W (d - 1) 107 0 [.ref 38, iv v14] [] (mkH B s15 l16) (fun r => ∃ (v20 : Int) (s18 : Nat → Nat → Int32) (l19 : Nat → Nat → Int64), r = (.inl (some (iv v20)), mkH B s18 l19) ∧ a_W (d - 1) 113 0 [.ref 1, iv v20] [] (mkH B s18 l19) (fun r => ∃ (s21 : Nat → Nat → Int32) (l22 : Nat → Nat → Int64), r = (.inl none, mkH B s21 l22) ∧ (((zz s21 1 10) ≠ 0 → Q (.inl (some (iv (-1))), (mkH B s21 l22))) ∧ ((zz s21 1 10) = 0 → a_W (d - 1) 114 0 [.ref 51, .ref 45, iv v14, .ref 17, .retAddr 0, .retAddr 0] [] (mkH B s21 l22) (fun r => ∃ (s24 : Nat → Nat → Int32) (l25 : Nat → Nat → Int64), r = (.inl none, mkH B s24 l25) ∧ Q (.inl (some (iv (zz s24 51 4))), (mkH B s24 l25))))))))))))))))))))) : a_W d 21 0 [.ref 0, iv x1, .retAddr 0] [] (mkH B s l) Q := by
  refine w_aln (p := 1) (q21 0) rfl rfl ?_
  refine w_gR (p := 4) (j := 0) (v := 1) (q21 1) rfl (r0 hB) (by decide) (f0_0 hB) ?_
  refine w_iln (p := 5) (q21 4) rfl rfl ?_
  refine w_call (st := []) (as := [.ref 1, iv x1]) (as' := [iv x1, .ref 1]) (p := 8) (q21 5) rfl m22 (by decide) (a_ok_i rfl (r1 hB) rfl) rfl rfl (Nat.le_of_ble_eq_true rfl) (by omega) rfl rfl ?_
  refine w_iln (p := 1) (q22 0) rfl rfl ?_
  obtain ⟨h1, w⟩ := w
  by_cases c2 : x1 < 0
  · replace w := w.1 c2
    refine w_i1t (q22 1) h1 c2 ?_
    refine w_ic (p := 17) (q22 16) rfl ?_
    refine w_ret (q22 17) rfl ⟨_, _, rfl, ?_⟩
    show a_W _ 21 8 [.ref 0, iv x1, .retAddr 0] [iv 0] _ _
    refine w_i1f (p := 11) (q21 8) rfl (by decide) (show ¬ zc _ _ _ by unfold zc; omega) ?_
    exact w_thr (q21 11) w.1 rfl w.2
  · replace w := w.2 (Int.not_lt.mp c2)
    refine w_i1f (p := 4) (q22 1) rfl h1 c2 ?_
    refine w_iln (p := 5) (q22 4) rfl rfl ?_
    refine w_aln (p := 6) (q22 5) rfl rfl ?_
    refine w_gI (p := 9) (j := 2) (v := (zz s 1 2)) (q22 6) rfl (r1 hB) (by decide) (iv_zz s 1 2) ?_
    by_cases c3 : (zz s 1 2) < x1
    · replace w := w.1 c3
      refine w_i2t (q22 9) h1 (inR_zz _ _ _) c3 ?_
      refine w_ic (p := 17) (q22 16) rfl ?_
      refine w_ret (q22 17) rfl ⟨_, _, rfl, ?_⟩
      show a_W _ 21 8 [.ref 0, iv x1, .retAddr 0] [iv 0] _ _
      refine w_i1f (p := 11) (q21 8) rfl (by decide) (show ¬ zc _ _ _ by unfold zc; omega) ?_
      exact w_thr (q21 11) w.1 rfl w.2
    · replace w := w.2 (Int.not_lt.mp c3)
      refine w_i2f (p := 12) (q22 9) rfl h1 (inR_zz _ _ _) c3 ?_
      refine w_ic (p := 13) (q22 12) rfl ?_
      refine w_goto (q22 13) ?_
      refine w_ret (q22 17) rfl ⟨_, _, rfl, ?_⟩
      show a_W _ 21 8 [.ref 0, iv x1, .retAddr 0] [iv 1] _ _
      refine w_i1t (q21 8) (by decide) (show zc _ _ _ by unfold zc; omega) ?_
      refine w_aln (p := 22) (q21 21) rfl rfl ?_
      refine w_gR (p := 25) (j := 0) (v := 1) (q21 22) rfl (r0 hB) (by decide) (f0_0 hB) ?_
      refine w_iln (p := 26) (q21 25) rfl rfl ?_
      refine w_call (st := []) (as := [.ref 1, iv x1]) (as' := [iv x1, .ref 1]) (p := 29) (q21 26) rfl m23 (by decide) (a_ok_i rfl (r1 hB) rfl) rfl rfl (Nat.le_of_ble_eq_true rfl) (by omega) rfl rfl (a_W.imp w ?_)
      rintro _ ⟨s4, l5, rfl, w⟩
      refine ⟨none, _, rfl, ?_⟩
      show a_W _ 21 29 [.ref 0, iv x1, .retAddr 0] [] (mkH B s4 l5) _
      refine w_aln (p := 30) (q21 29) rfl rfl ?_
      refine w_gR (p := 33) (j := 2) (v := 17) (q21 30) rfl (r0 hB) (by decide) (f0_2 hB) ?_
      refine w_call (st := []) (as := [.ref 17]) (as' := [.ref 17]) (p := 36) (q21 33) rfl m46 (by decide) (a_ok_i rfl (r17 hB) rfl) rfl rfl (Nat.le_of_ble_eq_true rfl) (by omega) rfl rfl (a_W.imp w ?_)
      rintro _ ⟨s6, l7, rfl, w⟩
      refine ⟨none, _, rfl, ?_⟩
      show a_W _ 21 36 [.ref 0, iv x1, .retAddr 0] [] (mkH B s6 l7) _
      refine w_aln (p := 37) (q21 36) rfl rfl ?_
      refine w_gR (p := 40) (j := 4) (v := 36) (q21 37) rfl (r0 hB) (by decide) (f0_4 hB) ?_
      refine w_call (st := []) (as := [.ref 36]) (as' := [.ref 36]) (p := 43) (q21 40) rfl m54 (by decide) (a_ok_i rfl (r36 hB) rfl) rfl rfl (Nat.le_of_ble_eq_true rfl) (by omega) rfl rfl (a_W.imp w ?_)
      rintro _ ⟨s8, l9, rfl, w⟩
      refine ⟨none, _, rfl, ?_⟩
      show a_W _ 21 43 [.ref 0, iv x1, .retAddr 0] [] (mkH B s8 l9) _
      refine w_aln (p := 44) (q21 43) rfl rfl ?_
      refine w_gR (p := 47) (j := 5) (v := 38) (q21 44) rfl (r0 hB) (by decide) (f0_5 hB) ?_
      refine w_call (st := []) (as := [.ref 38]) (as' := [.ref 38]) (p := 50) (q21 47) rfl m55 (by decide) (a_ok_i rfl (r38 hB) rfl) rfl rfl (Nat.le_of_ble_eq_true rfl) (by omega) rfl rfl (a_W.imp w ?_)
      rintro _ ⟨s10, l11, rfl, w⟩
      refine ⟨none, _, rfl, ?_⟩
      show a_W _ 21 50 [.ref 0, iv x1, .retAddr 0] [] (mkH B s10 l11) _
      refine w_aln (p := 51) (q21 50) rfl rfl ?_
      refine w_gR (p := 54) (j := 5) (v := 38) (q21 51) rfl (r0 hB) (by decide) (f0_5 hB) ?_
      refine w_ic (p := 55) (q21 54) rfl ?_
      refine w_call (st := []) (as := [.ref 38, iv 0]) (as' := [iv 0, .ref 38]) (p := 58) (q21 55) rfl m57 (by decide) (a_ok_i rfl (r38 hB) rfl) rfl rfl (Nat.le_of_ble_eq_true rfl) (by omega) rfl rfl (a_W.imp w ?_)
      rintro _ ⟨v14, s12, l13, rfl, w⟩
      refine ⟨some (iv v14), _, rfl, ?_⟩
      show a_W _ 21 58 [.ref 0, iv x1, .retAddr 0] [iv v14] (mkH B s12 l13) _
      refine w_isn (p := 59) (ls' := [.ref 0, iv x1, iv v14]) (q21 58) rfl (Nat.le_of_ble_eq_true rfl) rfl ?_
      refine w_aln (p := 60) (q21 59) rfl rfl ?_
      refine w_gR (p := 63) (j := 0) (v := 1) (q21 60) rfl (r0 hB) (by decide) (f0_0 hB) ?_
      refine w_call (st := []) (as := [.ref 1]) (as' := [.ref 1]) (p := 66) (q21 63) rfl m106 (by decide) (a_ok_i rfl (r1 hB) rfl) rfl rfl (Nat.le_of_ble_eq_true rfl) (by omega) rfl rfl (a_W.imp w ?_)
      rintro _ ⟨s15, l16, rfl, w⟩
      refine ⟨none, _, rfl, ?_⟩
      show a_W _ 21 66 [.ref 0, iv x1, iv v14] [] (mkH B s15 l16) _
      refine w_aln (p := 67) (q21 66) rfl rfl ?_
      refine w_gR (p := 70) (j := 0) (v := 1) (q21 67) rfl (r0 hB) (by decide) (f0_0 hB) ?_
      refine w_call (st := []) (as := [.ref 1]) (as' := [.ref 1]) (p := 73) (q21 70) rfl m25 (by decide) (a_ok_i rfl (r1 hB) rfl) rfl rfl (Nat.le_of_ble_eq_true rfl) (by omega) rfl rfl ?_
      refine w_aln (p := 1) (q25 0) rfl rfl ?_
      refine w_gI (p := 4) (j := 10) (v := (zz s15 1 10)) (q25 1) rfl (r1 hB) (by decide) (iv_zz s15 1 10) ?_
      by_cases c17 : (zz s15 1 10) ≠ 0
      · replace w := w.1 c17
        refine w_i1t (q25 4) (inR_zz _ _ _) c17 ?_
        refine w_ic (p := 12) (q25 11) rfl ?_
        refine w_ret (q25 12) rfl ⟨_, _, rfl, ?_⟩
        show a_W _ 21 73 [.ref 0, iv x1, iv v14] [iv 0] _ _
        refine w_i1t (q21 73) (by decide) (show zc _ _ _ by unfold zc; omega) ?_
        refine w_aln (p := 92) (q21 91) rfl rfl ?_
        refine w_gR (p := 95) (j := 0) (v := 1) (q21 92) rfl (r0 hB) (by decide) (f0_0 hB) ?_
        refine w_call (st := []) (as := [.ref 1]) (as' := [.ref 1]) (p := 98) (q21 95) rfl m25 (by decide) (a_ok_i rfl (r1 hB) rfl) rfl rfl (Nat.le_of_ble_eq_true rfl) (by omega) rfl rfl ?_
        refine w_aln (p := 1) (q25 0) rfl rfl ?_
        refine w_gI (p := 4) (j := 10) (v := (zz s15 1 10)) (q25 1) rfl (r1 hB) (by decide) (iv_zz s15 1 10) ?_
        refine w_i1t (q25 4) (inR_zz _ _ _) (show zc _ _ _ by unfold zc; omega) ?_
        refine w_ic (p := 12) (q25 11) rfl ?_
        refine w_ret (q25 12) rfl ⟨_, _, rfl, ?_⟩
        show a_W _ 21 98 [.ref 0, iv x1, iv v14] [iv 0] _ _
        refine w_i1f (p := 101) (q21 98) rfl (by decide) (show ¬ zc _ _ _ by unfold zc; omega) ?_
        refine w_ic (p := 102) (q21 101) rfl ?_
        exact w_ret (q21 102) rfl w
      · replace w := w.2 (Decidable.not_not.mp c17)
        refine w_i1f (p := 7) (q25 4) rfl (inR_zz _ _ _) c17 ?_
        refine w_ic (p := 8) (q25 7) rfl ?_
        refine w_goto (q25 8) ?_
        refine w_ret (q25 12) rfl ⟨_, _, rfl, ?_⟩
        show a_W _ 21 73 [.ref 0, iv x1, iv v14] [iv 1] _ _
        refine w_i1f (p := 76) (q21 73) rfl (by decide) (show ¬ zc _ _ _ by unfold zc; omega) ?_
        refine w_aln (p := 77) (q21 76) rfl rfl ?_
        refine w_gR (p := 80) (j := 0) (v := 1) (q21 77) rfl (r0 hB) (by decide) (f0_0 hB) ?_
        refine w_aln (p := 81) (q21 80) rfl rfl ?_
        refine w_gR (p := 84) (j := 5) (v := 38) (q21 81) rfl (r0 hB) (by decide) (f0_5 hB) ?_
        refine w_iln (p := 85) (q21 84) rfl rfl ?_
        refine w_call (st := [.ref 1]) (as := [.ref 38, iv v14]) (as' := [iv v14, .ref 38]) (p := 88) (q21 85) rfl m107 (by decide) (a_ok_i rfl (r38 hB) rfl) rfl rfl (Nat.le_of_ble_eq_true rfl) (by omega) rfl rfl (a_W.imp w ?_)
        rintro _ ⟨v20, s18, l19, rfl, w⟩
        refine ⟨some (iv v20), _, rfl, ?_⟩
        show a_W _ 21 88 [.ref 0, iv x1, iv v14] [iv v20, .ref 1] (mkH B s18 l19) _
        refine w_call (st := []) (as := [.ref 1, iv v20]) (as' := [iv v20, .ref 1]) (p := 91) (q21 88) rfl m113 (by decide) (a_ok_i rfl (r1 hB) rfl) rfl rfl (Nat.le_of_ble_eq_true rfl) (by omega) rfl rfl (a_W.imp w ?_)
        rintro _ ⟨s21, l22, rfl, w⟩
        refine ⟨none, _, rfl, ?_⟩
        show a_W _ 21 91 [.ref 0, iv x1, iv v14] [] (mkH B s21 l22) _
        refine w_aln (p := 92) (q21 91) rfl rfl ?_
        refine w_gR (p := 95) (j := 0) (v := 1) (q21 92) rfl (r0 hB) (by decide) (f0_0 hB) ?_
        refine w_call (st := []) (as := [.ref 1]) (as' := [.ref 1]) (p := 98) (q21 95) rfl m25 (by decide) (a_ok_i rfl (r1 hB) rfl) rfl rfl (Nat.le_of_ble_eq_true rfl) (by omega) rfl rfl ?_
        refine w_aln (p := 1) (q25 0) rfl rfl ?_
        refine w_gI (p := 4) (j := 10) (v := (zz s21 1 10)) (q25 1) rfl (r1 hB) (by decide) (iv_zz s21 1 10) ?_
        by_cases c23 : (zz s21 1 10) ≠ 0
        · replace w := w.1 c23
          refine w_i1t (q25 4) (inR_zz _ _ _) c23 ?_
          refine w_ic (p := 12) (q25 11) rfl ?_
          refine w_ret (q25 12) rfl ⟨_, _, rfl, ?_⟩
          show a_W _ 21 98 [.ref 0, iv x1, iv v14] [iv 0] _ _
          refine w_i1f (p := 101) (q21 98) rfl (by decide) (show ¬ zc _ _ _ by unfold zc; omega) ?_
          refine w_ic (p := 102) (q21 101) rfl ?_
          exact w_ret (q21 102) rfl w
        · replace w := w.2 (Decidable.not_not.mp c23)
          refine w_i1f (p := 7) (q25 4) rfl (inR_zz _ _ _) c23 ?_
          refine w_ic (p := 8) (q25 7) rfl ?_
          refine w_goto (q25 8) ?_
          refine w_ret (q25 12) rfl ⟨_, _, rfl, ?_⟩
          show a_W _ 21 98 [.ref 0, iv x1, iv v14] [iv 1] _ _
          refine w_i1t (q21 98) (by decide) (show zc _ _ _ by unfold zc; omega) ?_
          refine w_aln (p := 104) (q21 103) rfl rfl ?_
          refine w_gR (p := 107) (j := 6) (v := 51) (q21 104) rfl (r0 hB) (by decide) (f0_6 hB) ?_
          refine w_aln (p := 108) (q21 107) rfl rfl ?_
          refine w_gR (p := 111) (j := 5) (v := 38) (q21 108) rfl (r0 hB) (by decide) (f0_5 hB) ?_
          refine w_gR (p := 114) (j := 5) (v := 45) (q21 111) rfl (r38 hB) (by decide) (f38_5 hB) ?_
          refine w_iln (p := 115) (q21 114) rfl rfl ?_
          refine w_aln (p := 116) (q21 115) rfl rfl ?_
          refine w_gR (p := 119) (j := 2) (v := 17) (q21 116) rfl (r0 hB) (by decide) (f0_2 hB) ?_
          refine w_call (st := []) (as := [.ref 51, .ref 45, iv v14, .ref 17]) (as' := [.ref 17, iv v14, .ref 45, .ref 51]) (p := 122) (q21 119) rfl m114 (by decide) (a_ok_i rfl (r51 hB) rfl) rfl rfl (Nat.le_of_ble_eq_true rfl) (by omega) rfl rfl (a_W.imp w ?_)
          rintro _ ⟨s24, l25, rfl, w⟩
          refine ⟨none, _, rfl, ?_⟩
          show a_W _ 21 122 [.ref 0, iv x1, iv v14] [] (mkH B s24 l25) _
          refine w_aln (p := 123) (q21 122) rfl rfl ?_
          refine w_gR (p := 126) (j := 6) (v := 51) (q21 123) rfl (r0 hB) (by decide) (f0_6 hB) ?_
          refine w_gI (p := 129) (j := 4) (v := (zz s24 51 4)) (q21 126) rfl (r51 hB) (by decide) (iv_zz s24 51 4) ?_
          exact w_ret (q21 129) rfl w
theorem w120_0 {d : Nat} {B : aH} {Q : aR → Prop} (hB : a_Can B) (hd : 1 ≤ d) (x1 : Int) (s : Nat → Nat → Int32) (l : Nat → Nat → Int64) (w : (inR x1 ∧ ((x1 < 0 → (B.1 + 1 < aSc ∧ Q (.inr 12, a_mk 12 6 (mkH B s l)))) ∧ (0 ≤ x1 → (((zz s 1 2) < x1 → (B.1 + 1 < aSc ∧ Q (.inr 12, a_mk 12 6 (mkH B s l)))) ∧ (x1 ≤ (zz s 1 2) → a_W (d - 1) 23 0 [.ref 1, iv x1] [] (mkH B s l) (fun r => ∃ (s4 : Nat → Nat → Int32) (l5 : Nat → Nat → Int64), r = (.inl none, mkH B s4 l5) ∧ a_W (d - 1) 46 0 [.ref 17] [] (mkH B s4 l5) (fun r => ∃ (s6 : Nat → Nat → Int32) (l7 : Nat → Nat → Int64), r = (.inl none, mkH B s6 l7) ∧ a_W (d - 1) 54 0 [.ref 36] [] (mkH B s6 l7) (fun r => ∃ (s8 : Nat → Nat → Int32) (l9 : Nat → Nat → Int64), r = (.inl none, mkH B s8 l9) ∧ a_W (d - 1) 121 0 [.ref 0, .retAddr 0, .retAddr 0, .retAddr 0] [] (mkH B s8 l9) (fun r => ∃ (v12 : Int) (s10 : Nat → Nat → Int32) (l11 : Nat → Nat → Int64), r = (.inl (some (iv v12)), mkH B s10 l11) ∧ Q (.inl (some (iv v12)), (mkH B s10 l11)))))))))))) : a_W d 120 0 [.ref 0, iv x1] [] (mkH B s l) Q := by
  refine w_aln (p := 1) (q120 0) rfl rfl ?_
  refine w_gR (p := 4) (j := 0) (v := 1) (q120 1) rfl (r0 hB) (by decide) (f0_0 hB) ?_
  refine w_iln (p := 5) (q120 4) rfl rfl ?_
  refine w_call (st := []) (as := [.ref 1, iv x1]) (as' := [iv x1, .ref 1]) (p := 8) (q120 5) rfl m22 (by decide) (a_ok_i rfl (r1 hB) rfl) rfl rfl (Nat.le_of_ble_eq_true rfl) (by omega) rfl rfl ?_
  refine w_iln (p := 1) (q22 0) rfl rfl ?_
  obtain ⟨h1, w⟩ := w
  by_cases c2 : x1 < 0
  · replace w := w.1 c2
    refine w_i1t (q22 1) h1 c2 ?_
    refine w_ic (p := 17) (q22 16) rfl ?_
    refine w_ret (q22 17) rfl ⟨_, _, rfl, ?_⟩
    show a_W _ 120 8 [.ref 0, iv x1] [iv 0] _ _
    refine w_i1f (p := 11) (q120 8) rfl (by decide) (show ¬ zc _ _ _ by unfold zc; omega) ?_
    exact w_thr (q120 11) w.1 rfl w.2
  · replace w := w.2 (Int.not_lt.mp c2)
    refine w_i1f (p := 4) (q22 1) rfl h1 c2 ?_
    refine w_iln (p := 5) (q22 4) rfl rfl ?_
    refine w_aln (p := 6) (q22 5) rfl rfl ?_
    refine w_gI (p := 9) (j := 2) (v := (zz s 1 2)) (q22 6) rfl (r1 hB) (by decide) (iv_zz s 1 2) ?_
    by_cases c3 : (zz s 1 2) < x1
    · replace w := w.1 c3
      refine w_i2t (q22 9) h1 (inR_zz _ _ _) c3 ?_
      refine w_ic (p := 17) (q22 16) rfl ?_
      refine w_ret (q22 17) rfl ⟨_, _, rfl, ?_⟩
      show a_W _ 120 8 [.ref 0, iv x1] [iv 0] _ _
      refine w_i1f (p := 11) (q120 8) rfl (by decide) (show ¬ zc _ _ _ by unfold zc; omega) ?_
      exact w_thr (q120 11) w.1 rfl w.2
    · replace w := w.2 (Int.not_lt.mp c3)
      refine w_i2f (p := 12) (q22 9) rfl h1 (inR_zz _ _ _) c3 ?_
      refine w_ic (p := 13) (q22 12) rfl ?_
      refine w_goto (q22 13) ?_
      refine w_ret (q22 17) rfl ⟨_, _, rfl, ?_⟩
      show a_W _ 120 8 [.ref 0, iv x1] [iv 1] _ _
      refine w_i1t (q120 8) (by decide) (show zc _ _ _ by unfold zc; omega) ?_
      refine w_aln (p := 22) (q120 21) rfl rfl ?_
      refine w_gR (p := 25) (j := 0) (v := 1) (q120 22) rfl (r0 hB) (by decide) (f0_0 hB) ?_
      refine w_iln (p := 26) (q120 25) rfl rfl ?_
      refine w_call (st := []) (as := [.ref 1, iv x1]) (as' := [iv x1, .ref 1]) (p := 29) (q120 26) rfl m23 (by decide) (a_ok_i rfl (r1 hB) rfl) rfl rfl (Nat.le_of_ble_eq_true rfl) (by omega) rfl rfl (a_W.imp w ?_)
      rintro _ ⟨s4, l5, rfl, w⟩
      refine ⟨none, _, rfl, ?_⟩
      show a_W _ 120 29 [.ref 0, iv x1] [] (mkH B s4 l5) _
      refine w_aln (p := 30) (q120 29) rfl rfl ?_
      refine w_gR (p := 33) (j := 2) (v := 17) (q120 30) rfl (r0 hB) (by decide) (f0_2 hB) ?_
      refine w_call (st := []) (as := [.ref 17]) (as' := [.ref 17]) (p := 36) (q120 33) rfl m46 (by decide) (a_ok_i rfl (r17 hB) rfl) rfl rfl (Nat.le_of_ble_eq_true rfl) (by omega) rfl rfl (a_W.imp w ?_)
      rintro _ ⟨s6, l7, rfl, w⟩
      refine ⟨none, _, rfl, ?_⟩
      show a_W _ 120 36 [.ref 0, iv x1] [] (mkH B s6 l7) _
      refine w_aln (p := 37) (q120 36) rfl rfl ?_
      refine w_gR (p := 40) (j := 4) (v := 36) (q120 37) rfl (r0 hB) (by decide) (f0_4 hB) ?_
      refine w_call (st := []) (as := [.ref 36]) (as' := [.ref 36]) (p := 43) (q120 40) rfl m54 (by decide) (a_ok_i rfl (r36 hB) rfl) rfl rfl (Nat.le_of_ble_eq_true rfl) (by omega) rfl rfl (a_W.imp w ?_)
      rintro _ ⟨s8, l9, rfl, w⟩
      refine ⟨none, _, rfl, ?_⟩
      show a_W _ 120 43 [.ref 0, iv x1] [] (mkH B s8 l9) _
      refine w_aln (p := 44) (q120 43) rfl rfl ?_
      refine w_call (st := []) (as := [.ref 0]) (as' := [.ref 0]) (p := 47) (q120 44) rfl m121 (by decide) (a_ok_i rfl (r0 hB) rfl) rfl rfl (Nat.le_of_ble_eq_true rfl) (by omega) rfl rfl (a_W.imp w ?_)
      rintro _ ⟨v12, s10, l11, rfl, w⟩
      refine ⟨some (iv v12), _, rfl, ?_⟩
      show a_W _ 120 47 [.ref 0, iv x1] [iv v12] (mkH B s10 l11) _
      exact w_ret (q120 47) rfl w
theorem w126_0 {d : Nat} {B : aH} {Q : aR → Prop} (hB : a_Can B) (hd : 1 ≤ d) (x1 : Int) (s : Nat → Nat → Int32) (l : Nat → Nat → Int64) (w : (inR x1 ∧ ((x1 < 0 → (B.1 + 1 < aSc ∧ Q (.inr 12, a_mk 12 6 (mkH B s l)))) ∧ (0 ≤ x1 → (((zz s 1 2) < x1 → (B.1 + 1 < aSc ∧ Q (.inr 12, a_mk 12 6 (mkH B s l)))) ∧ (x1 ≤ (zz s 1 2) → a_W (d - 1) 23 0 [.ref 1, iv x1] [] (mkH B s l) (fun r => ∃ (s4 : Nat → Nat → Int32) (l5 : Nat → Nat → Int64), r = (.inl none, mkH B s4 l5) ∧ a_W (d - 1) 127 0 [.ref 0, .retAddr 0, .retAddr 0, .retAddr 0] [] (mkH B s4 l5) (fun r => ∃ (v8 : Int) (s6 : Nat → Nat → Int32) (l7 : Nat → Nat → Int64), r = (.inl (some (iv v8)), mkH B s6 l7) ∧ Q (.inl (some (iv v8)), (mkH B s6 l7)))))))))) : a_W d 126 0 [.ref 0, iv x1] [] (mkH B s l) Q := by
  refine w_aln (p := 1) (q126 0) rfl rfl ?_
  refine w_gR (p := 4) (j := 0) (v := 1) (q126 1) rfl (r0 hB) (by decide) (f0_0 hB) ?_
  refine w_iln (p := 5) (q126 4) rfl rfl ?_
  refine w_call (st := []) (as := [.ref 1, iv x1]) (as' := [iv x1, .ref 1]) (p := 8) (q126 5) rfl m22 (by decide) (a_ok_i rfl (r1 hB) rfl) rfl rfl (Nat.le_of_ble_eq_true rfl) (by omega) rfl rfl ?_
  refine w_iln (p := 1) (q22 0) rfl rfl ?_
  obtain ⟨h1, w⟩ := w
  by_cases c2 : x1 < 0
  · replace w := w.1 c2
    refine w_i1t (q22 1) h1 c2 ?_
    refine w_ic (p := 17) (q22 16) rfl ?_
    refine w_ret (q22 17) rfl ⟨_, _, rfl, ?_⟩
    show a_W _ 126 8 [.ref 0, iv x1] [iv 0] _ _
    refine w_i1f (p := 11) (q126 8) rfl (by decide) (show ¬ zc _ _ _ by unfold zc; omega) ?_
    exact w_thr (q126 11) w.1 rfl w.2
  · replace w := w.2 (Int.not_lt.mp c2)
    refine w_i1f (p := 4) (q22 1) rfl h1 c2 ?_
    refine w_iln (p := 5) (q22 4) rfl rfl ?_
    refine w_aln (p := 6) (q22 5) rfl rfl ?_
    refine w_gI (p := 9) (j := 2) (v := (zz s 1 2)) (q22 6) rfl (r1 hB) (by decide) (iv_zz s 1 2) ?_
    by_cases c3 : (zz s 1 2) < x1
    · replace w := w.1 c3
      refine w_i2t (q22 9) h1 (inR_zz _ _ _) c3 ?_
      refine w_ic (p := 17) (q22 16) rfl ?_
      refine w_ret (q22 17) rfl ⟨_, _, rfl, ?_⟩
      show a_W _ 126 8 [.ref 0, iv x1] [iv 0] _ _
      refine w_i1f (p := 11) (q126 8) rfl (by decide) (show ¬ zc _ _ _ by unfold zc; omega) ?_
      exact w_thr (q126 11) w.1 rfl w.2
    · replace w := w.2 (Int.not_lt.mp c3)
      refine w_i2f (p := 12) (q22 9) rfl h1 (inR_zz _ _ _) c3 ?_
      refine w_ic (p := 13) (q22 12) rfl ?_
      refine w_goto (q22 13) ?_
      refine w_ret (q22 17) rfl ⟨_, _, rfl, ?_⟩
      show a_W _ 126 8 [.ref 0, iv x1] [iv 1] _ _
      refine w_i1t (q126 8) (by decide) (show zc _ _ _ by unfold zc; omega) ?_
      refine w_aln (p := 22) (q126 21) rfl rfl ?_
      refine w_gR (p := 25) (j := 0) (v := 1) (q126 22) rfl (r0 hB) (by decide) (f0_0 hB) ?_
      refine w_iln (p := 26) (q126 25) rfl rfl ?_
      refine w_call (st := []) (as := [.ref 1, iv x1]) (as' := [iv x1, .ref 1]) (p := 29) (q126 26) rfl m23 (by decide) (a_ok_i rfl (r1 hB) rfl) rfl rfl (Nat.le_of_ble_eq_true rfl) (by omega) rfl rfl (a_W.imp w ?_)
      rintro _ ⟨s4, l5, rfl, w⟩
      refine ⟨none, _, rfl, ?_⟩
      show a_W _ 126 29 [.ref 0, iv x1] [] (mkH B s4 l5) _
      refine w_aln (p := 30) (q126 29) rfl rfl ?_
      refine w_call (st := []) (as := [.ref 0]) (as' := [.ref 0]) (p := 33) (q126 30) rfl m127 (by decide) (a_ok_i rfl (r0 hB) rfl) rfl rfl (Nat.le_of_ble_eq_true rfl) (by omega) rfl rfl (a_W.imp w ?_)
      rintro _ ⟨v8, s6, l7, rfl, w⟩
      refine ⟨some (iv v8), _, rfl, ?_⟩
      show a_W _ 126 33 [.ref 0, iv x1] [iv v8] (mkH B s6 l7) _
      exact w_ret (q126 33) rfl w
theorem w131_0 {d : Nat} {B : aH} {Q : aR → Prop} (hB : a_Can B) (hd : 1 ≤ d) (x1 : Int) (s : Nat → Nat → Int32) (l : Nat → Nat → Int64) (w : (inR x1 ∧ ((x1 < 0 → (B.1 + 1 < aSc ∧ Q (.inr 13, a_mk 13 6 (mkH B s l)))) ∧ (0 ≤ x1 → (((zz s 51 4) ≤ x1 → (B.1 + 1 < aSc ∧ Q (.inr 13, a_mk 13 6 (mkH B s l)))) ∧ (x1 < (zz s 51 4) → ((0 ≤ x1 ∧ x1 < 500) ∧ Q (.inl (some (iv (zz s 52 x1.toNat))), (mkH B s l))))))))) : a_W d 131 0 [.ref 0, iv x1] [] (mkH B s l) Q := by
  refine w_aln (p := 1) (q131 0) rfl rfl ?_
  refine w_gR (p := 4) (j := 6) (v := 51) (q131 1) rfl (r0 hB) (by decide) (f0_6 hB) ?_
  refine w_iln (p := 5) (q131 4) rfl rfl ?_
  refine w_call (st := []) (as := [.ref 51, iv x1]) (as' := [iv x1, .ref 51]) (p := 8) (q131 5) rfl m132 (by decide) (a_ok_i rfl (r51 hB) rfl) rfl rfl (Nat.le_of_ble_eq_true rfl) (by omega) rfl rfl ?_
  refine w_iln (p := 1) (q132 0) rfl rfl ?_
  obtain ⟨h1, w⟩ := w
  by_cases c2 : x1 < 0
  · replace w := w.1 c2
    refine w_i1t (q132 1) h1 c2 ?_
    refine w_ic (p := 17) (q132 16) rfl ?_
    refine w_ret (q132 17) rfl ⟨_, _, rfl, ?_⟩
    show a_W _ 131 8 [.ref 0, iv x1] [iv 0] _ _
    refine w_i1f (p := 11) (q131 8) rfl (by decide) (show ¬ zc _ _ _ by unfold zc; omega) ?_
    exact w_thr (q131 11) w.1 rfl w.2
  · replace w := w.2 (Int.not_lt.mp c2)
    refine w_i1f (p := 4) (q132 1) rfl h1 c2 ?_
    refine w_iln (p := 5) (q132 4) rfl rfl ?_
    refine w_aln (p := 6) (q132 5) rfl rfl ?_
    refine w_gI (p := 9) (j := 4) (v := (zz s 51 4)) (q132 6) rfl (r51 hB) (by decide) (iv_zz s 51 4) ?_
    by_cases c3 : (zz s 51 4) ≤ x1
    · replace w := w.1 c3
      refine w_i2t (q132 9) h1 (inR_zz _ _ _) c3 ?_
      refine w_ic (p := 17) (q132 16) rfl ?_
      refine w_ret (q132 17) rfl ⟨_, _, rfl, ?_⟩
      show a_W _ 131 8 [.ref 0, iv x1] [iv 0] _ _
      refine w_i1f (p := 11) (q131 8) rfl (by decide) (show ¬ zc _ _ _ by unfold zc; omega) ?_
      exact w_thr (q131 11) w.1 rfl w.2
    · replace w := w.2 (Int.not_le.mp c3)
      refine w_i2f (p := 12) (q132 9) rfl h1 (inR_zz _ _ _) c3 ?_
      refine w_ic (p := 13) (q132 12) rfl ?_
      refine w_goto (q132 13) ?_
      refine w_ret (q132 17) rfl ⟨_, _, rfl, ?_⟩
      show a_W _ 131 8 [.ref 0, iv x1] [iv 1] _ _
      refine w_i1t (q131 8) (by decide) (show zc _ _ _ by unfold zc; omega) ?_
      refine w_aln (p := 22) (q131 21) rfl rfl ?_
      refine w_gR (p := 25) (j := 6) (v := 51) (q131 22) rfl (r0 hB) (by decide) (f0_6 hB) ?_
      refine w_gR (p := 28) (j := 0) (v := 52) (q131 25) rfl (r51 hB) (by decide) (f51_0 hB) ?_
      refine w_iln (p := 29) (q131 28) rfl rfl ?_
      obtain ⟨o4, w⟩ := w
      refine w_ia (p := 30) (v := (zz s 52 x1.toNat)) (q131 29) rfl (r52 hB) (by decide) o4 (iv_zz s 52 x1.toNat) ?_
      exact w_ret (q131 30) rfl w
theorem w134_0 {d : Nat} {B : aH} {Q : aR → Prop} (hB : a_Can B) (hd : 1 ≤ d) (x1 x2 : Int) (s : Nat → Nat → Int32) (l : Nat → Nat → Int64) (w : (inR x1 ∧ ((x1 < 0 → (B.1 + 1 < aSc ∧ Q (.inr 13, a_mk 13 6 (mkH B s l)))) ∧ (0 ≤ x1 → (((zz s 51 4) ≤ x1 → (B.1 + 1 < aSc ∧ Q (.inr 13, a_mk 13 6 (mkH B s l)))) ∧ (x1 < (zz s 51 4) → (inR x2 ∧ ((x2 < 0 → (B.1 + 1 < aSc ∧ Q (.inr 13, a_mk 13 6 (mkH B s l)))) ∧ (0 ≤ x2 → ((0 ≤ (x1 + 1) ∧ (x1 + 1) < 501) ∧ ((0 ≤ x1 ∧ x1 < 501) ∧ (inR ((zz s 53 (x1 + 1).toNat) - (zz s 53 x1.toNat)) ∧ ((((zz s 53 (x1 + 1).toNat) - (zz s 53 x1.toNat)) ≤ x2 → (B.1 + 1 < aSc ∧ Q (.inr 13, a_mk 13 6 (mkH B s l)))) ∧ (x2 < ((zz s 53 (x1 + 1).toNat) - (zz s 53 x1.toNat)) → ((0 ≤ ((zz s 53 x1.toNat) + x2) ∧ ((zz s 53 x1.toNat) + x2) < 20000) ∧ Q (.inl (some (iv (zz s 54 ((zz s 53 x1.toNat) + x2).toNat))), (mkH B s l))))))))))))))))) : a_W d 134 0 [.ref 0, iv x1, iv x2] [] (mkH B s l) Q := by
  refine w_aln (p := 1) (q134 0) rfl rfl ?_
  refine w_gR (p := 4) (j := 6) (v := 51) (q134 1) rfl (r0 hB) (by decide) (f0_6 hB) ?_
  refine w_iln (p := 5) (q134 4) rfl rfl ?_
  refine w_call (st := []) (as := [.ref 51, iv x1]) (as' := [iv x1, .ref 51]) (p := 8) (q134 5) rfl m132 (by decide) (a_ok_i rfl (r51 hB) rfl) rfl rfl (Nat.le_of_ble_eq_true rfl) (by omega) rfl rfl ?_
  refine w_iln (p := 1) (q132 0) rfl rfl ?_
  obtain ⟨h1, w⟩ := w
  by_cases c2 : x1 < 0
  · replace w := w.1 c2
    refine w_i1t (q132 1) h1 c2 ?_
    refine w_ic (p := 17) (q132 16) rfl ?_
    refine w_ret (q132 17) rfl ⟨_, _, rfl, ?_⟩
    show a_W _ 134 8 [.ref 0, iv x1, iv x2] [iv 0] _ _
    refine w_i1t (q134 8) (by decide) (show zc _ _ _ by unfold zc; omega) ?_
    exact w_thr (q134 23) w.1 rfl w.2
  · replace w := w.2 (Int.not_lt.mp c2)
    refine w_i1f (p := 4) (q132 1) rfl h1 c2 ?_
    refine w_iln (p := 5) (q132 4) rfl rfl ?_
    refine w_aln (p := 6) (q132 5) rfl rfl ?_
    refine w_gI (p := 9) (j := 4) (v := (zz s 51 4)) (q132 6) rfl (r51 hB) (by decide) (iv_zz s 51 4) ?_
    by_cases c3 : (zz s 51 4) ≤ x1
    · replace w := w.1 c3
      refine w_i2t (q132 9) h1 (inR_zz _ _ _) c3 ?_
      refine w_ic (p := 17) (q132 16) rfl ?_
      refine w_ret (q132 17) rfl ⟨_, _, rfl, ?_⟩
      show a_W _ 134 8 [.ref 0, iv x1, iv x2] [iv 0] _ _
      refine w_i1t (q134 8) (by decide) (show zc _ _ _ by unfold zc; omega) ?_
      exact w_thr (q134 23) w.1 rfl w.2
    · replace w := w.2 (Int.not_le.mp c3)
      refine w_i2f (p := 12) (q132 9) rfl h1 (inR_zz _ _ _) c3 ?_
      refine w_ic (p := 13) (q132 12) rfl ?_
      refine w_goto (q132 13) ?_
      refine w_ret (q132 17) rfl ⟨_, _, rfl, ?_⟩
      show a_W _ 134 8 [.ref 0, iv x1, iv x2] [iv 1] _ _
      refine w_i1f (p := 11) (q134 8) rfl (by decide) (show ¬ zc _ _ _ by unfold zc; omega) ?_
      refine w_aln (p := 12) (q134 11) rfl rfl ?_
      refine w_gR (p := 15) (j := 6) (v := 51) (q134 12) rfl (r0 hB) (by decide) (f0_6 hB) ?_
      refine w_iln (p := 16) (q134 15) rfl rfl ?_
      refine w_iln (p := 17) (q134 16) rfl rfl ?_
      refine w_call (st := []) (as := [.ref 51, iv x1, iv x2]) (as' := [iv x2, iv x1, .ref 51]) (p := 20) (q134 17) rfl m135 (by decide) (a_ok_i rfl (r51 hB) rfl) rfl rfl (Nat.le_of_ble_eq_true rfl) (by omega) rfl rfl ?_
      refine w_iln (p := 1) (q135 0) rfl rfl ?_
      obtain ⟨h4, w⟩ := w
      by_cases c5 : x2 < 0
      · replace w := w.1 c5
        refine w_i1t (q135 1) h4 c5 ?_
        refine w_ic (p := 28) (q135 27) rfl ?_
        refine w_ret (q135 28) rfl ⟨_, _, rfl, ?_⟩
        show a_W _ 134 20 [.ref 0, iv x1, iv x2] [iv 0] _ _
        refine w_i1f (p := 23) (q134 20) rfl (by decide) (show ¬ zc _ _ _ by unfold zc; omega) ?_
        exact w_thr (q134 23) w.1 rfl w.2
      · replace w := w.2 (Int.not_lt.mp c5)
        refine w_i1f (p := 4) (q135 1) rfl h4 c5 ?_
        refine w_iln (p := 5) (q135 4) rfl rfl ?_
        refine w_aln (p := 6) (q135 5) rfl rfl ?_
        refine w_gR (p := 9) (j := 1) (v := 53) (q135 6) rfl (r51 hB) (by decide) (f51_1 hB) ?_
        refine w_iln (p := 10) (q135 9) rfl rfl ?_
        refine w_ic (p := 11) (q135 10) rfl ?_
        refine w_add (p := 12) (q135 11) rfl ?_
        obtain ⟨o6, w⟩ := w
        refine w_ia (p := 13) (v := (zz s 53 (x1 + 1).toNat)) (q135 12) rfl (r53 hB) (by decide) o6 (iv_zz s 53 (x1 + 1).toNat) ?_
        refine w_aln (p := 14) (q135 13) rfl rfl ?_
        refine w_gR (p := 17) (j := 1) (v := 53) (q135 14) rfl (r51 hB) (by decide) (f51_1 hB) ?_
        refine w_iln (p := 18) (q135 17) rfl rfl ?_
        obtain ⟨o7, w⟩ := w
        refine w_ia (p := 19) (v := (zz s 53 x1.toNat)) (q135 18) rfl (r53 hB) (by decide) o7 (iv_zz s 53 x1.toNat) ?_
        refine w_sub (p := 20) (q135 19) rfl ?_
        obtain ⟨h8, w⟩ := w
        by_cases c9 : ((zz s 53 (x1 + 1).toNat) - (zz s 53 x1.toNat)) ≤ x2
        · replace w := w.1 c9
          refine w_i2t (q135 20) h4 h8 c9 ?_
          refine w_ic (p := 28) (q135 27) rfl ?_
          refine w_ret (q135 28) rfl ⟨_, _, rfl, ?_⟩
          show a_W _ 134 20 [.ref 0, iv x1, iv x2] [iv 0] _ _
          refine w_i1f (p := 23) (q134 20) rfl (by decide) (show ¬ zc _ _ _ by unfold zc; omega) ?_
          exact w_thr (q134 23) w.1 rfl w.2
        · replace w := w.2 (Int.not_le.mp c9)
          refine w_i2f (p := 23) (q135 20) rfl h4 h8 c9 ?_
          refine w_ic (p := 24) (q135 23) rfl ?_
          refine w_goto (q135 24) ?_
          refine w_ret (q135 28) rfl ⟨_, _, rfl, ?_⟩
          show a_W _ 134 20 [.ref 0, iv x1, iv x2] [iv 1] _ _
          refine w_i1t (q134 20) (by decide) (show zc _ _ _ by unfold zc; omega) ?_
          refine w_aln (p := 34) (q134 33) rfl rfl ?_
          refine w_gR (p := 37) (j := 6) (v := 51) (q134 34) rfl (r0 hB) (by decide) (f0_6 hB) ?_
          refine w_gR (p := 40) (j := 2) (v := 54) (q134 37) rfl (r51 hB) (by decide) (f51_2 hB) ?_
          refine w_aln (p := 41) (q134 40) rfl rfl ?_
          refine w_gR (p := 44) (j := 6) (v := 51) (q134 41) rfl (r0 hB) (by decide) (f0_6 hB) ?_
          refine w_gR (p := 47) (j := 1) (v := 53) (q134 44) rfl (r51 hB) (by decide) (f51_1 hB) ?_
          refine w_iln (p := 48) (q134 47) rfl rfl ?_
          refine w_ia (p := 49) (v := (zz s 53 x1.toNat)) (q134 48) rfl (r53 hB) (by decide) o7 (iv_zz s 53 x1.toNat) ?_
          refine w_iln (p := 50) (q134 49) rfl rfl ?_
          refine w_add (p := 51) (q134 50) rfl ?_
          obtain ⟨o10, w⟩ := w
          refine w_ia (p := 52) (v := (zz s 54 ((zz s 53 x1.toNat) + x2).toNat)) (q134 51) rfl (r54 hB) (by decide) o10 (iv_zz s 54 ((zz s 53 x1.toNat) + x2).toNat) ?_
          exact w_ret (q134 52) rfl w
theorem w143_0 {d : Nat} {B : aH} {Q : aR → Prop} (hB : a_Can B) (hd : 2 ≤ d) (x1 : Int) (s : Nat → Nat → Int32) (l : Nat → Nat → Int64) (w : (inR x1 ∧ ((x1 < 0 → Q (.inl (some (iv 0)), (mkH B (zu s 56 0 1) l))) ∧ (0 ≤ x1 → ((x1 ≤ (zz s 56 2) → a_W (d - 1 - 1) 145 0 [.ref 56, iv x1, .retAddr 0] [] (mkH B (zu s 56 0 0) l) (fun r => ∃ (s4 : Nat → Nat → Int32) (l5 : Nat → Nat → Int64), r = (.inl none, mkH B s4 l5) ∧ a_W (d - 1) 146 0 [.ref 56, .retAddr 0, .retAddr 0, .retAddr 0, .retAddr 0] [] (mkH B (zu (zu s4 56 51 0) 56 2 0) l5) (fun r => ∃ (v8 : Int) (s6 : Nat → Nat → Int32) (l7 : Nat → Nat → Int64), r = (.inl (some (iv v8)), mkH B s6 l7) ∧ a_W (d - 1) 166 0 [.ref 56, iv 0] [] (mkH B s6 l7) (fun r => ∃ (s9 : Nat → Nat → Int32) (l10 : Nat → Nat → Int64), r = (.inl none, mkH B s9 l10) ∧ (((zz s9 56 22) ≠ 0 → a_W d 143 62 [.ref 56, iv x1, iv v8, .retAddr 0] [] (mkH B s9 l10) Q) ∧ ((zz s9 56 22) = 0 → ((0 ≤ v8 ∧ v8 < 30100) ∧ ((500 < (zz s9 86 v8.toNat) → a_W d 143 50 [.ref 56, iv x1, iv v8, .retAddr 0] [] (mkH B s9 l10) Q) ∧ ((zz s9 86 v8.toNat) ≤ 500 → (((zz s9 87 v8.toNat) ≤ 50 → a_W d 143 62 [.ref 56, iv x1, iv v8, .retAddr 0] [] (mkH B s9 l10) Q) ∧ (50 < (zz s9 87 v8.toNat) → a_W d 143 50 [.ref 56, iv x1, iv v8, .retAddr 0] [] (mkH B s9 l10) Q))))))))))) ∧ ((zz s 56 2) < x1 → Q (.inl (some (iv 0)), (mkH B (zu s 56 0 1) l)))))))) : a_W d 143 0 [.ref 56, iv x1, .retAddr 0, .retAddr 0] [] (mkH B s l) Q := by
  refine w_aln (p := 1) (q143 0) rfl rfl ?_
  refine w_iln (p := 2) (q143 1) rfl rfl ?_
  refine w_call (st := []) (as := [.ref 56, iv x1]) (as' := [iv x1, .ref 56]) (p := 5) (q143 2) rfl m144 (by decide) (a_ok_i rfl (r56 hB) rfl) rfl rfl (Nat.le_of_ble_eq_true rfl) (by omega) rfl rfl ?_
  refine w_aln (p := 1) (q144 0) rfl rfl ?_
  refine w_iln (p := 2) (q144 1) rfl rfl ?_
  obtain ⟨h1, w⟩ := w
  by_cases c2 : x1 < 0
  · replace w := w.1 c2
    refine w_i1t (q144 2) h1 c2 ?_
    refine w_ic (p := 14) (q144 13) rfl ?_
    refine w_goto (q144 14) ?_
    refine w_pI (p := 21) (j := 0) (q144 18) rfl (r56 hB) (by decide) rfl ?_
    refine w_aln (p := 22) (q144 21) rfl rfl ?_
    refine w_gI (p := 25) (j := 0) (v := 1) (q144 22) rfl (r56 hB) (by decide) rfl ?_
    refine w_i1f (p := 28) (q144 25) rfl (by decide) (show ¬ zc _ _ _ by unfold zc; omega) ?_
    refine w_ic (p := 29) (q144 28) rfl ?_
    refine w_ret (q144 29) rfl ⟨_, _, rfl, ?_⟩
    show a_W _ 143 5 [.ref 56, iv x1, .retAddr 0, .retAddr 0] [iv 0] _ _
    refine w_i1f (p := 8) (q143 5) rfl (by decide) (show ¬ zc _ _ _ by unfold zc; omega) ?_
    refine w_ic (p := 9) (q143 8) rfl ?_
    exact w_ret (q143 9) rfl w
  · replace w := w.2 (Int.not_lt.mp c2)
    refine w_i1f (p := 5) (q144 2) rfl h1 c2 ?_
    refine w_iln (p := 6) (q144 5) rfl rfl ?_
    refine w_aln (p := 7) (q144 6) rfl rfl ?_
    refine w_gI (p := 10) (j := 2) (v := (zz s 56 2)) (q144 7) rfl (r56 hB) (by decide) (iv_zz s 56 2) ?_
    by_cases c3 : x1 ≤ (zz s 56 2)
    · replace w := w.1 c3
      refine w_i2t (q144 10) h1 (inR_zz _ _ _) c3 ?_
      refine w_ic (p := 18) (q144 17) rfl ?_
      refine w_pI (p := 21) (j := 0) (q144 18) rfl (r56 hB) (by decide) rfl ?_
      refine w_aln (p := 22) (q144 21) rfl rfl ?_
      refine w_gI (p := 25) (j := 0) (v := 0) (q144 22) rfl (r56 hB) (by decide) rfl ?_
      refine w_i1t (q144 25) (by decide) (show zc _ _ _ by unfold zc; omega) ?_
      refine w_aln (p := 31) (q144 30) rfl rfl ?_
      refine w_iln (p := 32) (q144 31) rfl rfl ?_
      refine w_call (st := []) (as := [.ref 56, iv x1]) (as' := [iv x1, .ref 56]) (p := 35) (q144 32) rfl m145 (by decide) (a_ok_i rfl (r56 hB) rfl) rfl rfl (Nat.le_of_ble_eq_true rfl) (by omega) rfl rfl (a_W.imp w ?_)
      rintro _ ⟨s4, l5, rfl, w⟩
      refine ⟨none, _, rfl, ?_⟩
      show a_W _ 144 35 [.ref 56, iv x1] [] (mkH B s4 l5) _
      refine w_aln (p := 36) (q144 35) rfl rfl ?_
      refine w_ic (p := 37) (q144 36) rfl ?_
      refine w_pI (p := 40) (j := 51) (q144 37) rfl (r56 hB) (by decide) rfl ?_
      refine w_aln (p := 41) (q144 40) rfl rfl ?_
      refine w_ic (p := 42) (q144 41) rfl ?_
      refine w_pI (p := 45) (j := 2) (q144 42) rfl (r56 hB) (by decide) rfl ?_
      refine w_ic (p := 46) (q144 45) rfl ?_
      refine w_ret (q144 46) rfl ⟨_, _, rfl, ?_⟩
      show a_W _ 143 5 [.ref 56, iv x1, .retAddr 0, .retAddr 0] [iv 1] _ _
      refine w_i1t (q143 5) (by decide) (show zc _ _ _ by unfold zc; omega) ?_
      refine w_aln (p := 11) (q143 10) rfl rfl ?_
      refine w_call (st := []) (as := [.ref 56]) (as' := [.ref 56]) (p := 14) (q143 11) rfl m146 (by decide) (a_ok_i rfl (r56 hB) rfl) rfl rfl (Nat.le_of_ble_eq_true rfl) (by omega) rfl rfl (a_W.imp w ?_)
      rintro _ ⟨v8, s6, l7, rfl, w⟩
      refine ⟨some (iv v8), _, rfl, ?_⟩
      show a_W _ 143 14 [.ref 56, iv x1, .retAddr 0, .retAddr 0] [iv v8] (mkH B s6 l7) _
      refine w_isn (p := 15) (ls' := [.ref 56, iv x1, iv v8, .retAddr 0]) (q143 14) rfl (Nat.le_of_ble_eq_true rfl) rfl ?_
      refine w_aln (p := 16) (q143 15) rfl rfl ?_
      refine w_ic (p := 17) (q143 16) rfl ?_
      refine w_call (st := []) (as := [.ref 56, iv 0]) (as' := [iv 0, .ref 56]) (p := 20) (q143 17) rfl m166 (by decide) (a_ok_i rfl (r56 hB) rfl) rfl rfl (Nat.le_of_ble_eq_true rfl) (by omega) rfl rfl (a_W.imp w ?_)
      rintro _ ⟨s9, l10, rfl, w⟩
      refine ⟨none, _, rfl, ?_⟩
      show a_W _ 143 20 [.ref 56, iv x1, iv v8, .retAddr 0] [] (mkH B s9 l10) _
      refine w_aln (p := 21) (q143 20) rfl rfl ?_
      refine w_gI (p := 24) (j := 22) (v := (zz s9 56 22)) (q143 21) rfl (r56 hB) (by decide) (iv_zz s9 56 22) ?_
      by_cases c11 : (zz s9 56 22) ≠ 0
      · replace w := w.1 c11
        refine w_i1t (q143 24) (inR_zz _ _ _) c11 ?_
        exact w
      · replace w := w.2 (Decidable.not_not.mp c11)
        refine w_i1f (p := 27) (q143 24) rfl (inR_zz _ _ _) c11 ?_
        refine w_aln (p := 28) (q143 27) rfl rfl ?_
        refine w_gR (p := 31) (j := 46) (v := 86) (q143 28) rfl (r56 hB) (by decide) (f56_46 hB) ?_
        refine w_iln (p := 32) (q143 31) rfl rfl ?_
        obtain ⟨o12, w⟩ := w
        refine w_ia (p := 33) (v := (zz s9 86 v8.toNat)) (q143 32) rfl (r86 hB) (by decide) o12 (iv_zz s9 86 v8.toNat) ?_
        refine w_sp (p := 36) (q143 33) rfl (by decide) ?_
        by_cases c13 : 500 < (zz s9 86 v8.toNat)
        · replace w := w.1 c13
          refine w_i2t (q143 36) (inR_zz _ _ _) (by decide) c13 ?_
          exact w
        · replace w := w.2 (Int.not_lt.mp c13)
          refine w_i2f (p := 39) (q143 36) rfl (inR_zz _ _ _) (by decide) c13 ?_
          refine w_aln (p := 40) (q143 39) rfl rfl ?_
          refine w_gR (p := 43) (j := 47) (v := 87) (q143 40) rfl (r56 hB) (by decide) (f56_47 hB) ?_
          refine w_iln (p := 44) (q143 43) rfl rfl ?_
          refine w_ia (p := 45) (v := (zz s9 87 v8.toNat)) (q143 44) rfl (r87 hB) (by decide) o12 (iv_zz s9 87 v8.toNat) ?_
          refine w_bp (p := 47) (q143 45) rfl (by decide) ?_
          by_cases c14 : (zz s9 87 v8.toNat) ≤ 50
          · replace w := w.1 c14
            refine w_i2t (q143 47) (inR_zz _ _ _) (by decide) c14 ?_
            exact w
          · replace w := w.2 (Int.not_le.mp c14)
            refine w_i2f (p := 50) (q143 47) rfl (inR_zz _ _ _) (by decide) c14 ?_
            exact w
    · replace w := w.2 (Int.not_le.mp c3)
      refine w_i2f (p := 13) (q144 10) rfl h1 (inR_zz _ _ _) c3 ?_
      refine w_ic (p := 14) (q144 13) rfl ?_
      refine w_goto (q144 14) ?_
      refine w_pI (p := 21) (j := 0) (q144 18) rfl (r56 hB) (by decide) rfl ?_
      refine w_aln (p := 22) (q144 21) rfl rfl ?_
      refine w_gI (p := 25) (j := 0) (v := 1) (q144 22) rfl (r56 hB) (by decide) rfl ?_
      refine w_i1f (p := 28) (q144 25) rfl (by decide) (show ¬ zc _ _ _ by unfold zc; omega) ?_
      refine w_ic (p := 29) (q144 28) rfl ?_
      refine w_ret (q144 29) rfl ⟨_, _, rfl, ?_⟩
      show a_W _ 143 5 [.ref 56, iv x1, .retAddr 0, .retAddr 0] [iv 0] _ _
      refine w_i1f (p := 8) (q143 5) rfl (by decide) (show ¬ zc _ _ _ by unfold zc; omega) ?_
      refine w_ic (p := 9) (q143 8) rfl ?_
      exact w_ret (q143 9) rfl w
theorem w143_50 {d : Nat} {B : aH} {Q : aR → Prop} (hB : a_Can B) (hd : 1 ≤ d) (x1 x2 : Int) (s : Nat → Nat → Int32) (l : Nat → Nat → Int64) (w : a_W (d - 1) 152 0 [.ref 56, iv 8, iv (zz s 72 0)] [] (mkH B s l) (fun r => ∃ (s1 : Nat → Nat → Int32) (l2 : Nat → Nat → Int64), r = (.inl none, mkH B s1 l2) ∧ a_W d 143 62 [.ref 56, iv x1, iv x2, .retAddr 0] [] (mkH B s1 l2) Q)) : a_W d 143 50 [.ref 56, iv x1, iv x2, .retAddr 0] [] (mkH B s l) Q := by
  refine w_aln (p := 51) (q143 50) rfl rfl ?_
  refine w_bp (p := 53) (q143 51) rfl (by decide) ?_
  refine w_aln (p := 54) (q143 53) rfl rfl ?_
  refine w_gR (p := 57) (j := 28) (v := 72) (q143 54) rfl (r56 hB) (by decide) (f56_28 hB) ?_
  refine w_ic (p := 58) (q143 57) rfl ?_
  refine w_ia (p := 59) (v := (zz s 72 0)) (q143 58) rfl (r72 hB) (by decide) (by decide) (iv_zz s 72 0) ?_
  refine w_call (st := []) (as := [.ref 56, iv 8, iv (zz s 72 0)]) (as' := [iv (zz s 72 0), iv 8, .ref 56]) (p := 62) (q143 59) rfl m152 (by decide) (a_ok_i rfl (r56 hB) rfl) rfl rfl (Nat.le_of_ble_eq_true rfl) (by omega) rfl rfl (a_W.imp w ?_)
  rintro _ ⟨s1, l2, rfl, w⟩
  refine ⟨none, _, rfl, ?_⟩
  show a_W _ 143 62 [.ref 56, iv x1, iv x2, .retAddr 0] [] (mkH B s1 l2) _
  exact w
theorem w143_62 {d : Nat} {B : aH} {Q : aR → Prop} (hB : a_Can B) (x1 x2 : Int) (s : Nat → Nat → Int32) (l : Nat → Nat → Int64) (w : a_W d 143 64 [.ref 56, iv x1, iv x2, iv 0] [] (mkH B s l) Q) : a_W d 143 62 [.ref 56, iv x1, iv x2, .retAddr 0] [] (mkH B s l) Q := by
  refine w_ic (p := 63) (q143 62) rfl ?_
  refine w_isn (p := 64) (ls' := [.ref 56, iv x1, iv x2, iv 0]) (q143 63) rfl (Nat.le_of_ble_eq_true rfl) rfl ?_
  exact w
theorem w143_64 {d : Nat} {B : aH} {Q : aR → Prop} (hB : a_Can B) (hd : 1 ≤ d) (x1 x2 x3 : Int) (s : Nat → Nat → Int32) (l : Nat → Nat → Int64) (w : (inR x3 ∧ (((zz s 56 33) ≤ x3 → a_W d 143 90 [.ref 56, iv x1, iv x2, iv x3] [] (mkH B s l) Q) ∧ (x3 < (zz s 56 33) → (((zz s 56 22) ≠ 0 → a_W d 143 90 [.ref 56, iv x1, iv x2, iv x3] [] (mkH B s l) Q) ∧ ((zz s 56 22) = 0 → a_W (d - 1) 183 0 [.ref 56, iv x3] [] (mkH B s l) (fun r => ∃ (s4 : Nat → Nat → Int32) (l5 : Nat → Nat → Int64), r = (.inl none, mkH B s4 l5) ∧ a_W d 143 64 [.ref 56, iv x1, iv x2, iv (x3 + 1)] [] (mkH B s4 l5) Q))))))) : a_W d 143 64 [.ref 56, iv x1, iv x2, iv x3] [] (mkH B s l) Q := by
  refine w_iln (p := 65) (q143 64) rfl rfl ?_
  refine w_aln (p := 66) (q143 65) rfl rfl ?_
  refine w_gI (p := 69) (j := 33) (v := (zz s 56 33)) (q143 66) rfl (r56 hB) (by decide) (iv_zz s 56 33) ?_
  obtain ⟨h1, w⟩ := w
  by_cases c2 : (zz s 56 33) ≤ x3
  · replace w := w.1 c2
    refine w_i2t (q143 69) h1 (inR_zz _ _ _) c2 ?_
    exact w
  · replace w := w.2 (Int.not_le.mp c2)
    refine w_i2f (p := 72) (q143 69) rfl h1 (inR_zz _ _ _) c2 ?_
    refine w_aln (p := 73) (q143 72) rfl rfl ?_
    refine w_gI (p := 76) (j := 22) (v := (zz s 56 22)) (q143 73) rfl (r56 hB) (by decide) (iv_zz s 56 22) ?_
    by_cases c3 : (zz s 56 22) ≠ 0
    · replace w := w.1 c3
      refine w_i1t (q143 76) (inR_zz _ _ _) c3 ?_
      exact w
    · replace w := w.2 (Decidable.not_not.mp c3)
      refine w_i1f (p := 79) (q143 76) rfl (inR_zz _ _ _) c3 ?_
      refine w_aln (p := 80) (q143 79) rfl rfl ?_
      refine w_iln (p := 81) (q143 80) rfl rfl ?_
      refine w_call (st := []) (as := [.ref 56, iv x3]) (as' := [iv x3, .ref 56]) (p := 84) (q143 81) rfl m183 (by decide) (a_ok_i rfl (r56 hB) rfl) rfl rfl (Nat.le_of_ble_eq_true rfl) (by omega) rfl rfl (a_W.imp w ?_)
      rintro _ ⟨s4, l5, rfl, w⟩
      refine ⟨none, _, rfl, ?_⟩
      show a_W _ 143 84 [.ref 56, iv x1, iv x2, iv x3] [] (mkH B s4 l5) _
      refine w_inc (p := 87) (ls' := [.ref 56, iv x1, iv x2, iv (x3 + 1)]) (q143 84) rfl rfl rfl ?_
      refine w_goto (q143 87) ?_
      exact w
theorem w143_90 {d : Nat} {B : aH} {Q : aR → Prop} (hB : a_Can B) (hd : 1 ≤ d) (x1 x2 x3 : Int) (s : Nat → Nat → Int32) (l : Nat → Nat → Int64) (w : (((zz s 56 22) ≠ 0 → a_W d 143 121 [.ref 56, iv x1, iv x2, iv x3] [] (mkH B (zu s 56 59 0) l) Q) ∧ ((zz s 56 22) = 0 → a_W (d - 1) 184 0 [.ref 56, iv x2, .retAddr 0] [] (mkH B (zu s 56 59 0) l) (fun r => ∃ (v4 : Int) (s2 : Nat → Nat → Int32) (l3 : Nat → Nat → Int64), r = (.inl (some (iv v4)), mkH B s2 l3) ∧ (inR v4 ∧ ((v4 ≠ 0 → a_W d 143 121 [.ref 56, iv x1, iv x2, iv x3] [] (mkH B s2 l3) Q) ∧ (v4 = 0 → a_W (d - 1) 152 0 [.ref 56, iv 4, iv (zz s2 72 0)] [] (mkH B s2 l3) (fun r => ∃ (s7 : Nat → Nat → Int32) (l8 : Nat → Nat → Int64), r = (.inl none, mkH B s7 l8) ∧ a_W d 143 121 [.ref 56, iv x1, iv x2, iv x3] [] (mkH B s7 l8) Q)))))))) : a_W d 143 90 [.ref 56, iv x1, iv x2, iv x3] [] (mkH B s l) Q := by
  refine w_aln (p := 91) (q143 90) rfl rfl ?_
  refine w_ic (p := 92) (q143 91) rfl ?_
  refine w_pI (p := 95) (j := 59) (q143 92) rfl (r56 hB) (by decide) rfl ?_
  refine w_aln (p := 96) (q143 95) rfl rfl ?_
  refine w_gI (p := 99) (j := 22) (v := (zz s 56 22)) (q143 96) rfl (r56 hB) (by decide) (iv_zz s 56 22) ?_
  by_cases c1 : (zz s 56 22) ≠ 0
  · replace w := w.1 c1
    refine w_i1t (q143 99) (inR_zz _ _ _) c1 ?_
    exact w
  · replace w := w.2 (Decidable.not_not.mp c1)
    refine w_i1f (p := 102) (q143 99) rfl (inR_zz _ _ _) c1 ?_
    refine w_aln (p := 103) (q143 102) rfl rfl ?_
    refine w_iln (p := 104) (q143 103) rfl rfl ?_
    refine w_call (st := []) (as := [.ref 56, iv x2]) (as' := [iv x2, .ref 56]) (p := 107) (q143 104) rfl m184 (by decide) (a_ok_i rfl (r56 hB) rfl) rfl rfl (Nat.le_of_ble_eq_true rfl) (by omega) rfl rfl (a_W.imp w ?_)
    rintro _ ⟨v4, s2, l3, rfl, w⟩
    refine ⟨some (iv v4), _, rfl, ?_⟩
    show a_W _ 143 107 [.ref 56, iv x1, iv x2, iv x3] [iv v4] (mkH B s2 l3) _
    obtain ⟨h5, w⟩ := w
    by_cases c6 : v4 ≠ 0
    · replace w := w.1 c6
      refine w_i1t (q143 107) h5 c6 ?_
      exact w
    · replace w := w.2 (Decidable.not_not.mp c6)
      refine w_i1f (p := 110) (q143 107) rfl h5 c6 ?_
      refine w_aln (p := 111) (q143 110) rfl rfl ?_
      refine w_ic (p := 112) (q143 111) rfl ?_
      refine w_aln (p := 113) (q143 112) rfl rfl ?_
      refine w_gR (p := 116) (j := 28) (v := 72) (q143 113) rfl (r56 hB) (by decide) (f56_28 hB) ?_
      refine w_ic (p := 117) (q143 116) rfl ?_
      refine w_ia (p := 118) (v := (zz s2 72 0)) (q143 117) rfl (r72 hB) (by decide) (by decide) (iv_zz s2 72 0) ?_
      refine w_call (st := []) (as := [.ref 56, iv 4, iv (zz s2 72 0)]) (as' := [iv (zz s2 72 0), iv 4, .ref 56]) (p := 121) (q143 118) rfl m152 (by decide) (a_ok_i rfl (r56 hB) rfl) rfl rfl (Nat.le_of_ble_eq_true rfl) (by omega) rfl rfl (a_W.imp w ?_)
      rintro _ ⟨s7, l8, rfl, w⟩
      refine ⟨none, _, rfl, ?_⟩
      show a_W _ 143 121 [.ref 56, iv x1, iv x2, iv x3] [] (mkH B s7 l8) _
      exact w
theorem w143_121 {d : Nat} {B : aH} {Q : aR → Prop} (hB : a_Can B) (hd : 1 ≤ d) (x1 x2 x3 : Int) (s : Nat → Nat → Int32) (l : Nat → Nat → Int64) (w : (((zz s 56 22) ≠ 0 → a_W d 143 139 [.ref 56, iv x1, iv x2, iv x3] [] (mkH B (zu s 56 62 0) l) Q) ∧ ((zz s 56 22) = 0 → a_W (d - 1) 187 0 [.ref 56, iv x2, .retAddr 0, .retAddr 0, .retAddr 0, .retAddr 0, .retAddr 0] [] (mkH B (zu s 56 62 0) l) (fun r => ∃ (v4 : Int) (s2 : Nat → Nat → Int32) (l3 : Nat → Nat → Int64), r = (.inl (some (iv v4)), mkH B s2 l3) ∧ a_W d 143 139 [.ref 56, iv x1, iv x2, iv x3] [] (mkH B s2 l3) Q)))) : a_W d 143 121 [.ref 56, iv x1, iv x2, iv x3] [] (mkH B s l) Q := by
  refine w_aln (p := 122) (q143 121) rfl rfl ?_
  refine w_ic (p := 123) (q143 122) rfl ?_
  refine w_pI (p := 126) (j := 62) (q143 123) rfl (r56 hB) (by decide) rfl ?_
  refine w_aln (p := 127) (q143 126) rfl rfl ?_
  refine w_gI (p := 130) (j := 22) (v := (zz s 56 22)) (q143 127) rfl (r56 hB) (by decide) (iv_zz s 56 22) ?_
  by_cases c1 : (zz s 56 22) ≠ 0
  · replace w := w.1 c1
    refine w_i1t (q143 130) (inR_zz _ _ _) c1 ?_
    exact w
  · replace w := w.2 (Decidable.not_not.mp c1)
    refine w_i1f (p := 133) (q143 130) rfl (inR_zz _ _ _) c1 ?_
    refine w_aln (p := 134) (q143 133) rfl rfl ?_
    refine w_iln (p := 135) (q143 134) rfl rfl ?_
    refine w_call (st := []) (as := [.ref 56, iv x2]) (as' := [iv x2, .ref 56]) (p := 138) (q143 135) rfl m187 (by decide) (a_ok_i rfl (r56 hB) rfl) rfl rfl (Nat.le_of_ble_eq_true rfl) (by omega) rfl rfl (a_W.imp w ?_)
    rintro _ ⟨v4, s2, l3, rfl, w⟩
    refine ⟨some (iv v4), _, rfl, ?_⟩
    show a_W _ 143 138 [.ref 56, iv x1, iv x2, iv x3] [iv v4] (mkH B s2 l3) _
    refine w_pop (p := 139) (q143 138) rfl ?_
    exact w
theorem w143_139 {d : Nat} {B : aH} {Q : aR → Prop} (hB : a_Can B) (hd : 1 ≤ d) (x1 x2 x3 : Int) (s : Nat → Nat → Int32) (l : Nat → Nat → Int64) (w : (((zz s 56 22) ≠ 0 → a_W d 143 150 [.ref 56, iv x1, iv x2, iv x3] [] (mkH B s l) Q) ∧ ((zz s 56 22) = 0 → a_W (d - 1) 198 0 [.ref 56, .retAddr 0, .retAddr 0] [] (mkH B s l) (fun r => ∃ (s2 : Nat → Nat → Int32) (l3 : Nat → Nat → Int64), r = (.inl none, mkH B s2 l3) ∧ a_W d 143 150 [.ref 56, iv x1, iv x2, iv x3] [] (mkH B s2 l3) Q)))) : a_W d 143 139 [.ref 56, iv x1, iv x2, iv x3] [] (mkH B s l) Q := by
  refine w_aln (p := 140) (q143 139) rfl rfl ?_
  refine w_gI (p := 143) (j := 22) (v := (zz s 56 22)) (q143 140) rfl (r56 hB) (by decide) (iv_zz s 56 22) ?_
  by_cases c1 : (zz s 56 22) ≠ 0
  · replace w := w.1 c1
    refine w_i1t (q143 143) (inR_zz _ _ _) c1 ?_
    exact w
  · replace w := w.2 (Decidable.not_not.mp c1)
    refine w_i1f (p := 146) (q143 143) rfl (inR_zz _ _ _) c1 ?_
    refine w_aln (p := 147) (q143 146) rfl rfl ?_
    refine w_call (st := []) (as := [.ref 56]) (as' := [.ref 56]) (p := 150) (q143 147) rfl m198 (by decide) (a_ok_i rfl (r56 hB) rfl) rfl rfl (Nat.le_of_ble_eq_true rfl) (by omega) rfl rfl (a_W.imp w ?_)
    rintro _ ⟨s2, l3, rfl, w⟩
    refine ⟨none, _, rfl, ?_⟩
    show a_W _ 143 150 [.ref 56, iv x1, iv x2, iv x3] [] (mkH B s2 l3) _
    exact w
theorem w143_150 {d : Nat} {B : aH} {Q : aR → Prop} (hB : a_Can B) (hd : 1 ≤ d) (x1 x2 x3 : Int) (s : Nat → Nat → Int32) (l : Nat → Nat → Int64) (w : (((zz s 56 22) ≤ 0 → a_W (d - 1) 200 0 [.ref 56, .retAddr 0] [] (mkH B s l) (fun r => ∃ (s2 : Nat → Nat → Int32) (l3 : Nat → Nat → Int64), r = (.inl none, mkH B s2 l3) ∧ Q (.inl (some (iv (zz s2 56 18))), (mkH B s2 l3)))) ∧ (0 < (zz s 56 22) → Q (.inl (some (iv (-1))), (mkH B s l))))) : a_W d 143 150 [.ref 56, iv x1, iv x2, iv x3] [] (mkH B s l) Q := by
  refine w_aln (p := 151) (q143 150) rfl rfl ?_
  refine w_gI (p := 154) (j := 22) (v := (zz s 56 22)) (q143 151) rfl (r56 hB) (by decide) (iv_zz s 56 22) ?_
  by_cases c1 : (zz s 56 22) ≤ 0
  · replace w := w.1 c1
    refine w_i1t (q143 154) (inR_zz _ _ _) c1 ?_
    refine w_aln (p := 160) (q143 159) rfl rfl ?_
    refine w_call (st := []) (as := [.ref 56]) (as' := [.ref 56]) (p := 163) (q143 160) rfl m200 (by decide) (a_ok_i rfl (r56 hB) rfl) rfl rfl (Nat.le_of_ble_eq_true rfl) (by omega) rfl rfl (a_W.imp w ?_)
    rintro _ ⟨s2, l3, rfl, w⟩
    refine ⟨none, _, rfl, ?_⟩
    show a_W _ 143 163 [.ref 56, iv x1, iv x2, iv x3] [] (mkH B s2 l3) _
    refine w_aln (p := 164) (q143 163) rfl rfl ?_
    refine w_gI (p := 167) (j := 18) (v := (zz s2 56 18)) (q143 164) rfl (r56 hB) (by decide) (iv_zz s2 56 18) ?_
    exact w_ret (q143 167) rfl w
  · replace w := w.2 (Int.not_le.mp c1)
    refine w_i1f (p := 157) (q143 154) rfl (inR_zz _ _ _) c1 ?_
    refine w_ic (p := 158) (q143 157) rfl ?_
    exact w_ret (q143 158) rfl w
set_option maxRecDepth 10000 in
theorem w202_0 {d : Nat} {B : aH} {Q : aR → Prop} (hB : a_Can B) (hd : 2 ≤ d) (x1 : Int) (s : Nat → Nat → Int32) (l : Nat → Nat → Int64) (w : (inR x1 ∧ ((x1 < 0 → Q (.inl (some (iv 0)), (mkH B (zu s 56 0 1) l))) ∧ (0 ≤ x1 → ((x1 ≤ (zz s 56 2) → a_W (d - 1 - 1) 145 0 [.ref 56, iv x1, .retAddr 0] [] (mkH B (zu s 56 0 0) l) (fun r => ∃ (s4 : Nat → Nat → Int32) (l5 : Nat → Nat → Int64), r = (.inl none, mkH B s4 l5) ∧ a_W (d - 1) 148 0 [.ref 56, iv 0, .retAddr 0] [] (mkH B (zu (zu s4 56 51 0) 56 2 0) l5) (fun r => ∃ (v8 : Int) (s6 : Nat → Nat → Int32) (l7 : Nat → Nat → Int64), r = (.inl (some (iv v8)), mkH B s6 l7) ∧ (inR v8 ∧ ((v8 = 1 → a_W d 202 45 [.ref 56, iv x1, iv v8, .retAddr 0, .retAddr 0, .retAddr 0] [] (mkH B s6 l7) Q) ∧ (v8 ≠ 1 → ((v8 = 25 → a_W d 202 45 [.ref 56, iv x1, iv v8, .retAddr 0, .retAddr 0, .retAddr 0] [] (mkH B s6 l7) Q) ∧ (v8 ≠ 25 → ((v8 = 26 → a_W d 202 45 [.ref 56, iv x1, iv v8, .retAddr 0, .retAddr 0, .retAddr 0] [] (mkH B s6 l7) Q) ∧ (v8 ≠ 26 → ((v8 = 27 → a_W d 202 45 [.ref 56, iv x1, iv v8, .retAddr 0, .retAddr 0, .retAddr 0] [] (mkH B s6 l7) Q) ∧ (v8 ≠ 27 → ((v8 ≠ 28 → a_W (d - 1) 152 0 [.ref 56, iv 2, iv (zz s6 72 0)] [] (mkH B s6 l7) (fun r => ∃ (s15 : Nat → Nat → Int32) (l16 : Nat → Nat → Int64), r = (.inl none, mkH B s15 l16) ∧ a_W d 202 69 [.ref 56, iv x1, iv v8, .retAddr 0, .retAddr 0, .retAddr 0] [] (mkH B s15 l16) Q)) ∧ (v8 = 28 → a_W d 202 45 [.ref 56, iv x1, iv v8, .retAddr 0, .retAddr 0, .retAddr 0] [] (mkH B s6 l7) Q)))))))))))))) ∧ ((zz s 56 2) < x1 → Q (.inl (some (iv 0)), (mkH B (zu s 56 0 1) l)))))))) : a_W d 202 0 [.ref 56, iv x1, .retAddr 0, .retAddr 0, .retAddr 0, .retAddr 0] [] (mkH B s l) Q := by
  refine w_aln (p := 1) (q202 0) rfl rfl ?_
  refine w_iln (p := 2) (q202 1) rfl rfl ?_
  refine w_call (st := []) (as := [.ref 56, iv x1]) (as' := [iv x1, .ref 56]) (p := 5) (q202 2) rfl m144 (by decide) (a_ok_i rfl (r56 hB) rfl) rfl rfl (Nat.le_of_ble_eq_true rfl) (by omega) rfl rfl ?_
  refine w_aln (p := 1) (q144 0) rfl rfl ?_
  refine w_iln (p := 2) (q144 1) rfl rfl ?_
  obtain ⟨h1, w⟩ := w
  by_cases c2 : x1 < 0
  · replace w := w.1 c2
    refine w_i1t (q144 2) h1 c2 ?_
    refine w_ic (p := 14) (q144 13) rfl ?_
    refine w_goto (q144 14) ?_
    refine w_pI (p := 21) (j := 0) (q144 18) rfl (r56 hB) (by decide) rfl ?_
    refine w_aln (p := 22) (q144 21) rfl rfl ?_
    refine w_gI (p := 25) (j := 0) (v := 1) (q144 22) rfl (r56 hB) (by decide) rfl ?_
    refine w_i1f (p := 28) (q144 25) rfl (by decide) (show ¬ zc _ _ _ by unfold zc; omega) ?_
    refine w_ic (p := 29) (q144 28) rfl ?_
    refine w_ret (q144 29) rfl ⟨_, _, rfl, ?_⟩
    show a_W _ 202 5 [.ref 56, iv x1, .retAddr 0, .retAddr 0, .retAddr 0, .retAddr 0] [iv 0] _ _
    refine w_i1f (p := 8) (q202 5) rfl (by decide) (show ¬ zc _ _ _ by unfold zc; omega) ?_
    refine w_ic (p := 9) (q202 8) rfl ?_
    exact w_ret (q202 9) rfl w
  · replace w := w.2 (Int.not_lt.mp c2)
    refine w_i1f (p := 5) (q144 2) rfl h1 c2 ?_
    refine w_iln (p := 6) (q144 5) rfl rfl ?_
    refine w_aln (p := 7) (q144 6) rfl rfl ?_
    refine w_gI (p := 10) (j := 2) (v := (zz s 56 2)) (q144 7) rfl (r56 hB) (by decide) (iv_zz s 56 2) ?_
    by_cases c3 : x1 ≤ (zz s 56 2)
    · replace w := w.1 c3
      refine w_i2t (q144 10) h1 (inR_zz _ _ _) c3 ?_
      refine w_ic (p := 18) (q144 17) rfl ?_
      refine w_pI (p := 21) (j := 0) (q144 18) rfl (r56 hB) (by decide) rfl ?_
      refine w_aln (p := 22) (q144 21) rfl rfl ?_
      refine w_gI (p := 25) (j := 0) (v := 0) (q144 22) rfl (r56 hB) (by decide) rfl ?_
      refine w_i1t (q144 25) (by decide) (show zc _ _ _ by unfold zc; omega) ?_
      refine w_aln (p := 31) (q144 30) rfl rfl ?_
      refine w_iln (p := 32) (q144 31) rfl rfl ?_
      refine w_call (st := []) (as := [.ref 56, iv x1]) (as' := [iv x1, .ref 56]) (p := 35) (q144 32) rfl m145 (by decide) (a_ok_i rfl (r56 hB) rfl) rfl rfl (Nat.le_of_ble_eq_true rfl) (by omega) rfl rfl (a_W.imp w ?_)
      rintro _ ⟨s4, l5, rfl, w⟩
      refine ⟨none, _, rfl, ?_⟩
      show a_W _ 144 35 [.ref 56, iv x1] [] (mkH B s4 l5) _
      refine w_aln (p := 36) (q144 35) rfl rfl ?_
      refine w_ic (p := 37) (q144 36) rfl ?_
      refine w_pI (p := 40) (j := 51) (q144 37) rfl (r56 hB) (by decide) rfl ?_
      refine w_aln (p := 41) (q144 40) rfl rfl ?_
      refine w_ic (p := 42) (q144 41) rfl ?_
      refine w_pI (p := 45) (j := 2) (q144 42) rfl (r56 hB) (by decide) rfl ?_
      refine w_ic (p := 46) (q144 45) rfl ?_
      refine w_ret (q144 46) rfl ⟨_, _, rfl, ?_⟩
      show a_W _ 202 5 [.ref 56, iv x1, .retAddr 0, .retAddr 0, .retAddr 0, .retAddr 0] [iv 1] _ _
      refine w_i1t (q202 5) (by decide) (show zc _ _ _ by unfold zc; omega) ?_
      refine w_aln (p := 11) (q202 10) rfl rfl ?_
      refine w_ic (p := 12) (q202 11) rfl ?_
      refine w_call (st := []) (as := [.ref 56, iv 0]) (as' := [iv 0, .ref 56]) (p := 15) (q202 12) rfl m148 (by decide) (a_ok_i rfl (r56 hB) rfl) rfl rfl (Nat.le_of_ble_eq_true rfl) (by omega) rfl rfl (a_W.imp w ?_)
      rintro _ ⟨v8, s6, l7, rfl, w⟩
      refine ⟨some (iv v8), _, rfl, ?_⟩
      show a_W _ 202 15 [.ref 56, iv x1, .retAddr 0, .retAddr 0, .retAddr 0, .retAddr 0] [iv v8] (mkH B s6 l7) _
      refine w_isn (p := 16) (ls' := [.ref 56, iv x1, iv v8, .retAddr 0, .retAddr 0, .retAddr 0]) (q202 15) rfl (Nat.le_of_ble_eq_true rfl) rfl ?_
      refine w_iln (p := 17) (q202 16) rfl rfl ?_
      refine w_ic (p := 18) (q202 17) rfl ?_
      obtain ⟨h9, w⟩ := w
      by_cases c10 : v8 = 1
      · replace w := w.1 c10
        refine w_i2t (q202 18) h9 (by decide) c10 ?_
        exact w
      · replace w := w.2 c10
        refine w_i2f (p := 21) (q202 18) rfl h9 (by decide) c10 ?_
        refine w_iln (p := 22) (q202 21) rfl rfl ?_
        refine w_bp (p := 24) (q202 22) rfl (by decide) ?_
        by_cases c11 : v8 = 25
        · replace w := w.1 c11
          refine w_i2t (q202 24) h9 (by decide) c11 ?_
          exact w
        · replace w := w.2 c11
          refine w_i2f (p := 27) (q202 24) rfl h9 (by decide) c11 ?_
          refine w_iln (p := 28) (q202 27) rfl rfl ?_
          refine w_bp (p := 30) (q202 28) rfl (by decide) ?_
          by_cases c12 : v8 = 26
          · replace w := w.1 c12
            refine w_i2t (q202 30) h9 (by decide) c12 ?_
            exact w
          · replace w := w.2 c12
            refine w_i2f (p := 33) (q202 30) rfl h9 (by decide) c12 ?_
            refine w_iln (p := 34) (q202 33) rfl rfl ?_
            refine w_bp (p := 36) (q202 34) rfl (by decide) ?_
            by_cases c13 : v8 = 27
            · replace w := w.1 c13
              refine w_i2t (q202 36) h9 (by decide) c13 ?_
              exact w
            · replace w := w.2 c13
              refine w_i2f (p := 39) (q202 36) rfl h9 (by decide) c13 ?_
              refine w_iln (p := 40) (q202 39) rfl rfl ?_
              refine w_bp (p := 42) (q202 40) rfl (by decide) ?_
              by_cases c14 : v8 ≠ 28
              · replace w := w.1 c14
                refine w_i2t (q202 42) h9 (by decide) c14 ?_
                refine w_aln (p := 59) (q202 58) rfl rfl ?_
                refine w_ic (p := 60) (q202 59) rfl ?_
                refine w_aln (p := 61) (q202 60) rfl rfl ?_
                refine w_gR (p := 64) (j := 28) (v := 72) (q202 61) rfl (r56 hB) (by decide) (f56_28 hB) ?_
                refine w_ic (p := 65) (q202 64) rfl ?_
                refine w_ia (p := 66) (v := (zz s6 72 0)) (q202 65) rfl (r72 hB) (by decide) (by decide) (iv_zz s6 72 0) ?_
                refine w_call (st := []) (as := [.ref 56, iv 2, iv (zz s6 72 0)]) (as' := [iv (zz s6 72 0), iv 2, .ref 56]) (p := 69) (q202 66) rfl m152 (by decide) (a_ok_i rfl (r56 hB) rfl) rfl rfl (Nat.le_of_ble_eq_true rfl) (by omega) rfl rfl (a_W.imp w ?_)
                rintro _ ⟨s15, l16, rfl, w⟩
                refine ⟨none, _, rfl, ?_⟩
                show a_W _ 202 69 [.ref 56, iv x1, iv v8, .retAddr 0, .retAddr 0, .retAddr 0] [] (mkH B s15 l16) _
                exact w
              · replace w := w.2 (Decidable.not_not.mp c14)
                refine w_i2f (p := 45) (q202 42) rfl h9 (by decide) c14 ?_
                exact w
    · replace w := w.2 (Int.not_le.mp c3)
      refine w_i2f (p := 13) (q144 10) rfl h1 (inR_zz _ _ _) c3 ?_
      refine w_ic (p := 14) (q144 13) rfl ?_
      refine w_goto (q144 14) ?_
      refine w_pI (p := 21) (j := 0) (q144 18) rfl (r56 hB) (by decide) rfl ?_
      refine w_aln (p := 22) (q144 21) rfl rfl ?_
      refine w_gI (p := 25) (j := 0) (v := 1) (q144 22) rfl (r56 hB) (by decide) rfl ?_
      refine w_i1f (p := 28) (q144 25) rfl (by decide) (show ¬ zc _ _ _ by unfold zc; omega) ?_
      refine w_ic (p := 29) (q144 28) rfl ?_
      refine w_ret (q144 29) rfl ⟨_, _, rfl, ?_⟩
      show a_W _ 202 5 [.ref 56, iv x1, .retAddr 0, .retAddr 0, .retAddr 0, .retAddr 0] [iv 0] _ _
      refine w_i1f (p := 8) (q202 5) rfl (by decide) (show ¬ zc _ _ _ by unfold zc; omega) ?_
      refine w_ic (p := 9) (q202 8) rfl ?_
      exact w_ret (q202 9) rfl w
set_option maxRecDepth 10000 in
theorem w202_45 {d : Nat} {B : aH} {Q : aR → Prop} (hB : a_Can B) (x1 x2 : Int) (s : Nat → Nat → Int32) (l : Nat → Nat → Int64) (w : a_W d 202 69 [.ref 56, iv x1, iv x2, .retAddr 0, .retAddr 0, .retAddr 0] [] (mkH B (zu s 56 31 ((zz s 56 31) + 1)) l) Q) : a_W d 202 45 [.ref 56, iv x1, iv x2, .retAddr 0, .retAddr 0, .retAddr 0] [] (mkH B s l) Q := by
  refine w_aln (p := 46) (q202 45) rfl rfl ?_
  refine w_dupr (p := 47) (q202 46) rfl ?_
  refine w_gI (p := 50) (j := 31) (v := (zz s 56 31)) (q202 47) rfl (r56 hB) (by decide) (iv_zz s 56 31) ?_
  refine w_ic (p := 51) (q202 50) rfl ?_
  refine w_add (p := 52) (q202 51) rfl ?_
  refine w_pI (p := 55) (j := 31) (q202 52) rfl (r56 hB) (by decide) rfl ?_
  refine w_goto (q202 55) ?_
  exact w
set_option maxRecDepth 10000 in
theorem w202_69 {d : Nat} {B : aH} {Q : aR → Prop} (hB : a_Can B) (hd : 1 ≤ d) (x1 x2 : Int) (s : Nat → Nat → Int32) (l : Nat → Nat → Int64) (w : a_W (d - 1) 166 0 [.ref 56, iv 7] [] (mkH B s l) (fun r => ∃ (s1 : Nat → Nat → Int32) (l2 : Nat → Nat → Int64), r = (.inl none, mkH B s1 l2) ∧ (((zz s1 56 22) ≤ 0 → a_W (d - 1) 167 0 [.ref 56, .retAddr 0, .retAddr 0, .retAddr 0, .retAddr 0, .retAddr 0, .retAddr 0, .retAddr 0, .retAddr 0] [] (mkH B s1 l2) (fun r => ∃ (v6 : Int) (s4 : Nat → Nat → Int32) (l5 : Nat → Nat → Int64), r = (.inl (some (iv v6)), mkH B s4 l5) ∧ a_W (d - 1) 166 0 [.ref 56, iv 0] [] (mkH B s4 l5) (fun r => ∃ (s7 : Nat → Nat → Int32) (l8 : Nat → Nat → Int64), r = (.inl none, mkH B s7 l8) ∧ (inR x2 ∧ ((x2 ≠ 1 → (((zz s7 56 22) ≠ 0 → a_W d 202 164 [.ref 56, iv x1, iv x2, iv v6, iv 0, .retAddr 0] [] (mkH B s7 l8) Q) ∧ ((zz s7 56 22) = 0 → ((0 ≤ x2 ∧ x2 < 29) ∧ (((zz s7 60 x2.toNat) = (-1) → a_W d 202 164 [.ref 56, iv x1, iv x2, iv v6, iv 0, .retAddr 0] [] (mkH B s7 l8) Q) ∧ ((zz s7 60 x2.toNat) ≠ (-1) → a_W d 202 153 [.ref 56, iv x1, iv x2, iv v6, iv 0, .retAddr 0] [] (mkH B s7 l8) Q)))))) ∧ (x2 = 1 → (((zz s7 56 22) ≠ 0 → a_W d 202 164 [.ref 56, iv x1, iv x2, iv v6, iv 1, .retAddr 0] [] (mkH B s7 l8) Q) ∧ ((zz s7 56 22) = 0 → a_W (d - 1) 158 0 [.ref 58, iv (zz s7 56 3), .ref 74, iv 0, .retAddr 0] [] (mkH B s7 l8) (fun r => ∃ (v17 : Int) (s15 : Nat → Nat → Int32) (l16 : Nat → Nat → Int64), r = (.inl (some (iv v17)), mkH B s15 l16) ∧ (inR v17 ∧ ((v17 = (-1) → a_W d 202 164 [.ref 56, iv x1, iv x2, iv v6, iv 1, .retAddr 0] [] (mkH B s15 l16) Q) ∧ (v17 ≠ (-1) → a_W d 202 153 [.ref 56, iv x1, iv x2, iv v6, iv 1, .retAddr 0] [] (mkH B s15 l16) Q)))))))))))) ∧ (0 < (zz s1 56 22) → a_W (d - 1) 166 0 [.ref 56, iv 0] [] (mkH B s1 l2) (fun r => ∃ (s20 : Nat → Nat → Int32) (l21 : Nat → Nat → Int64), r = (.inl none, mkH B s20 l21) ∧ (inR x2 ∧ ((x2 ≠ 1 → (((zz s20 56 22) ≠ 0 → a_W d 202 164 [.ref 56, iv x1, iv x2, iv 0, iv 0, .retAddr 0] [] (mkH B s20 l21) Q) ∧ ((zz s20 56 22) = 0 → ((0 ≤ x2 ∧ x2 < 29) ∧ (((zz s20 60 x2.toNat) = (-1) → a_W d 202 164 [.ref 56, iv x1, iv x2, iv 0, iv 0, .retAddr 0] [] (mkH B s20 l21) Q) ∧ ((zz s20 60 x2.toNat) ≠ (-1) → a_W d 202 153 [.ref 56, iv x1, iv x2, iv 0, iv 0, .retAddr 0] [] (mkH B s20 l21) Q)))))) ∧ (x2 = 1 → (((zz s20 56 22) ≠ 0 → a_W d 202 164 [.ref 56, iv x1, iv x2, iv 0, iv 1, .retAddr 0] [] (mkH B s20 l21) Q) ∧ ((zz s20 56 22) = 0 → a_W (d - 1) 158 0 [.ref 58, iv (zz s20 56 3), .ref 74, iv 0, .retAddr 0] [] (mkH B s20 l21) (fun r => ∃ (v30 : Int) (s28 : Nat → Nat → Int32) (l29 : Nat → Nat → Int64), r = (.inl (some (iv v30)), mkH B s28 l29) ∧ (inR v30 ∧ ((v30 = (-1) → a_W d 202 164 [.ref 56, iv x1, iv x2, iv 0, iv 1, .retAddr 0] [] (mkH B s28 l29) Q) ∧ (v30 ≠ (-1) → a_W d 202 153 [.ref 56, iv x1, iv x2, iv 0, iv 1, .retAddr 0] [] (mkH B s28 l29) Q)))))))))))))) : a_W d 202 69 [.ref 56, iv x1, iv x2, .retAddr 0, .retAddr 0, .retAddr 0] [] (mkH B s l) Q := by
  refine w_aln (p := 70) (q202 69) rfl rfl ?_
  refine w_bp (p := 72) (q202 70) rfl (by decide) ?_
  refine w_call (st := []) (as := [.ref 56, iv 7]) (as' := [iv 7, .ref 56]) (p := 75) (q202 72) rfl m166 (by decide) (a_ok_i rfl (r56 hB) rfl) rfl rfl (Nat.le_of_ble_eq_true rfl) (by omega) rfl rfl (a_W.imp w ?_)
  rintro _ ⟨s1, l2, rfl, w⟩
  refine ⟨none, _, rfl, ?_⟩
  show a_W _ 202 75 [.ref 56, iv x1, iv x2, .retAddr 0, .retAddr 0, .retAddr 0] [] (mkH B s1 l2) _
  refine w_aln (p := 76) (q202 75) rfl rfl ?_
  refine w_gI (p := 79) (j := 22) (v := (zz s1 56 22)) (q202 76) rfl (r56 hB) (by decide) (iv_zz s1 56 22) ?_
  by_cases c3 : (zz s1 56 22) ≤ 0
  · replace w := w.1 c3
    refine w_i1t (q202 79) (inR_zz _ _ _) c3 ?_
    refine w_aln (p := 87) (q202 86) rfl rfl ?_
    refine w_call (st := []) (as := [.ref 56]) (as' := [.ref 56]) (p := 90) (q202 87) rfl m167 (by decide) (a_ok_i rfl (r56 hB) rfl) rfl rfl (Nat.le_of_ble_eq_true rfl) (by omega) rfl rfl (a_W.imp w ?_)
    rintro _ ⟨v6, s4, l5, rfl, w⟩
    refine ⟨some (iv v6), _, rfl, ?_⟩
    show a_W _ 202 90 [.ref 56, iv x1, iv x2, .retAddr 0, .retAddr 0, .retAddr 0] [iv v6] (mkH B s4 l5) _
    refine w_isn (p := 91) (ls' := [.ref 56, iv x1, iv x2, iv v6, .retAddr 0, .retAddr 0]) (q202 90) rfl (Nat.le_of_ble_eq_true rfl) rfl ?_
    refine w_aln (p := 92) (q202 91) rfl rfl ?_
    refine w_ic (p := 93) (q202 92) rfl ?_
    refine w_call (st := []) (as := [.ref 56, iv 0]) (as' := [iv 0, .ref 56]) (p := 96) (q202 93) rfl m166 (by decide) (a_ok_i rfl (r56 hB) rfl) rfl rfl (Nat.le_of_ble_eq_true rfl) (by omega) rfl rfl (a_W.imp w ?_)
    rintro _ ⟨s7, l8, rfl, w⟩
    refine ⟨none, _, rfl, ?_⟩
    show a_W _ 202 96 [.ref 56, iv x1, iv x2, iv v6, .retAddr 0, .retAddr 0] [] (mkH B s7 l8) _
    refine w_iln (p := 97) (q202 96) rfl rfl ?_
    refine w_ic (p := 98) (q202 97) rfl ?_
    obtain ⟨h9, w⟩ := w
    by_cases c10 : x2 ≠ 1
    · replace w := w.1 c10
      refine w_i2t (q202 98) h9 (by decide) c10 ?_
      refine w_ic (p := 106) (q202 105) rfl ?_
      refine w_is (p := 108) (ls' := [.ref 56, iv x1, iv x2, iv v6, iv 0, .retAddr 0]) (q202 106) rfl (Nat.le_of_ble_eq_true rfl) rfl ?_
      refine w_aln (p := 109) (q202 108) rfl rfl ?_
      refine w_gI (p := 112) (j := 22) (v := (zz s7 56 22)) (q202 109) rfl (r56 hB) (by decide) (iv_zz s7 56 22) ?_
      by_cases c11 : (zz s7 56 22) ≠ 0
      · replace w := w.1 c11
        refine w_i1t (q202 112) (inR_zz _ _ _) c11 ?_
        exact w
      · replace w := w.2 (Decidable.not_not.mp c11)
        refine w_i1f (p := 115) (q202 112) rfl (inR_zz _ _ _) c11 ?_
        refine w_il (p := 117) (q202 115) rfl rfl ?_
        refine w_i1t (q202 117) (by decide) (show zc _ _ _ by unfold zc; omega) ?_
        refine w_aln (p := 144) (q202 143) rfl rfl ?_
        refine w_gR (p := 147) (j := 8) (v := 60) (q202 144) rfl (r56 hB) (by decide) (f56_8 hB) ?_
        refine w_iln (p := 148) (q202 147) rfl rfl ?_
        obtain ⟨o12, w⟩ := w
        refine w_ia (p := 149) (v := (zz s7 60 x2.toNat)) (q202 148) rfl (r60 hB) (by decide) o12 (iv_zz s7 60 x2.toNat) ?_
        refine w_ic (p := 150) (q202 149) rfl ?_
        by_cases c13 : (zz s7 60 x2.toNat) = (-1)
        · replace w := w.1 c13
          refine w_i2t (q202 150) (inR_zz _ _ _) (by decide) c13 ?_
          exact w
        · replace w := w.2 c13
          refine w_i2f (p := 153) (q202 150) rfl (inR_zz _ _ _) (by decide) c13 ?_
          exact w
    · replace w := w.2 (Decidable.not_not.mp c10)
      refine w_i2f (p := 101) (q202 98) rfl h9 (by decide) c10 ?_
      refine w_ic (p := 102) (q202 101) rfl ?_
      refine w_goto (q202 102) ?_
      refine w_is (p := 108) (ls' := [.ref 56, iv x1, iv x2, iv v6, iv 1, .retAddr 0]) (q202 106) rfl (Nat.le_of_ble_eq_true rfl) rfl ?_
      refine w_aln (p := 109) (q202 108) rfl rfl ?_
      refine w_gI (p := 112) (j := 22) (v := (zz s7 56 22)) (q202 109) rfl (r56 hB) (by decide) (iv_zz s7 56 22) ?_
      by_cases c14 : (zz s7 56 22) ≠ 0
      · replace w := w.1 c14
        refine w_i1t (q202 112) (inR_zz _ _ _) c14 ?_
        exact w
      · replace w := w.2 (Decidable.not_not.mp c14)
        refine w_i1f (p := 115) (q202 112) rfl (inR_zz _ _ _) c14 ?_
        refine w_il (p := 117) (q202 115) rfl rfl ?_
        refine w_i1f (p := 120) (q202 117) rfl (by decide) (show ¬ zc _ _ _ by unfold zc; omega) ?_
        refine w_aln (p := 121) (q202 120) rfl rfl ?_
        refine w_gR (p := 124) (j := 6) (v := 58) (q202 121) rfl (r56 hB) (by decide) (f56_6 hB) ?_
        refine w_aln (p := 125) (q202 124) rfl rfl ?_
        refine w_gI (p := 128) (j := 3) (v := (zz s7 56 3)) (q202 125) rfl (r56 hB) (by decide) (iv_zz s7 56 3) ?_
        refine w_aln (p := 129) (q202 128) rfl rfl ?_
        refine w_gR (p := 132) (j := 30) (v := 74) (q202 129) rfl (r56 hB) (by decide) (f56_30 hB) ?_
        refine w_ic (p := 133) (q202 132) rfl ?_
        refine w_call (st := []) (as := [.ref 58, iv (zz s7 56 3), .ref 74, iv 0]) (as' := [iv 0, .ref 74, iv (zz s7 56 3), .ref 58]) (p := 136) (q202 133) rfl m158 (by decide) (a_ok_s rfl rfl) rfl rfl (Nat.le_of_ble_eq_true rfl) (by omega) rfl rfl (a_W.imp w ?_)
        rintro _ ⟨v17, s15, l16, rfl, w⟩
        refine ⟨some (iv v17), _, rfl, ?_⟩
        show a_W _ 202 136 [.ref 56, iv x1, iv x2, iv v6, iv 1, .retAddr 0] [iv v17] (mkH B s15 l16) _
        refine w_ic (p := 137) (q202 136) rfl ?_
        obtain ⟨h18, w⟩ := w
        by_cases c19 : v17 = (-1)
        · replace w := w.1 c19
          refine w_i2t (q202 137) h18 (by decide) c19 ?_
          exact w
        · replace w := w.2 c19
          refine w_i2f (p := 140) (q202 137) rfl h18 (by decide) c19 ?_
          refine w_goto (q202 140) ?_
          exact w
  · replace w := w.2 (Int.not_le.mp c3)
    refine w_i1f (p := 82) (q202 79) rfl (inR_zz _ _ _) c3 ?_
    refine w_ic (p := 83) (q202 82) rfl ?_
    refine w_goto (q202 83) ?_
    refine w_isn (p := 91) (ls' := [.ref 56, iv x1, iv x2, iv 0, .retAddr 0, .retAddr 0]) (q202 90) rfl (Nat.le_of_ble_eq_true rfl) rfl ?_
    refine w_aln (p := 92) (q202 91) rfl rfl ?_
    refine w_ic (p := 93) (q202 92) rfl ?_
    refine w_call (st := []) (as := [.ref 56, iv 0]) (as' := [iv 0, .ref 56]) (p := 96) (q202 93) rfl m166 (by decide) (a_ok_i rfl (r56 hB) rfl) rfl rfl (Nat.le_of_ble_eq_true rfl) (by omega) rfl rfl (a_W.imp w ?_)
    rintro _ ⟨s20, l21, rfl, w⟩
    refine ⟨none, _, rfl, ?_⟩
    show a_W _ 202 96 [.ref 56, iv x1, iv x2, iv 0, .retAddr 0, .retAddr 0] [] (mkH B s20 l21) _
    refine w_iln (p := 97) (q202 96) rfl rfl ?_
    refine w_ic (p := 98) (q202 97) rfl ?_
    obtain ⟨h22, w⟩ := w
    by_cases c23 : x2 ≠ 1
    · replace w := w.1 c23
      refine w_i2t (q202 98) h22 (by decide) c23 ?_
      refine w_ic (p := 106) (q202 105) rfl ?_
      refine w_is (p := 108) (ls' := [.ref 56, iv x1, iv x2, iv 0, iv 0, .retAddr 0]) (q202 106) rfl (Nat.le_of_ble_eq_true rfl) rfl ?_
      refine w_aln (p := 109) (q202 108) rfl rfl ?_
      refine w_gI (p := 112) (j := 22) (v := (zz s20 56 22)) (q202 109) rfl (r56 hB) (by decide) (iv_zz s20 56 22) ?_
      by_cases c24 : (zz s20 56 22) ≠ 0
      · replace w := w.1 c24
        refine w_i1t (q202 112) (inR_zz _ _ _) c24 ?_
        exact w
      · replace w := w.2 (Decidable.not_not.mp c24)
        refine w_i1f (p := 115) (q202 112) rfl (inR_zz _ _ _) c24 ?_
        refine w_il (p := 117) (q202 115) rfl rfl ?_
        refine w_i1t (q202 117) (by decide) (show zc _ _ _ by unfold zc; omega) ?_
        refine w_aln (p := 144) (q202 143) rfl rfl ?_
        refine w_gR (p := 147) (j := 8) (v := 60) (q202 144) rfl (r56 hB) (by decide) (f56_8 hB) ?_
        refine w_iln (p := 148) (q202 147) rfl rfl ?_
        obtain ⟨o25, w⟩ := w
        refine w_ia (p := 149) (v := (zz s20 60 x2.toNat)) (q202 148) rfl (r60 hB) (by decide) o25 (iv_zz s20 60 x2.toNat) ?_
        refine w_ic (p := 150) (q202 149) rfl ?_
        by_cases c26 : (zz s20 60 x2.toNat) = (-1)
        · replace w := w.1 c26
          refine w_i2t (q202 150) (inR_zz _ _ _) (by decide) c26 ?_
          exact w
        · replace w := w.2 c26
          refine w_i2f (p := 153) (q202 150) rfl (inR_zz _ _ _) (by decide) c26 ?_
          exact w
    · replace w := w.2 (Decidable.not_not.mp c23)
      refine w_i2f (p := 101) (q202 98) rfl h22 (by decide) c23 ?_
      refine w_ic (p := 102) (q202 101) rfl ?_
      refine w_goto (q202 102) ?_
      refine w_is (p := 108) (ls' := [.ref 56, iv x1, iv x2, iv 0, iv 1, .retAddr 0]) (q202 106) rfl (Nat.le_of_ble_eq_true rfl) rfl ?_
      refine w_aln (p := 109) (q202 108) rfl rfl ?_
      refine w_gI (p := 112) (j := 22) (v := (zz s20 56 22)) (q202 109) rfl (r56 hB) (by decide) (iv_zz s20 56 22) ?_
      by_cases c27 : (zz s20 56 22) ≠ 0
      · replace w := w.1 c27
        refine w_i1t (q202 112) (inR_zz _ _ _) c27 ?_
        exact w
      · replace w := w.2 (Decidable.not_not.mp c27)
        refine w_i1f (p := 115) (q202 112) rfl (inR_zz _ _ _) c27 ?_
        refine w_il (p := 117) (q202 115) rfl rfl ?_
        refine w_i1f (p := 120) (q202 117) rfl (by decide) (show ¬ zc _ _ _ by unfold zc; omega) ?_
        refine w_aln (p := 121) (q202 120) rfl rfl ?_
        refine w_gR (p := 124) (j := 6) (v := 58) (q202 121) rfl (r56 hB) (by decide) (f56_6 hB) ?_
        refine w_aln (p := 125) (q202 124) rfl rfl ?_
        refine w_gI (p := 128) (j := 3) (v := (zz s20 56 3)) (q202 125) rfl (r56 hB) (by decide) (iv_zz s20 56 3) ?_
        refine w_aln (p := 129) (q202 128) rfl rfl ?_
        refine w_gR (p := 132) (j := 30) (v := 74) (q202 129) rfl (r56 hB) (by decide) (f56_30 hB) ?_
        refine w_ic (p := 133) (q202 132) rfl ?_
        refine w_call (st := []) (as := [.ref 58, iv (zz s20 56 3), .ref 74, iv 0]) (as' := [iv 0, .ref 74, iv (zz s20 56 3), .ref 58]) (p := 136) (q202 133) rfl m158 (by decide) (a_ok_s rfl rfl) rfl rfl (Nat.le_of_ble_eq_true rfl) (by omega) rfl rfl (a_W.imp w ?_)
        rintro _ ⟨v30, s28, l29, rfl, w⟩
        refine ⟨some (iv v30), _, rfl, ?_⟩
        show a_W _ 202 136 [.ref 56, iv x1, iv x2, iv 0, iv 1, .retAddr 0] [iv v30] (mkH B s28 l29) _
        refine w_ic (p := 137) (q202 136) rfl ?_
        obtain ⟨h31, w⟩ := w
        by_cases c32 : v30 = (-1)
        · replace w := w.1 c32
          refine w_i2t (q202 137) h31 (by decide) c32 ?_
          exact w
        · replace w := w.2 c32
          refine w_i2f (p := 140) (q202 137) rfl h31 (by decide) c32 ?_
          refine w_goto (q202 140) ?_
          exact w
set_option maxRecDepth 10000 in
theorem w202_153 {d : Nat} {B : aH} {Q : aR → Prop} (hB : a_Can B) (hd : 1 ≤ d) (x1 x2 x3 x4 : Int) (s : Nat → Nat → Int32) (l : Nat → Nat → Int64) (w : a_W (d - 1) 152 0 [.ref 56, iv 4, iv (zz s 72 0)] [] (mkH B s l) (fun r => ∃ (s1 : Nat → Nat → Int32) (l2 : Nat → Nat → Int64), r = (.inl none, mkH B s1 l2) ∧ a_W d 202 164 [.ref 56, iv x1, iv x2, iv x3, iv x4, .retAddr 0] [] (mkH B s1 l2) Q)) : a_W d 202 153 [.ref 56, iv x1, iv x2, iv x3, iv x4, .retAddr 0] [] (mkH B s l) Q := by
  refine w_aln (p := 154) (q202 153) rfl rfl ?_
  refine w_ic (p := 155) (q202 154) rfl ?_
  refine w_aln (p := 156) (q202 155) rfl rfl ?_
  refine w_gR (p := 159) (j := 28) (v := 72) (q202 156) rfl (r56 hB) (by decide) (f56_28 hB) ?_
  refine w_ic (p := 160) (q202 159) rfl ?_
  refine w_ia (p := 161) (v := (zz s 72 0)) (q202 160) rfl (r72 hB) (by decide) (by decide) (iv_zz s 72 0) ?_
  refine w_call (st := []) (as := [.ref 56, iv 4, iv (zz s 72 0)]) (as' := [iv (zz s 72 0), iv 4, .ref 56]) (p := 164) (q202 161) rfl m152 (by decide) (a_ok_i rfl (r56 hB) rfl) rfl rfl (Nat.le_of_ble_eq_true rfl) (by omega) rfl rfl (a_W.imp w ?_)
  rintro _ ⟨s1, l2, rfl, w⟩
  refine ⟨none, _, rfl, ?_⟩
  show a_W _ 202 164 [.ref 56, iv x1, iv x2, iv x3, iv x4, .retAddr 0] [] (mkH B s1 l2) _
  exact w
set_option maxRecDepth 10000 in
theorem w202_164 {d : Nat} {B : aH} {Q : aR → Prop} (hB : a_Can B) (hd : 1 ≤ d) (x1 x2 x3 x4 : Int) (s : Nat → Nat → Int32) (l : Nat → Nat → Int64) (w : (((zz s 56 3) ≠ 112 → a_W d 202 185 [.ref 56, iv x1, iv x2, iv x3, iv x4, .retAddr 0] [] (mkH B s l) Q) ∧ ((zz s 56 3) = 112 → a_W (d - 1) 152 0 [.ref 56, iv 8, iv (zz s 72 0)] [] (mkH B s l) (fun r => ∃ (s2 : Nat → Nat → Int32) (l3 : Nat → Nat → Int64), r = (.inl none, mkH B s2 l3) ∧ a_W d 202 185 [.ref 56, iv x1, iv x2, iv x3, iv x4, .retAddr 0] [] (mkH B s2 l3) Q)))) : a_W d 202 164 [.ref 56, iv x1, iv x2, iv x3, iv x4, .retAddr 0] [] (mkH B s l) Q := by
  refine w_aln (p := 165) (q202 164) rfl rfl ?_
  refine w_gI (p := 168) (j := 3) (v := (zz s 56 3)) (q202 165) rfl (r56 hB) (by decide) (iv_zz s 56 3) ?_
  refine w_bp (p := 170) (q202 168) rfl (by decide) ?_
  by_cases c1 : (zz s 56 3) ≠ 112
  · replace w := w.1 c1
    refine w_i2t (q202 170) (inR_zz _ _ _) (by decide) c1 ?_
    exact w
  · replace w := w.2 (Decidable.not_not.mp c1)
    refine w_i2f (p := 173) (q202 170) rfl (inR_zz _ _ _) (by decide) c1 ?_
    refine w_aln (p := 174) (q202 173) rfl rfl ?_
    refine w_bp (p := 176) (q202 174) rfl (by decide) ?_
    refine w_aln (p := 177) (q202 176) rfl rfl ?_
    refine w_gR (p := 180) (j := 28) (v := 72) (q202 177) rfl (r56 hB) (by decide) (f56_28 hB) ?_
    refine w_ic (p := 181) (q202 180) rfl ?_
    refine w_ia (p := 182) (v := (zz s 72 0)) (q202 181) rfl (r72 hB) (by decide) (by decide) (iv_zz s 72 0) ?_
    refine w_call (st := []) (as := [.ref 56, iv 8, iv (zz s 72 0)]) (as' := [iv (zz s 72 0), iv 8, .ref 56]) (p := 185) (q202 182) rfl m152 (by decide) (a_ok_i rfl (r56 hB) rfl) rfl rfl (Nat.le_of_ble_eq_true rfl) (by omega) rfl rfl (a_W.imp w ?_)
    rintro _ ⟨s2, l3, rfl, w⟩
    refine ⟨none, _, rfl, ?_⟩
    show a_W _ 202 185 [.ref 56, iv x1, iv x2, iv x3, iv x4, .retAddr 0] [] (mkH B s2 l3) _
    exact w
set_option maxRecDepth 10000 in
theorem w202_185 {d : Nat} {B : aH} {Q : aR → Prop} (hB : a_Can B) (hd : 1 ≤ d) (x1 x2 x3 x4 : Int) (s : Nat → Nat → Int32) (l : Nat → Nat → Int64) (w : (((zz s 56 22) ≠ 0 → a_W d 202 197 [.ref 56, iv x1, iv x2, iv x3, iv x4, .retAddr 0] [] (mkH B s l) Q) ∧ ((zz s 56 22) = 0 → a_W (d - 1) 183 0 [.ref 56, iv x3] [] (mkH B s l) (fun r => ∃ (s2 : Nat → Nat → Int32) (l3 : Nat → Nat → Int64), r = (.inl none, mkH B s2 l3) ∧ a_W d 202 197 [.ref 56, iv x1, iv x2, iv x3, iv x4, .retAddr 0] [] (mkH B s2 l3) Q)))) : a_W d 202 185 [.ref 56, iv x1, iv x2, iv x3, iv x4, .retAddr 0] [] (mkH B s l) Q := by
  refine w_aln (p := 186) (q202 185) rfl rfl ?_
  refine w_gI (p := 189) (j := 22) (v := (zz s 56 22)) (q202 186) rfl (r56 hB) (by decide) (iv_zz s 56 22) ?_
  by_cases c1 : (zz s 56 22) ≠ 0
  · replace w := w.1 c1
    refine w_i1t (q202 189) (inR_zz _ _ _) c1 ?_
    exact w
  · replace w := w.2 (Decidable.not_not.mp c1)
    refine w_i1f (p := 192) (q202 189) rfl (inR_zz _ _ _) c1 ?_
    refine w_aln (p := 193) (q202 192) rfl rfl ?_
    refine w_iln (p := 194) (q202 193) rfl rfl ?_
    refine w_call (st := []) (as := [.ref 56, iv x3]) (as' := [iv x3, .ref 56]) (p := 197) (q202 194) rfl m183 (by decide) (a_ok_i rfl (r56 hB) rfl) rfl rfl (Nat.le_of_ble_eq_true rfl) (by omega) rfl rfl (a_W.imp w ?_)
    rintro _ ⟨s2, l3, rfl, w⟩
    refine ⟨none, _, rfl, ?_⟩
    show a_W _ 202 197 [.ref 56, iv x1, iv x2, iv x3, iv x4, .retAddr 0] [] (mkH B s2 l3) _
    exact w
set_option maxRecDepth 10000 in
theorem w202_197 {d : Nat} {B : aH} {Q : aR → Prop} (hB : a_Can B) (hd : 1 ≤ d) (x1 x2 x3 x4 : Int) (s : Nat → Nat → Int32) (l : Nat → Nat → Int64) (w : (((zz s 56 22) ≤ 0 → a_W (d - 1) 197 0 [.ref 56, iv x3, .retAddr 0, .retAddr 0, .retAddr 0, .retAddr 0] [] (mkH B s l) (fun r => ∃ (v4 : Int) (s2 : Nat → Nat → Int32) (l3 : Nat → Nat → Int64), r = (.inl (some (iv v4)), mkH B s2 l3) ∧ (((zz s2 56 22) ≤ 0 → ((0 ≤ (zz s2 56 3) ∧ (zz s2 56 3) < 112) ∧ (inR x4 ∧ ((x4 = 0 → ((0 ≤ x2 ∧ x2 < 29) ∧ a_W d 202 285 [.ref 56, iv x1, iv x2, iv x3, iv x4, iv v4] [] (mkH B (zu (zu (zu s2 59 (zz s2 56 3).toNat v4) 56 17 (zz s2 56 16)) 60 x2.toNat (zz s2 56 3)) l3) Q)) ∧ (x4 ≠ 0 → a_W (d - 1) 160 0 [.ref 58, iv (zz s2 56 3), .ref 74, iv 0, .retAddr 0] [] (mkH B (zu (zu s2 59 (zz s2 56 3).toNat v4) 56 17 (zz s2 56 16)) l3) (fun r => ∃ (s10 : Nat → Nat → Int32) (l11 : Nat → Nat → Int64), r = (.inl none, mkH B s10 l11) ∧ a_W d 202 285 [.ref 56, iv x1, iv x2, iv x3, iv x4, iv v4] [] (mkH B s10 l11) Q)))))) ∧ (0 < (zz s2 56 22) → Q (.inl (some (iv (-1))), (mkH B (zu s2 56 16 (zz s2 56 17)) l3)))))) ∧ (0 < (zz s 56 22) → Q (.inl (some (iv (-1))), (mkH B (zu s 56 16 (zz s 56 17)) l))))) : a_W d 202 197 [.ref 56, iv x1, iv x2, iv x3, iv x4, .retAddr 0] [] (mkH B s l) Q := by
  refine w_aln (p := 198) (q202 197) rfl rfl ?_
  refine w_gI (p := 201) (j := 22) (v := (zz s 56 22)) (q202 198) rfl (r56 hB) (by decide) (iv_zz s 56 22) ?_
  by_cases c1 : (zz s 56 22) ≤ 0
  · replace w := w.1 c1
    refine w_i1t (q202 201) (inR_zz _ _ _) c1 ?_
    refine w_aln (p := 209) (q202 208) rfl rfl ?_
    refine w_iln (p := 210) (q202 209) rfl rfl ?_
    refine w_call (st := []) (as := [.ref 56, iv x3]) (as' := [iv x3, .ref 56]) (p := 213) (q202 210) rfl m197 (by decide) (a_ok_i rfl (r56 hB) rfl) rfl rfl (Nat.le_of_ble_eq_true rfl) (by omega) rfl rfl (a_W.imp w ?_)
    rintro _ ⟨v4, s2, l3, rfl, w⟩
    refine ⟨some (iv v4), _, rfl, ?_⟩
    show a_W _ 202 213 [.ref 56, iv x1, iv x2, iv x3, iv x4, .retAddr 0] [iv v4] (mkH B s2 l3) _
    refine w_is (p := 215) (ls' := [.ref 56, iv x1, iv x2, iv x3, iv x4, iv v4]) (q202 213) rfl (Nat.le_of_ble_eq_true rfl) rfl ?_
    refine w_aln (p := 216) (q202 215) rfl rfl ?_
    refine w_gI (p := 219) (j := 22) (v := (zz s2 56 22)) (q202 216) rfl (r56 hB) (by decide) (iv_zz s2 56 22) ?_
    by_cases c5 : (zz s2 56 22) ≤ 0
    · replace w := w.1 c5
      refine w_i1t (q202 219) (inR_zz _ _ _) c5 ?_
      refine w_aln (p := 233) (q202 232) rfl rfl ?_
      refine w_gR (p := 236) (j := 7) (v := 59) (q202 233) rfl (r56 hB) (by decide) (f56_7 hB) ?_
      refine w_aln (p := 237) (q202 236) rfl rfl ?_
      refine w_gI (p := 240) (j := 3) (v := (zz s2 56 3)) (q202 237) rfl (r56 hB) (by decide) (iv_zz s2 56 3) ?_
      refine w_il (p := 242) (q202 240) rfl rfl ?_
      obtain ⟨o6, w⟩ := w
      refine w_ias (p := 243) (q202 242) rfl (r59 hB) (by decide) o6 ?_
      refine w_aln (p := 244) (q202 243) rfl rfl ?_
      refine w_aln (p := 245) (q202 244) rfl rfl ?_
      refine w_gI (p := 248) (j := 16) (v := (zz s2 56 16)) (q202 245) rfl (r56 hB) (by decide) (iv_zz s2 56 16) ?_
      refine w_pI (p := 251) (j := 17) (q202 248) rfl (r56 hB) (by decide) rfl ?_
      refine w_il (p := 253) (q202 251) rfl rfl ?_
      obtain ⟨h7, w⟩ := w
      by_cases c8 : x4 = 0
      · replace w := w.1 c8
        refine w_i1t (q202 253) h7 c8 ?_
        refine w_aln (p := 276) (q202 275) rfl rfl ?_
        refine w_gR (p := 279) (j := 8) (v := 60) (q202 276) rfl (r56 hB) (by decide) (f56_8 hB) ?_
        refine w_iln (p := 280) (q202 279) rfl rfl ?_
        refine w_aln (p := 281) (q202 280) rfl rfl ?_
        refine w_gI (p := 284) (j := 3) (v := (zz s2 56 3)) (q202 281) rfl (r56 hB) (by decide) (iv_zz s2 56 3) ?_
        obtain ⟨o9, w⟩ := w
        refine w_ias (p := 285) (q202 284) rfl (r60 hB) (by decide) o9 ?_
        exact w
      · replace w := w.2 c8
        refine w_i1f (p := 256) (q202 253) rfl h7 c8 ?_
        refine w_aln (p := 257) (q202 256) rfl rfl ?_
        refine w_gR (p := 260) (j := 6) (v := 58) (q202 257) rfl (r56 hB) (by decide) (f56_6 hB) ?_
        refine w_aln (p := 261) (q202 260) rfl rfl ?_
        refine w_gI (p := 264) (j := 3) (v := (zz s2 56 3)) (q202 261) rfl (r56 hB) (by decide) (iv_zz s2 56 3) ?_
        refine w_aln (p := 265) (q202 264) rfl rfl ?_
        refine w_gR (p := 268) (j := 30) (v := 74) (q202 265) rfl (r56 hB) (by decide) (f56_30 hB) ?_
        refine w_ic (p := 269) (q202 268) rfl ?_
        refine w_call (st := []) (as := [.ref 58, iv (zz s2 56 3), .ref 74, iv 0]) (as' := [iv 0, .ref 74, iv (zz s2 56 3), .ref 58]) (p := 272) (q202 269) rfl m160 (by decide) (a_ok_s rfl rfl) rfl rfl (Nat.le_of_ble_eq_true rfl) (by omega) rfl rfl (a_W.imp w ?_)
        rintro _ ⟨s10, l11, rfl, w⟩
        refine ⟨none, _, rfl, ?_⟩
        show a_W _ 202 272 [.ref 56, iv x1, iv x2, iv x3, iv x4, iv v4] [] (mkH B s10 l11) _
        refine w_goto (q202 272) ?_
        exact w
    · replace w := w.2 (Int.not_le.mp c5)
      refine w_i1f (p := 222) (q202 219) rfl (inR_zz _ _ _) c5 ?_
      refine w_aln (p := 223) (q202 222) rfl rfl ?_
      refine w_aln (p := 224) (q202 223) rfl rfl ?_
      refine w_gI (p := 227) (j := 17) (v := (zz s2 56 17)) (q202 224) rfl (r56 hB) (by decide) (iv_zz s2 56 17) ?_
      refine w_pI (p := 230) (j := 16) (q202 227) rfl (r56 hB) (by decide) rfl ?_
      refine w_ic (p := 231) (q202 230) rfl ?_
      exact w_ret (q202 231) rfl w
  · replace w := w.2 (Int.not_le.mp c1)
    refine w_i1f (p := 204) (q202 201) rfl (inR_zz _ _ _) c1 ?_
    refine w_ic (p := 205) (q202 204) rfl ?_
    refine w_goto (q202 205) ?_
    refine w_is (p := 215) (ls' := [.ref 56, iv x1, iv x2, iv x3, iv x4, iv 0]) (q202 213) rfl (Nat.le_of_ble_eq_true rfl) rfl ?_
    refine w_aln (p := 216) (q202 215) rfl rfl ?_
    refine w_gI (p := 219) (j := 22) (v := (zz s 56 22)) (q202 216) rfl (r56 hB) (by decide) (iv_zz s 56 22) ?_
    refine w_i1f (p := 222) (q202 219) rfl (inR_zz _ _ _) (show ¬ zc _ _ _ by unfold zc; omega) ?_
    refine w_aln (p := 223) (q202 222) rfl rfl ?_
    refine w_aln (p := 224) (q202 223) rfl rfl ?_
    refine w_gI (p := 227) (j := 17) (v := (zz s 56 17)) (q202 224) rfl (r56 hB) (by decide) (iv_zz s 56 17) ?_
    refine w_pI (p := 230) (j := 16) (q202 227) rfl (r56 hB) (by decide) rfl ?_
    refine w_ic (p := 231) (q202 230) rfl ?_
    exact w_ret (q202 231) rfl w
set_option maxRecDepth 10000 in
theorem w202_285 {d : Nat} {B : aH} {Q : aR → Prop} (hB : a_Can B) (x1 x2 x3 x4 x5 : Int) (s : Nat → Nat → Int32) (l : Nat → Nat → Int64) (w : Q (.inl (some (iv (((zz s 56 3) + 1) - 1))), (mkH B (zu s 56 3 ((zz s 56 3) + 1)) l))) : a_W d 202 285 [.ref 56, iv x1, iv x2, iv x3, iv x4, iv x5] [] (mkH B s l) Q := by
  refine w_aln (p := 286) (q202 285) rfl rfl ?_
  refine w_dupr (p := 287) (q202 286) rfl ?_
  refine w_gI (p := 290) (j := 3) (v := (zz s 56 3)) (q202 287) rfl (r56 hB) (by decide) (iv_zz s 56 3) ?_
  refine w_ic (p := 291) (q202 290) rfl ?_
  refine w_add (p := 292) (q202 291) rfl ?_
  refine w_pI (p := 295) (j := 3) (q202 292) rfl (r56 hB) (by decide) rfl ?_
  refine w_aln (p := 296) (q202 295) rfl rfl ?_
  refine w_gI (p := 299) (j := 3) (v := ((zz s 56 3) + 1)) (q202 296) rfl (r56 hB) (by decide) rfl ?_
  refine w_ic (p := 300) (q202 299) rfl ?_
  refine w_sub (p := 301) (q202 300) rfl ?_
  exact w_ret (q202 301) rfl w
theorem w203_0 {d : Nat} {B : aH} {Q : aR → Prop} (hB : a_Can B) (hd : 2 ≤ d) (x1 : Int) (s : Nat → Nat → Int32) (l : Nat → Nat → Int64) (w : (inR x1 ∧ ((x1 < 0 → Q (.inl (some (iv 0)), (mkH B (zu s 56 0 1) l))) ∧ (0 ≤ x1 → ((x1 ≤ (zz s 56 2) → a_W (d - 1 - 1) 145 0 [.ref 56, iv x1, .retAddr 0] [] (mkH B (zu s 56 0 0) l) (fun r => ∃ (s4 : Nat → Nat → Int32) (l5 : Nat → Nat → Int64), r = (.inl none, mkH B s4 l5) ∧ a_W (d - 1) 166 0 [.ref 56, iv 1] [] (mkH B (zu (zu s4 56 51 0) 56 2 0) l5) (fun r => ∃ (s6 : Nat → Nat → Int32) (l7 : Nat → Nat → Int64), r = (.inl none, mkH B s6 l7) ∧ a_W d 203 17 [.ref 56, iv x1, iv 0] [] (mkH B s6 l7) Q))) ∧ ((zz s 56 2) < x1 → Q (.inl (some (iv 0)), (mkH B (zu s 56 0 1) l)))))))) : a_W d 203 0 [.ref 56, iv x1, .retAddr 0] [] (mkH B s l) Q := by
  refine w_aln (p := 1) (q203 0) rfl rfl ?_
  refine w_iln (p := 2) (q203 1) rfl rfl ?_
  refine w_call (st := []) (as := [.ref 56, iv x1]) (as' := [iv x1, .ref 56]) (p := 5) (q203 2) rfl m144 (by decide) (a_ok_i rfl (r56 hB) rfl) rfl rfl (Nat.le_of_ble_eq_true rfl) (by omega) rfl rfl ?_
  refine w_aln (p := 1) (q144 0) rfl rfl ?_
  refine w_iln (p := 2) (q144 1) rfl rfl ?_
  obtain ⟨h1, w⟩ := w
  by_cases c2 : x1 < 0
  · replace w := w.1 c2
    refine w_i1t (q144 2) h1 c2 ?_
    refine w_ic (p := 14) (q144 13) rfl ?_
    refine w_goto (q144 14) ?_
    refine w_pI (p := 21) (j := 0) (q144 18) rfl (r56 hB) (by decide) rfl ?_
    refine w_aln (p := 22) (q144 21) rfl rfl ?_
    refine w_gI (p := 25) (j := 0) (v := 1) (q144 22) rfl (r56 hB) (by decide) rfl ?_
    refine w_i1f (p := 28) (q144 25) rfl (by decide) (show ¬ zc _ _ _ by unfold zc; omega) ?_
    refine w_ic (p := 29) (q144 28) rfl ?_
    refine w_ret (q144 29) rfl ⟨_, _, rfl, ?_⟩
    show a_W _ 203 5 [.ref 56, iv x1, .retAddr 0] [iv 0] _ _
    refine w_i1f (p := 8) (q203 5) rfl (by decide) (show ¬ zc _ _ _ by unfold zc; omega) ?_
    refine w_ic (p := 9) (q203 8) rfl ?_
    exact w_ret (q203 9) rfl w
  · replace w := w.2 (Int.not_lt.mp c2)
    refine w_i1f (p := 5) (q144 2) rfl h1 c2 ?_
    refine w_iln (p := 6) (q144 5) rfl rfl ?_
    refine w_aln (p := 7) (q144 6) rfl rfl ?_
    refine w_gI (p := 10) (j := 2) (v := (zz s 56 2)) (q144 7) rfl (r56 hB) (by decide) (iv_zz s 56 2) ?_
    by_cases c3 : x1 ≤ (zz s 56 2)
    · replace w := w.1 c3
      refine w_i2t (q144 10) h1 (inR_zz _ _ _) c3 ?_
      refine w_ic (p := 18) (q144 17) rfl ?_
      refine w_pI (p := 21) (j := 0) (q144 18) rfl (r56 hB) (by decide) rfl ?_
      refine w_aln (p := 22) (q144 21) rfl rfl ?_
      refine w_gI (p := 25) (j := 0) (v := 0) (q144 22) rfl (r56 hB) (by decide) rfl ?_
      refine w_i1t (q144 25) (by decide) (show zc _ _ _ by unfold zc; omega) ?_
      refine w_aln (p := 31) (q144 30) rfl rfl ?_
      refine w_iln (p := 32) (q144 31) rfl rfl ?_
      refine w_call (st := []) (as := [.ref 56, iv x1]) (as' := [iv x1, .ref 56]) (p := 35) (q144 32) rfl m145 (by decide) (a_ok_i rfl (r56 hB) rfl) rfl rfl (Nat.le_of_ble_eq_true rfl) (by omega) rfl rfl (a_W.imp w ?_)
      rintro _ ⟨s4, l5, rfl, w⟩
      refine ⟨none, _, rfl, ?_⟩
      show a_W _ 144 35 [.ref 56, iv x1] [] (mkH B s4 l5) _
      refine w_aln (p := 36) (q144 35) rfl rfl ?_
      refine w_ic (p := 37) (q144 36) rfl ?_
      refine w_pI (p := 40) (j := 51) (q144 37) rfl (r56 hB) (by decide) rfl ?_
      refine w_aln (p := 41) (q144 40) rfl rfl ?_
      refine w_ic (p := 42) (q144 41) rfl ?_
      refine w_pI (p := 45) (j := 2) (q144 42) rfl (r56 hB) (by decide) rfl ?_
      refine w_ic (p := 46) (q144 45) rfl ?_
      refine w_ret (q144 46) rfl ⟨_, _, rfl, ?_⟩
      show a_W _ 203 5 [.ref 56, iv x1, .retAddr 0] [iv 1] _ _
      refine w_i1t (q203 5) (by decide) (show zc _ _ _ by unfold zc; omega) ?_
      refine w_aln (p := 11) (q203 10) rfl rfl ?_
      refine w_ic (p := 12) (q203 11) rfl ?_
      refine w_call (st := []) (as := [.ref 56, iv 1]) (as' := [iv 1, .ref 56]) (p := 15) (q203 12) rfl m166 (by decide) (a_ok_i rfl (r56 hB) rfl) rfl rfl (Nat.le_of_ble_eq_true rfl) (by omega) rfl rfl (a_W.imp w ?_)
      rintro _ ⟨s6, l7, rfl, w⟩
      refine ⟨none, _, rfl, ?_⟩
      show a_W _ 203 15 [.ref 56, iv x1, .retAddr 0] [] (mkH B s6 l7) _
      refine w_ic (p := 16) (q203 15) rfl ?_
      refine w_isn (p := 17) (ls' := [.ref 56, iv x1, iv 0]) (q203 16) rfl (Nat.le_of_ble_eq_true rfl) rfl ?_
      exact w
    · replace w := w.2 (Int.not_le.mp c3)
      refine w_i2f (p := 13) (q144 10) rfl h1 (inR_zz _ _ _) c3 ?_
      refine w_ic (p := 14) (q144 13) rfl ?_
      refine w_goto (q144 14) ?_
      refine w_pI (p := 21) (j := 0) (q144 18) rfl (r56 hB) (by decide) rfl ?_
      refine w_aln (p := 22) (q144 21) rfl rfl ?_
      refine w_gI (p := 25) (j := 0) (v := 1) (q144 22) rfl (r56 hB) (by decide) rfl ?_
      refine w_i1f (p := 28) (q144 25) rfl (by decide) (show ¬ zc _ _ _ by unfold zc; omega) ?_
      refine w_ic (p := 29) (q144 28) rfl ?_
      refine w_ret (q144 29) rfl ⟨_, _, rfl, ?_⟩
      show a_W _ 203 5 [.ref 56, iv x1, .retAddr 0] [iv 0] _ _
      refine w_i1f (p := 8) (q203 5) rfl (by decide) (show ¬ zc _ _ _ by unfold zc; omega) ?_
      refine w_ic (p := 9) (q203 8) rfl ?_
      exact w_ret (q203 9) rfl w
theorem w203_17 {d : Nat} {B : aH} {Q : aR → Prop} (hB : a_Can B) (hd : 1 ≤ d) (x1 x2 : Int) (s : Nat → Nat → Int32) (l : Nat → Nat → Int64) (w : (inR x2 ∧ ((2 ≤ x2 → a_W d 203 54 [.ref 56, iv x1, iv x2] [] (mkH B s l) Q) ∧ (x2 < 2 → a_W (d - 1) 148 0 [.ref 56, iv 0, .retAddr 0] [] (mkH B s l) (fun r => ∃ (v5 : Int) (s3 : Nat → Nat → Int32) (l4 : Nat → Nat → Int64), r = (.inl (some (iv v5)), mkH B s3 l4) ∧ (inR v5 ∧ ((v5 ≠ 2 → a_W d 203 54 [.ref 56, iv x1, iv x2] [] (mkH B s3 l4) Q) ∧ (v5 = 2 → (((zz s3 56 22) ≠ 0 → a_W d 203 54 [.ref 56, iv x1, iv x2] [] (mkH B s3 l4) Q) ∧ ((zz s3 56 22) = 0 → a_W d 203 17 [.ref 56, iv x1, iv (x2 + 1)] [] (mkH B (zu s3 56 31 ((zz s3 56 31) + 1)) l4) Q)))))))))) : a_W d 203 17 [.ref 56, iv x1, iv x2] [] (mkH B s l) Q := by
  refine w_iln (p := 18) (q203 17) rfl rfl ?_
  refine w_ic (p := 19) (q203 18) rfl ?_
  obtain ⟨h1, w⟩ := w
  by_cases c2 : 2 ≤ x2
  · replace w := w.1 c2
    refine w_i2t (q203 19) h1 (by decide) c2 ?_
    exact w
  · replace w := w.2 (Int.not_le.mp c2)
    refine w_i2f (p := 22) (q203 19) rfl h1 (by decide) c2 ?_
    refine w_aln (p := 23) (q203 22) rfl rfl ?_
    refine w_ic (p := 24) (q203 23) rfl ?_
    refine w_call (st := []) (as := [.ref 56, iv 0]) (as' := [iv 0, .ref 56]) (p := 27) (q203 24) rfl m148 (by decide) (a_ok_i rfl (r56 hB) rfl) rfl rfl (Nat.le_of_ble_eq_true rfl) (by omega) rfl rfl (a_W.imp w ?_)
    rintro _ ⟨v5, s3, l4, rfl, w⟩
    refine ⟨some (iv v5), _, rfl, ?_⟩
    show a_W _ 203 27 [.ref 56, iv x1, iv x2] [iv v5] (mkH B s3 l4) _
    refine w_ic (p := 28) (q203 27) rfl ?_
    obtain ⟨h6, w⟩ := w
    by_cases c7 : v5 ≠ 2
    · replace w := w.1 c7
      refine w_i2t (q203 28) h6 (by decide) c7 ?_
      exact w
    · replace w := w.2 (Decidable.not_not.mp c7)
      refine w_i2f (p := 31) (q203 28) rfl h6 (by decide) c7 ?_
      refine w_aln (p := 32) (q203 31) rfl rfl ?_
      refine w_gI (p := 35) (j := 22) (v := (zz s3 56 22)) (q203 32) rfl (r56 hB) (by decide) (iv_zz s3 56 22) ?_
      by_cases c8 : (zz s3 56 22) ≠ 0
      · replace w := w.1 c8
        refine w_i1t (q203 35) (inR_zz _ _ _) c8 ?_
        exact w
      · replace w := w.2 (Decidable.not_not.mp c8)
        refine w_i1f (p := 38) (q203 35) rfl (inR_zz _ _ _) c8 ?_
        refine w_inc (p := 41) (ls' := [.ref 56, iv x1, iv (x2 + 1)]) (q203 38) rfl rfl rfl ?_
        refine w_aln (p := 42) (q203 41) rfl rfl ?_
        refine w_dupr (p := 43) (q203 42) rfl ?_
        refine w_gI (p := 46) (j := 31) (v := (zz s3 56 31)) (q203 43) rfl (r56 hB) (by decide) (iv_zz s3 56 31) ?_
        refine w_ic (p := 47) (q203 46) rfl ?_
        refine w_add (p := 48) (q203 47) rfl ?_
        refine w_pI (p := 51) (j := 31) (q203 48) rfl (r56 hB) (by decide) rfl ?_
        refine w_goto (q203 51) ?_
        exact w
theorem w203_54 {d : Nat} {B : aH} {Q : aR → Prop} (hB : a_Can B) (hd : 1 ≤ d) (x1 x2 : Int) (s : Nat → Nat → Int32) (l : Nat → Nat → Int64) (w : a_W (d - 1) 166 0 [.ref 56, iv 0] [] (mkH B s l) (fun r => ∃ (s1 : Nat → Nat → Int32) (l2 : Nat → Nat → Int64), r = (.inl none, mkH B s1 l2) ∧ (((zz s1 56 22) ≠ 0 → a_W d 203 97 [.ref 56, iv x1, iv x2] [] (mkH B s1 l2) Q) ∧ ((zz s1 56 22) = 0 → a_W (d - 1) 158 0 [.ref 61, iv (zz s1 56 4), .ref 74, iv 0, .retAddr 0] [] (mkH B s1 l2) (fun r => ∃ (v6 : Int) (s4 : Nat → Nat → Int32) (l5 : Nat → Nat → Int64), r = (.inl (some (iv v6)), mkH B s4 l5) ∧ (inR v6 ∧ ((v6 = (-1) → a_W d 203 97 [.ref 56, iv x1, iv x2] [] (mkH B s4 l5) Q) ∧ (v6 ≠ (-1) → a_W (d - 1) 152 0 [.ref 56, iv 4, iv (zz s4 72 0)] [] (mkH B s4 l5) (fun r => ∃ (s9 : Nat → Nat → Int32) (l10 : Nat → Nat → Int64), r = (.inl none, mkH B s9 l10) ∧ a_W d 203 97 [.ref 56, iv x1, iv x2] [] (mkH B s9 l10) Q))))))))) : a_W d 203 54 [.ref 56, iv x1, iv x2] [] (mkH B s l) Q := by
  refine w_aln (p := 55) (q203 54) rfl rfl ?_
  refine w_ic (p := 56) (q203 55) rfl ?_
  refine w_call (st := []) (as := [.ref 56, iv 0]) (as' := [iv 0, .ref 56]) (p := 59) (q203 56) rfl m166 (by decide) (a_ok_i rfl (r56 hB) rfl) rfl rfl (Nat.le_of_ble_eq_true rfl) (by omega) rfl rfl (a_W.imp w ?_)
  rintro _ ⟨s1, l2, rfl, w⟩
  refine ⟨none, _, rfl, ?_⟩
  show a_W _ 203 59 [.ref 56, iv x1, iv x2] [] (mkH B s1 l2) _
  refine w_aln (p := 60) (q203 59) rfl rfl ?_
  refine w_gI (p := 63) (j := 22) (v := (zz s1 56 22)) (q203 60) rfl (r56 hB) (by decide) (iv_zz s1 56 22) ?_
  by_cases c3 : (zz s1 56 22) ≠ 0
  · replace w := w.1 c3
    refine w_i1t (q203 63) (inR_zz _ _ _) c3 ?_
    exact w
  · replace w := w.2 (Decidable.not_not.mp c3)
    refine w_i1f (p := 66) (q203 63) rfl (inR_zz _ _ _) c3 ?_
    refine w_aln (p := 67) (q203 66) rfl rfl ?_
    refine w_gR (p := 70) (j := 9) (v := 61) (q203 67) rfl (r56 hB) (by decide) (f56_9 hB) ?_
    refine w_aln (p := 71) (q203 70) rfl rfl ?_
    refine w_gI (p := 74) (j := 4) (v := (zz s1 56 4)) (q203 71) rfl (r56 hB) (by decide) (iv_zz s1 56 4) ?_
    refine w_aln (p := 75) (q203 74) rfl rfl ?_
    refine w_gR (p := 78) (j := 30) (v := 74) (q203 75) rfl (r56 hB) (by decide) (f56_30 hB) ?_
    refine w_ic (p := 79) (q203 78) rfl ?_
    refine w_call (st := []) (as := [.ref 61, iv (zz s1 56 4), .ref 74, iv 0]) (as' := [iv 0, .ref 74, iv (zz s1 56 4), .ref 61]) (p := 82) (q203 79) rfl m158 (by decide) (a_ok_s rfl rfl) rfl rfl (Nat.le_of_ble_eq_true rfl) (by omega) rfl rfl (a_W.imp w ?_)
    rintro _ ⟨v6, s4, l5, rfl, w⟩
    refine ⟨some (iv v6), _, rfl, ?_⟩
    show a_W _ 203 82 [.ref 56, iv x1, iv x2] [iv v6] (mkH B s4 l5) _
    refine w_ic (p := 83) (q203 82) rfl ?_
    obtain ⟨h7, w⟩ := w
    by_cases c8 : v6 = (-1)
    · replace w := w.1 c8
      refine w_i2t (q203 83) h7 (by decide) c8 ?_
      exact w
    · replace w := w.2 c8
      refine w_i2f (p := 86) (q203 83) rfl h7 (by decide) c8 ?_
      refine w_aln (p := 87) (q203 86) rfl rfl ?_
      refine w_ic (p := 88) (q203 87) rfl ?_
      refine w_aln (p := 89) (q203 88) rfl rfl ?_
      refine w_gR (p := 92) (j := 28) (v := 72) (q203 89) rfl (r56 hB) (by decide) (f56_28 hB) ?_
      refine w_ic (p := 93) (q203 92) rfl ?_
      refine w_ia (p := 94) (v := (zz s4 72 0)) (q203 93) rfl (r72 hB) (by decide) (by decide) (iv_zz s4 72 0) ?_
      refine w_call (st := []) (as := [.ref 56, iv 4, iv (zz s4 72 0)]) (as' := [iv (zz s4 72 0), iv 4, .ref 56]) (p := 97) (q203 94) rfl m152 (by decide) (a_ok_i rfl (r56 hB) rfl) rfl rfl (Nat.le_of_ble_eq_true rfl) (by omega) rfl rfl (a_W.imp w ?_)
      rintro _ ⟨s9, l10, rfl, w⟩
      refine ⟨none, _, rfl, ?_⟩
      show a_W _ 203 97 [.ref 56, iv x1, iv x2] [] (mkH B s9 l10) _
      exact w
theorem w203_97 {d : Nat} {B : aH} {Q : aR → Prop} (hB : a_Can B) (hd : 1 ≤ d) (x1 x2 : Int) (s : Nat → Nat → Int32) (l : Nat → Nat → Int64) (w : (((zz s 56 4) ≠ 34 → a_W d 203 118 [.ref 56, iv x1, iv x2] [] (mkH B s l) Q) ∧ ((zz s 56 4) = 34 → a_W (d - 1) 152 0 [.ref 56, iv 8, iv (zz s 72 0)] [] (mkH B s l) (fun r => ∃ (s2 : Nat → Nat → Int32) (l3 : Nat → Nat → Int64), r = (.inl none, mkH B s2 l3) ∧ a_W d 203 118 [.ref 56, iv x1, iv x2] [] (mkH B s2 l3) Q)))) : a_W d 203 97 [.ref 56, iv x1, iv x2] [] (mkH B s l) Q := by
  refine w_aln (p := 98) (q203 97) rfl rfl ?_
  refine w_gI (p := 101) (j := 4) (v := (zz s 56 4)) (q203 98) rfl (r56 hB) (by decide) (iv_zz s 56 4) ?_
  refine w_bp (p := 103) (q203 101) rfl (by decide) ?_
  by_cases c1 : (zz s 56 4) ≠ 34
  · replace w := w.1 c1
    refine w_i2t (q203 103) (inR_zz _ _ _) (by decide) c1 ?_
    exact w
  · replace w := w.2 (Decidable.not_not.mp c1)
    refine w_i2f (p := 106) (q203 103) rfl (inR_zz _ _ _) (by decide) c1 ?_
    refine w_aln (p := 107) (q203 106) rfl rfl ?_
    refine w_bp (p := 109) (q203 107) rfl (by decide) ?_
    refine w_aln (p := 110) (q203 109) rfl rfl ?_
    refine w_gR (p := 113) (j := 28) (v := 72) (q203 110) rfl (r56 hB) (by decide) (f56_28 hB) ?_
    refine w_ic (p := 114) (q203 113) rfl ?_
    refine w_ia (p := 115) (v := (zz s 72 0)) (q203 114) rfl (r72 hB) (by decide) (by decide) (iv_zz s 72 0) ?_
    refine w_call (st := []) (as := [.ref 56, iv 8, iv (zz s 72 0)]) (as' := [iv (zz s 72 0), iv 8, .ref 56]) (p := 118) (q203 115) rfl m152 (by decide) (a_ok_i rfl (r56 hB) rfl) rfl rfl (Nat.le_of_ble_eq_true rfl) (by omega) rfl rfl (a_W.imp w ?_)
    rintro _ ⟨s2, l3, rfl, w⟩
    refine ⟨none, _, rfl, ?_⟩
    show a_W _ 203 118 [.ref 56, iv x1, iv x2] [] (mkH B s2 l3) _
    exact w
theorem w203_118 {d : Nat} {B : aH} {Q : aR → Prop} (hB : a_Can B) (hd : 1 ≤ d) (x1 x2 : Int) (s : Nat → Nat → Int32) (l : Nat → Nat → Int64) (w : (((zz s 56 22) ≤ 0 → a_W (d - 1) 160 0 [.ref 61, iv (zz s 56 4), .ref 74, iv 0, .retAddr 0] [] (mkH B s l) (fun r => ∃ (s2 : Nat → Nat → Int32) (l3 : Nat → Nat → Int64), r = (.inl none, mkH B s2 l3) ∧ ((0 ≤ (zz s2 56 4) ∧ (zz s2 56 4) < 34) ∧ Q (.inl (some (iv (((zz s2 56 4) + 1) - 1))), (mkH B (zu (zu s2 62 (zz s2 56 4).toNat x2) 56 4 ((zz s2 56 4) + 1)) l3))))) ∧ (0 < (zz s 56 22) → Q (.inl (some (iv (-1))), (mkH B s l))))) : a_W d 203 118 [.ref 56, iv x1, iv x2] [] (mkH B s l) Q := by
  refine w_aln (p := 119) (q203 118) rfl rfl ?_
  refine w_gI (p := 122) (j := 22) (v := (zz s 56 22)) (q203 119) rfl (r56 hB) (by decide) (iv_zz s 56 22) ?_
  by_cases c1 : (zz s 56 22) ≤ 0
  · replace w := w.1 c1
    refine w_i1t (q203 122) (inR_zz _ _ _) c1 ?_
    refine w_aln (p := 128) (q203 127) rfl rfl ?_
    refine w_gR (p := 131) (j := 9) (v := 61) (q203 128) rfl (r56 hB) (by decide) (f56_9 hB) ?_
    refine w_aln (p := 132) (q203 131) rfl rfl ?_
    refine w_gI (p := 135) (j := 4) (v := (zz s 56 4)) (q203 132) rfl (r56 hB) (by decide) (iv_zz s 56 4) ?_
    refine w_aln (p := 136) (q203 135) rfl rfl ?_
    refine w_gR (p := 139) (j := 30) (v := 74) (q203 136) rfl (r56 hB) (by decide) (f56_30 hB) ?_
    refine w_ic (p := 140) (q203 139) rfl ?_
    refine w_call (st := []) (as := [.ref 61, iv (zz s 56 4), .ref 74, iv 0]) (as' := [iv 0, .ref 74, iv (zz s 56 4), .ref 61]) (p := 143) (q203 140) rfl m160 (by decide) (a_ok_s rfl rfl) rfl rfl (Nat.le_of_ble_eq_true rfl) (by omega) rfl rfl (a_W.imp w ?_)
    rintro _ ⟨s2, l3, rfl, w⟩
    refine ⟨none, _, rfl, ?_⟩
    show a_W _ 203 143 [.ref 56, iv x1, iv x2] [] (mkH B s2 l3) _
    refine w_aln (p := 144) (q203 143) rfl rfl ?_
    refine w_gR (p := 147) (j := 10) (v := 62) (q203 144) rfl (r56 hB) (by decide) (f56_10 hB) ?_
    refine w_aln (p := 148) (q203 147) rfl rfl ?_
    refine w_gI (p := 151) (j := 4) (v := (zz s2 56 4)) (q203 148) rfl (r56 hB) (by decide) (iv_zz s2 56 4) ?_
    refine w_iln (p := 152) (q203 151) rfl rfl ?_
    obtain ⟨o4, w⟩ := w
    refine w_ias (p := 153) (q203 152) rfl (r62 hB) (by decide) o4 ?_
    refine w_aln (p := 154) (q203 153) rfl rfl ?_
    refine w_dupr (p := 155) (q203 154) rfl ?_
    refine w_gI (p := 158) (j := 4) (v := (zz s2 56 4)) (q203 155) rfl (r56 hB) (by decide) (iv_zz s2 56 4) ?_
    refine w_ic (p := 159) (q203 158) rfl ?_
    refine w_add (p := 160) (q203 159) rfl ?_
    refine w_pI (p := 163) (j := 4) (q203 160) rfl (r56 hB) (by decide) rfl ?_
    refine w_aln (p := 164) (q203 163) rfl rfl ?_
    refine w_gI (p := 167) (j := 4) (v := ((zz s2 56 4) + 1)) (q203 164) rfl (r56 hB) (by decide) rfl ?_
    refine w_ic (p := 168) (q203 167) rfl ?_
    refine w_sub (p := 169) (q203 168) rfl ?_
    exact w_ret (q203 169) rfl w
  · replace w := w.2 (Int.not_le.mp c1)
    refine w_i1f (p := 125) (q203 122) rfl (inR_zz _ _ _) c1 ?_
    refine w_ic (p := 126) (q203 125) rfl ?_
    exact w_ret (q203 126) rfl w
theorem w206_0 {d : Nat} {B : aH} {Q : aR → Prop} (hB : a_Can B) (x1 : Int) (s : Nat → Nat → Int32) (l : Nat → Nat → Int64) (w : (inR x1 ∧ ((x1 < 0 → Q (.inl (some (iv 0)), (mkH B (zu s 56 0 1) l))) ∧ (0 ≤ x1 → ((x1 < (zz s 56 18) → ((0 ≤ x1 ∧ x1 < 520) ∧ Q (.inl (some (iv (zz s 68 x1.toNat))), (mkH B (zu s 56 0 0) l)))) ∧ ((zz s 56 18) ≤ x1 → Q (.inl (some (iv 0)), (mkH B (zu s 56 0 1) l)))))))) : a_W d 206 0 [.ref 56, iv x1] [] (mkH B s l) Q := by
  refine w_aln (p := 1) (q206 0) rfl rfl ?_
  refine w_iln (p := 2) (q206 1) rfl rfl ?_
  obtain ⟨h1, w⟩ := w
  by_cases c2 : x1 < 0
  · replace w := w.1 c2
    refine w_i1t (q206 2) h1 c2 ?_
    refine w_ic (p := 14) (q206 13) rfl ?_
    refine w_goto (q206 14) ?_
    refine w_pI (p := 21) (j := 0) (q206 18) rfl (r56 hB) (by decide) rfl ?_
    refine w_aln (p := 22) (q206 21) rfl rfl ?_
    refine w_gI (p := 25) (j := 0) (v := 1) (q206 22) rfl (r56 hB) (by decide) rfl ?_
    refine w_i1f (p := 28) (q206 25) rfl (by decide) (show ¬ zc _ _ _ by unfold zc; omega) ?_
    refine w_ic (p := 29) (q206 28) rfl ?_
    refine w_goto (q206 29) ?_
    exact w_ret (q206 38) rfl w
  · replace w := w.2 (Int.not_lt.mp c2)
    refine w_i1f (p := 5) (q206 2) rfl h1 c2 ?_
    refine w_iln (p := 6) (q206 5) rfl rfl ?_
    refine w_aln (p := 7) (q206 6) rfl rfl ?_
    refine w_gI (p := 10) (j := 18) (v := (zz s 56 18)) (q206 7) rfl (r56 hB) (by decide) (iv_zz s 56 18) ?_
    by_cases c3 : x1 < (zz s 56 18)
    · replace w := w.1 c3
      refine w_i2t (q206 10) h1 (inR_zz _ _ _) c3 ?_
      refine w_ic (p := 18) (q206 17) rfl ?_
      refine w_pI (p := 21) (j := 0) (q206 18) rfl (r56 hB) (by decide) rfl ?_
      refine w_aln (p := 22) (q206 21) rfl rfl ?_
      refine w_gI (p := 25) (j := 0) (v := 0) (q206 22) rfl (r56 hB) (by decide) rfl ?_
      refine w_i1t (q206 25) (by decide) (show zc _ _ _ by unfold zc; omega) ?_
      refine w_aln (p := 33) (q206 32) rfl rfl ?_
      refine w_gR (p := 36) (j := 19) (v := 68) (q206 33) rfl (r56 hB) (by decide) (f56_19 hB) ?_
      refine w_iln (p := 37) (q206 36) rfl rfl ?_
      obtain ⟨o4, w⟩ := w
      refine w_ia (p := 38) (v := (zz s 68 x1.toNat)) (q206 37) rfl (r68 hB) (by decide) o4 (iv_zz s 68 x1.toNat) ?_
      exact w_ret (q206 38) rfl w
    · replace w := w.2 (Int.not_lt.mp c3)
      refine w_i2f (p := 13) (q206 10) rfl h1 (inR_zz _ _ _) c3 ?_
      refine w_ic (p := 14) (q206 13) rfl ?_
      refine w_goto (q206 14) ?_
      refine w_pI (p := 21) (j := 0) (q206 18) rfl (r56 hB) (by decide) rfl ?_
      refine w_aln (p := 22) (q206 21) rfl rfl ?_
      refine w_gI (p := 25) (j := 0) (v := 1) (q206 22) rfl (r56 hB) (by decide) rfl ?_
      refine w_i1f (p := 28) (q206 25) rfl (by decide) (show ¬ zc _ _ _ by unfold zc; omega) ?_
      refine w_ic (p := 29) (q206 28) rfl ?_
      refine w_goto (q206 29) ?_
      exact w_ret (q206 38) rfl w
theorem w207_0 {d : Nat} {B : aH} {Q : aR → Prop} (hB : a_Can B) (x1 x2 : Int) (s : Nat → Nat → Int32) (l : Nat → Nat → Int64) (w : (inR x1 ∧ ((x1 < 0 → Q (.inl (some (iv 0)), (mkH B (zu s 56 0 1) l))) ∧ (0 ≤ x1 → (((zz s 56 18) ≤ x1 → Q (.inl (some (iv 0)), (mkH B (zu s 56 0 1) l))) ∧ (x1 < (zz s 56 18) → (inR x2 ∧ ((x2 < 0 → Q (.inl (some (iv 0)), (mkH B (zu s 56 0 1) l))) ∧ (0 ≤ x2 → ((0 ≤ (x1 + 1) ∧ (x1 + 1) < 521) ∧ ((0 ≤ x1 ∧ x1 < 521) ∧ (inR ((zz s 69 (x1 + 1).toNat) - (zz s 69 x1.toNat)) ∧ ((x2 < ((zz s 69 (x1 + 1).toNat) - (zz s 69 x1.toNat)) → ((0 ≤ ((zz s 69 x1.toNat) + x2) ∧ ((zz s 69 x1.toNat) + x2) < 20800) ∧ Q (.inl (some (iv (zz s 70 ((zz s 69 x1.toNat) + x2).toNat))), (mkH B (zu s 56 0 0) l)))) ∧ (((zz s 69 (x1 + 1).toNat) - (zz s 69 x1.toNat)) ≤ x2 → Q (.inl (some (iv 0)), (mkH B (zu s 56 0 1) l)))))))))))))))) : a_W d 207 0 [.ref 56, iv x1, iv x2] [] (mkH B s l) Q := by
  refine w_aln (p := 1) (q207 0) rfl rfl ?_
  refine w_iln (p := 2) (q207 1) rfl rfl ?_
  obtain ⟨h1, w⟩ := w
  by_cases c2 : x1 < 0
  · replace w := w.1 c2
    refine w_i1t (q207 2) h1 c2 ?_
    refine w_ic (p := 37) (q207 36) rfl ?_
    refine w_goto (q207 37) ?_
    refine w_pI (p := 44) (j := 0) (q207 41) rfl (r56 hB) (by decide) rfl ?_
    refine w_aln (p := 45) (q207 44) rfl rfl ?_
    refine w_gI (p := 48) (j := 0) (v := 1) (q207 45) rfl (r56 hB) (by decide) rfl ?_
    refine w_i1f (p := 51) (q207 48) rfl (by decide) (show ¬ zc _ _ _ by unfold zc; omega) ?_
    refine w_ic (p := 52) (q207 51) rfl ?_
    refine w_goto (q207 52) ?_
    exact w_ret (q207 68) rfl w
  · replace w := w.2 (Int.not_lt.mp c2)
    refine w_i1f (p := 5) (q207 2) rfl h1 c2 ?_
    refine w_iln (p := 6) (q207 5) rfl rfl ?_
    refine w_aln (p := 7) (q207 6) rfl rfl ?_
    refine w_gI (p := 10) (j := 18) (v := (zz s 56 18)) (q207 7) rfl (r56 hB) (by decide) (iv_zz s 56 18) ?_
    by_cases c3 : (zz s 56 18) ≤ x1
    · replace w := w.1 c3
      refine w_i2t (q207 10) h1 (inR_zz _ _ _) c3 ?_
      refine w_ic (p := 37) (q207 36) rfl ?_
      refine w_goto (q207 37) ?_
      refine w_pI (p := 44) (j := 0) (q207 41) rfl (r56 hB) (by decide) rfl ?_
      refine w_aln (p := 45) (q207 44) rfl rfl ?_
      refine w_gI (p := 48) (j := 0) (v := 1) (q207 45) rfl (r56 hB) (by decide) rfl ?_
      refine w_i1f (p := 51) (q207 48) rfl (by decide) (show ¬ zc _ _ _ by unfold zc; omega) ?_
      refine w_ic (p := 52) (q207 51) rfl ?_
      refine w_goto (q207 52) ?_
      exact w_ret (q207 68) rfl w
    · replace w := w.2 (Int.not_le.mp c3)
      refine w_i2f (p := 13) (q207 10) rfl h1 (inR_zz _ _ _) c3 ?_
      refine w_iln (p := 14) (q207 13) rfl rfl ?_
      obtain ⟨h4, w⟩ := w
      by_cases c5 : x2 < 0
      · replace w := w.1 c5
        refine w_i1t (q207 14) h4 c5 ?_
        refine w_ic (p := 37) (q207 36) rfl ?_
        refine w_goto (q207 37) ?_
        refine w_pI (p := 44) (j := 0) (q207 41) rfl (r56 hB) (by decide) rfl ?_
        refine w_aln (p := 45) (q207 44) rfl rfl ?_
        refine w_gI (p := 48) (j := 0) (v := 1) (q207 45) rfl (r56 hB) (by decide) rfl ?_
        refine w_i1f (p := 51) (q207 48) rfl (by decide) (show ¬ zc _ _ _ by unfold zc; omega) ?_
        refine w_ic (p := 52) (q207 51) rfl ?_
        refine w_goto (q207 52) ?_
        exact w_ret (q207 68) rfl w
      · replace w := w.2 (Int.not_lt.mp c5)
        refine w_i1f (p := 17) (q207 14) rfl h4 c5 ?_
        refine w_iln (p := 18) (q207 17) rfl rfl ?_
        refine w_aln (p := 19) (q207 18) rfl rfl ?_
        refine w_gR (p := 22) (j := 20) (v := 69) (q207 19) rfl (r56 hB) (by decide) (f56_20 hB) ?_
        refine w_iln (p := 23) (q207 22) rfl rfl ?_
        refine w_ic (p := 24) (q207 23) rfl ?_
        refine w_add (p := 25) (q207 24) rfl ?_
        obtain ⟨o6, w⟩ := w
        refine w_ia (p := 26) (v := (zz s 69 (x1 + 1).toNat)) (q207 25) rfl (r69 hB) (by decide) o6 (iv_zz s 69 (x1 + 1).toNat) ?_
        refine w_aln (p := 27) (q207 26) rfl rfl ?_
        refine w_gR (p := 30) (j := 20) (v := 69) (q207 27) rfl (r56 hB) (by decide) (f56_20 hB) ?_
        refine w_iln (p := 31) (q207 30) rfl rfl ?_
        obtain ⟨o7, w⟩ := w
        refine w_ia (p := 32) (v := (zz s 69 x1.toNat)) (q207 31) rfl (r69 hB) (by decide) o7 (iv_zz s 69 x1.toNat) ?_
        refine w_sub (p := 33) (q207 32) rfl ?_
        obtain ⟨h8, w⟩ := w
        by_cases c9 : x2 < ((zz s 69 (x1 + 1).toNat) - (zz s 69 x1.toNat))
        · replace w := w.1 c9
          refine w_i2t (q207 33) h4 h8 c9 ?_
          refine w_ic (p := 41) (q207 40) rfl ?_
          refine w_pI (p := 44) (j := 0) (q207 41) rfl (r56 hB) (by decide) rfl ?_
          refine w_aln (p := 45) (q207 44) rfl rfl ?_
          refine w_gI (p := 48) (j := 0) (v := 0) (q207 45) rfl (r56 hB) (by decide) rfl ?_
          refine w_i1t (q207 48) (by decide) (show zc _ _ _ by unfold zc; omega) ?_
          refine w_aln (p := 56) (q207 55) rfl rfl ?_
          refine w_gR (p := 59) (j := 21) (v := 70) (q207 56) rfl (r56 hB) (by decide) (f56_21 hB) ?_
          refine w_aln (p := 60) (q207 59) rfl rfl ?_
          refine w_gR (p := 63) (j := 20) (v := 69) (q207 60) rfl (r56 hB) (by decide) (f56_20 hB) ?_
          refine w_iln (p := 64) (q207 63) rfl rfl ?_
          refine w_ia (p := 65) (v := (zz s 69 x1.toNat)) (q207 64) rfl (r69 hB) (by decide) o7 (iv_zz s 69 x1.toNat) ?_
          refine w_iln (p := 66) (q207 65) rfl rfl ?_
          refine w_add (p := 67) (q207 66) rfl ?_
          obtain ⟨o10, w⟩ := w
          refine w_ia (p := 68) (v := (zz s 70 ((zz s 69 x1.toNat) + x2).toNat)) (q207 67) rfl (r70 hB) (by decide) o10 (iv_zz s 70 ((zz s 69 x1.toNat) + x2).toNat) ?_
          exact w_ret (q207 68) rfl w
        · replace w := w.2 (Int.not_lt.mp c9)
          refine w_i2f (p := 36) (q207 33) rfl h4 h8 c9 ?_
          refine w_ic (p := 37) (q207 36) rfl ?_
          refine w_goto (q207 37) ?_
          refine w_pI (p := 44) (j := 0) (q207 41) rfl (r56 hB) (by decide) rfl ?_
          refine w_aln (p := 45) (q207 44) rfl rfl ?_
          refine w_gI (p := 48) (j := 0) (v := 1) (q207 45) rfl (r56 hB) (by decide) rfl ?_
          refine w_i1f (p := 51) (q207 48) rfl (by decide) (show ¬ zc _ _ _ by unfold zc; omega) ?_
          refine w_ic (p := 52) (q207 51) rfl ?_
          refine w_goto (q207 52) ?_
          exact w_ret (q207 68) rfl w
