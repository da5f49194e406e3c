/-! printed by wip/am/mk81.py: the reference's written types -/
theorem w170_0 {d : Nat} {B : aH} {Q : aR → Prop} (hB : a_Can B) (x1 x2 : Int) (s : Nat → Nat → Int32) (l : Nat → Nat → Int64) (w : ((0 ≤ (zz s 56 33) ∧ (zz s 56 33) < 12100) ∧ Q (.inl (some (iv (((zz s 56 33) + 1) - 1))), (mkH B (zu (zu (zu (zu (zu (zu (zu (zu s 75 (zz s 56 33).toNat x1) 76 (zz s 56 33).toNat x2) 77 (zz s 56 33).toNat (-1)) 78 (zz s 56 33).toNat (-1)) 79 (zz s 56 33).toNat 0) 80 (zz s 56 33).toNat 1) 81 (zz s 56 33).toNat 1) 56 33 ((zz s 56 33) + 1)) l)))) : a_W d 170 0 [.ref 56, iv x1, iv x2] [] (mkH B s l) Q := by
  refine w_aln (p := 1) (q170 0) rfl rfl ?_
  refine w_gR (p := 4) (j := 34) (v := 75) (q170 1) rfl (r56 hB) (by decide) (f56_34 hB) ?_
  refine w_aln (p := 5) (q170 4) rfl rfl ?_
  refine w_gI (p := 8) (j := 33) (v := (zz s 56 33)) (q170 5) rfl (r56 hB) (by decide) (iv_zz s 56 33) ?_
  refine w_iln (p := 9) (q170 8) rfl rfl ?_
  obtain ⟨o1, w⟩ := w
  refine w_ias (p := 10) (q170 9) rfl (r75 hB) (by decide) o1 ?_
  refine w_aln (p := 11) (q170 10) rfl rfl ?_
  refine w_gR (p := 14) (j := 35) (v := 76) (q170 11) rfl (r56 hB) (by decide) (f56_35 hB) ?_
  refine w_aln (p := 15) (q170 14) rfl rfl ?_
  refine w_gI (p := 18) (j := 33) (v := (zz s 56 33)) (q170 15) rfl (r56 hB) (by decide) (iv_zz s 56 33) ?_
  refine w_iln (p := 19) (q170 18) rfl rfl ?_
  refine w_ias (p := 20) (q170 19) rfl (r76 hB) (by decide) o1 ?_
  refine w_aln (p := 21) (q170 20) rfl rfl ?_
  refine w_gR (p := 24) (j := 36) (v := 77) (q170 21) rfl (r56 hB) (by decide) (f56_36 hB) ?_
  refine w_aln (p := 25) (q170 24) rfl rfl ?_
  refine w_gI (p := 28) (j := 33) (v := (zz s 56 33)) (q170 25) rfl (r56 hB) (by decide) (iv_zz s 56 33) ?_
  refine w_ic (p := 29) (q170 28) rfl ?_
  refine w_ias (p := 30) (q170 29) rfl (r77 hB) (by decide) o1 ?_
  refine w_aln (p := 31) (q170 30) rfl rfl ?_
  refine w_gR (p := 34) (j := 37) (v := 78) (q170 31) rfl (r56 hB) (by decide) (f56_37 hB) ?_
  refine w_aln (p := 35) (q170 34) rfl rfl ?_
  refine w_gI (p := 38) (j := 33) (v := (zz s 56 33)) (q170 35) rfl (r56 hB) (by decide) (iv_zz s 56 33) ?_
  refine w_ic (p := 39) (q170 38) rfl ?_
  refine w_ias (p := 40) (q170 39) rfl (r78 hB) (by decide) o1 ?_
  refine w_aln (p := 41) (q170 40) rfl rfl ?_
  refine w_gR (p := 44) (j := 38) (v := 79) (q170 41) rfl (r56 hB) (by decide) (f56_38 hB) ?_
  refine w_aln (p := 45) (q170 44) rfl rfl ?_
  refine w_gI (p := 48) (j := 33) (v := (zz s 56 33)) (q170 45) rfl (r56 hB) (by decide) (iv_zz s 56 33) ?_
  refine w_ic (p := 49) (q170 48) rfl ?_
  refine w_ias (p := 50) (q170 49) rfl (r79 hB) (by decide) o1 ?_
  refine w_aln (p := 51) (q170 50) rfl rfl ?_
  refine w_gR (p := 54) (j := 39) (v := 80) (q170 51) rfl (r56 hB) (by decide) (f56_39 hB) ?_
  refine w_aln (p := 55) (q170 54) rfl rfl ?_
  refine w_gI (p := 58) (j := 33) (v := (zz s 56 33)) (q170 55) rfl (r56 hB) (by decide) (iv_zz s 56 33) ?_
  refine w_ic (p := 59) (q170 58) rfl ?_
  refine w_ias (p := 60) (q170 59) rfl (r80 hB) (by decide) o1 ?_
  refine w_aln (p := 61) (q170 60) rfl rfl ?_
  refine w_gR (p := 64) (j := 40) (v := 81) (q170 61) rfl (r56 hB) (by decide) (f56_40 hB) ?_
  refine w_aln (p := 65) (q170 64) rfl rfl ?_
  refine w_gI (p := 68) (j := 33) (v := (zz s 56 33)) (q170 65) rfl (r56 hB) (by decide) (iv_zz s 56 33) ?_
  refine w_ic (p := 69) (q170 68) rfl ?_
  refine w_ias (p := 70) (q170 69) rfl (r81 hB) (by decide) o1 ?_
  refine w_aln (p := 71) (q170 70) rfl rfl ?_
  refine w_dupr (p := 72) (q170 71) rfl ?_
  refine w_gI (p := 75) (j := 33) (v := (zz s 56 33)) (q170 72) rfl (r56 hB) (by decide) (iv_zz s 56 33) ?_
  refine w_ic (p := 76) (q170 75) rfl ?_
  refine w_add (p := 77) (q170 76) rfl ?_
  refine w_pI (p := 80) (j := 33) (q170 77) rfl (r56 hB) (by decide) rfl ?_
  refine w_aln (p := 81) (q170 80) rfl rfl ?_
  refine w_gI (p := 84) (j := 33) (v := ((zz s 56 33) + 1)) (q170 81) rfl (r56 hB) (by decide) rfl ?_
  refine w_ic (p := 85) (q170 84) rfl ?_
  refine w_sub (p := 86) (q170 85) rfl ?_
  exact w_ret (q170 86) rfl w
theorem w171_0 {d : Nat} {B : aH} {Q : aR → Prop} (hB : a_Can B) (x1 x2 : Int) (s : Nat → Nat → Int32) (l : Nat → Nat → Int64) (w : ((0 ≤ x1 ∧ x1 < 12100) ∧ ((0 ≤ x2 ∧ x2 < 12100) ∧ (inR ((zz s 80 x1.toNat) + (zz s 80 x2.toNat)) ∧ ((((zz s 80 x1.toNat) + (zz s 80 x2.toNat)) ≤ 100000 → (((zz s 81 x2.toNat) < (zz s 81 x1.toNat) → Q (.inl none, (mkH B (zu (zu (zu (zu (zu s 78 x2.toNat (zz s 77 x1.toNat)) 77 x1.toNat x2) 79 x1.toNat ((zz s 79 x1.toNat) + 1)) 80 x1.toNat ((zz s 80 x1.toNat) + (zz s 80 x2.toNat))) 81 x1.toNat (zz s 81 x1.toNat)) l))) ∧ ((zz s 81 x1.toNat) ≤ (zz s 81 x2.toNat) → Q (.inl none, (mkH B (zu (zu (zu (zu (zu s 78 x2.toNat (zz s 77 x1.toNat)) 77 x1.toNat x2) 79 x1.toNat ((zz s 79 x1.toNat) + 1)) 80 x1.toNat ((zz s 80 x1.toNat) + (zz s 80 x2.toNat))) 81 x1.toNat ((zz s 81 x2.toNat) + 1)) l))))) ∧ (100000 < ((zz s 80 x1.toNat) + (zz s 80 x2.toNat)) → (((zz s 81 x2.toNat) < (zz s 81 x1.toNat) → Q (.inl none, (mkH B (zu (zu (zu (zu (zu s 78 x2.toNat (zz s 77 x1.toNat)) 77 x1.toNat x2) 79 x1.toNat ((zz s 79 x1.toNat) + 1)) 80 x1.toNat 100000) 81 x1.toNat (zz s 81 x1.toNat)) l))) ∧ ((zz s 81 x1.toNat) ≤ (zz s 81 x2.toNat) → Q (.inl none, (mkH B (zu (zu (zu (zu (zu s 78 x2.toNat (zz s 77 x1.toNat)) 77 x1.toNat x2) 79 x1.toNat ((zz s 79 x1.toNat) + 1)) 80 x1.toNat 100000) 81 x1.toNat ((zz s 81 x2.toNat) + 1)) l)))))))))) : a_W d 171 0 [.ref 56, iv x1, iv x2, .retAddr 0] [] (mkH B s l) Q := by
  refine w_aln (p := 1) (q171 0) rfl rfl ?_
  refine w_gR (p := 4) (j := 37) (v := 78) (q171 1) rfl (r56 hB) (by decide) (f56_37 hB) ?_
  refine w_iln (p := 5) (q171 4) rfl rfl ?_
  refine w_aln (p := 6) (q171 5) rfl rfl ?_
  refine w_gR (p := 9) (j := 36) (v := 77) (q171 6) rfl (r56 hB) (by decide) (f56_36 hB) ?_
  refine w_iln (p := 10) (q171 9) rfl rfl ?_
  obtain ⟨o1, w⟩ := w
  refine w_ia (p := 11) (v := (zz s 77 x1.toNat)) (q171 10) rfl (r77 hB) (by decide) o1 (iv_zz s 77 x1.toNat) ?_
  obtain ⟨o2, w⟩ := w
  refine w_ias (p := 12) (q171 11) rfl (r78 hB) (by decide) o2 ?_
  refine w_aln (p := 13) (q171 12) rfl rfl ?_
  refine w_gR (p := 16) (j := 36) (v := 77) (q171 13) rfl (r56 hB) (by decide) (f56_36 hB) ?_
  refine w_iln (p := 17) (q171 16) rfl rfl ?_
  refine w_iln (p := 18) (q171 17) rfl rfl ?_
  refine w_ias (p := 19) (q171 18) rfl (r77 hB) (by decide) o1 ?_
  refine w_aln (p := 20) (q171 19) rfl rfl ?_
  refine w_gR (p := 23) (j := 38) (v := 79) (q171 20) rfl (r56 hB) (by decide) (f56_38 hB) ?_
  refine w_iln (p := 24) (q171 23) rfl rfl ?_
  refine w_dup2 (p := 25) (q171 24) rfl ?_
  refine w_ia (p := 26) (v := (zz s 79 x1.toNat)) (q171 25) rfl (r79 hB) (by decide) o1 (iv_zz s 79 x1.toNat) ?_
  refine w_ic (p := 27) (q171 26) rfl ?_
  refine w_add (p := 28) (q171 27) rfl ?_
  refine w_ias (p := 29) (q171 28) rfl (r79 hB) (by decide) o1 ?_
  refine w_aln (p := 30) (q171 29) rfl rfl ?_
  refine w_gR (p := 33) (j := 39) (v := 80) (q171 30) rfl (r56 hB) (by decide) (f56_39 hB) ?_
  refine w_iln (p := 34) (q171 33) rfl rfl ?_
  refine w_ia (p := 35) (v := (zz s 80 x1.toNat)) (q171 34) rfl (r80 hB) (by decide) o1 (iv_zz s 80 x1.toNat) ?_
  refine w_aln (p := 36) (q171 35) rfl rfl ?_
  refine w_gR (p := 39) (j := 39) (v := 80) (q171 36) rfl (r56 hB) (by decide) (f56_39 hB) ?_
  refine w_iln (p := 40) (q171 39) rfl rfl ?_
  refine w_ia (p := 41) (v := (zz s 80 x2.toNat)) (q171 40) rfl (r80 hB) (by decide) o2 (iv_zz s 80 x2.toNat) ?_
  refine w_add (p := 42) (q171 41) rfl ?_
  refine w_isn (p := 43) (ls' := [.ref 56, iv x1, iv x2, iv ((zz s 80 x1.toNat) + (zz s 80 x2.toNat))]) (q171 42) rfl (Nat.le_of_ble_eq_true rfl) rfl ?_
  refine w_aln (p := 44) (q171 43) rfl rfl ?_
  refine w_gR (p := 47) (j := 39) (v := 80) (q171 44) rfl (r56 hB) (by decide) (f56_39 hB) ?_
  refine w_iln (p := 48) (q171 47) rfl rfl ?_
  refine w_iln (p := 49) (q171 48) rfl rfl ?_
  refine w_ldcw (p := 52) (n := 100000) (q171 49) rfl (by decide) ?_
  obtain ⟨h3, w⟩ := w
  by_cases c4 : ((zz s 80 x1.toNat) + (zz s 80 x2.toNat)) ≤ 100000
  · replace w := w.1 c4
    refine w_i2t (q171 52) h3 (by decide) c4 ?_
    refine w_iln (p := 62) (q171 61) rfl rfl ?_
    refine w_ias (p := 63) (q171 62) rfl (r80 hB) (by decide) o1 ?_
    refine w_aln (p := 64) (q171 63) rfl rfl ?_
    refine w_gR (p := 67) (j := 40) (v := 81) (q171 64) rfl (r56 hB) (by decide) (f56_40 hB) ?_
    refine w_iln (p := 68) (q171 67) rfl rfl ?_
    refine w_aln (p := 69) (q171 68) rfl rfl ?_
    refine w_gR (p := 72) (j := 40) (v := 81) (q171 69) rfl (r56 hB) (by decide) (f56_40 hB) ?_
    refine w_iln (p := 73) (q171 72) rfl rfl ?_
    refine w_ia (p := 74) (v := (zz s 81 x2.toNat)) (q171 73) rfl (r81 hB) (by decide) o2 (iv_zz s 81 x2.toNat) ?_
    refine w_aln (p := 75) (q171 74) rfl rfl ?_
    refine w_gR (p := 78) (j := 40) (v := 81) (q171 75) rfl (r56 hB) (by decide) (f56_40 hB) ?_
    refine w_iln (p := 79) (q171 78) rfl rfl ?_
    refine w_ia (p := 80) (v := (zz s 81 x1.toNat)) (q171 79) rfl (r81 hB) (by decide) o1 (iv_zz s 81 x1.toNat) ?_
    by_cases c5 : (zz s 81 x2.toNat) < (zz s 81 x1.toNat)
    · replace w := w.1 c5
      refine w_i2t (q171 80) (inR_zz _ _ _) (inR_zz _ _ _) c5 ?_
      refine w_aln (p := 95) (q171 94) rfl rfl ?_
      refine w_gR (p := 98) (j := 40) (v := 81) (q171 95) rfl (r56 hB) (by decide) (f56_40 hB) ?_
      refine w_iln (p := 99) (q171 98) rfl rfl ?_
      refine w_ia (p := 100) (v := (zz s 81 x1.toNat)) (q171 99) rfl (r81 hB) (by decide) o1 (iv_zz s 81 x1.toNat) ?_
      refine w_ias (p := 101) (q171 100) rfl (r81 hB) (by decide) o1 ?_
      exact w_rv (q171 101) rfl w
    · replace w := w.2 (Int.not_lt.mp c5)
      refine w_i2f (p := 83) (q171 80) rfl (inR_zz _ _ _) (inR_zz _ _ _) c5 ?_
      refine w_aln (p := 84) (q171 83) rfl rfl ?_
      refine w_gR (p := 87) (j := 40) (v := 81) (q171 84) rfl (r56 hB) (by decide) (f56_40 hB) ?_
      refine w_iln (p := 88) (q171 87) rfl rfl ?_
      refine w_ia (p := 89) (v := (zz s 81 x2.toNat)) (q171 88) rfl (r81 hB) (by decide) o2 (iv_zz s 81 x2.toNat) ?_
      refine w_ic (p := 90) (q171 89) rfl ?_
      refine w_add (p := 91) (q171 90) rfl ?_
      refine w_goto (q171 91) ?_
      refine w_ias (p := 101) (q171 100) rfl (r81 hB) (by decide) o1 ?_
      exact w_rv (q171 101) rfl w
  · replace w := w.2 (Int.not_le.mp c4)
    refine w_i2f (p := 55) (q171 52) rfl h3 (by decide) c4 ?_
    refine w_ldcw (p := 58) (n := 100000) (q171 55) rfl (by decide) ?_
    refine w_goto (q171 58) ?_
    refine w_ias (p := 63) (q171 62) rfl (r80 hB) (by decide) o1 ?_
    refine w_aln (p := 64) (q171 63) rfl rfl ?_
    refine w_gR (p := 67) (j := 40) (v := 81) (q171 64) rfl (r56 hB) (by decide) (f56_40 hB) ?_
    refine w_iln (p := 68) (q171 67) rfl rfl ?_
    refine w_aln (p := 69) (q171 68) rfl rfl ?_
    refine w_gR (p := 72) (j := 40) (v := 81) (q171 69) rfl (r56 hB) (by decide) (f56_40 hB) ?_
    refine w_iln (p := 73) (q171 72) rfl rfl ?_
    refine w_ia (p := 74) (v := (zz s 81 x2.toNat)) (q171 73) rfl (r81 hB) (by decide) o2 (iv_zz s 81 x2.toNat) ?_
    refine w_aln (p := 75) (q171 74) rfl rfl ?_
    refine w_gR (p := 78) (j := 40) (v := 81) (q171 75) rfl (r56 hB) (by decide) (f56_40 hB) ?_
    refine w_iln (p := 79) (q171 78) rfl rfl ?_
    refine w_ia (p := 80) (v := (zz s 81 x1.toNat)) (q171 79) rfl (r81 hB) (by decide) o1 (iv_zz s 81 x1.toNat) ?_
    by_cases c6 : (zz s 81 x2.toNat) < (zz s 81 x1.toNat)
    · replace w := w.1 c6
      refine w_i2t (q171 80) (inR_zz _ _ _) (inR_zz _ _ _) c6 ?_
      refine w_aln (p := 95) (q171 94) rfl rfl ?_
      refine w_gR (p := 98) (j := 40) (v := 81) (q171 95) rfl (r56 hB) (by decide) (f56_40 hB) ?_
      refine w_iln (p := 99) (q171 98) rfl rfl ?_
      refine w_ia (p := 100) (v := (zz s 81 x1.toNat)) (q171 99) rfl (r81 hB) (by decide) o1 (iv_zz s 81 x1.toNat) ?_
      refine w_ias (p := 101) (q171 100) rfl (r81 hB) (by decide) o1 ?_
      exact w_rv (q171 101) rfl w
    · replace w := w.2 (Int.not_lt.mp c6)
      refine w_i2f (p := 83) (q171 80) rfl (inR_zz _ _ _) (inR_zz _ _ _) c6 ?_
      refine w_aln (p := 84) (q171 83) rfl rfl ?_
      refine w_gR (p := 87) (j := 40) (v := 81) (q171 84) rfl (r56 hB) (by decide) (f56_40 hB) ?_
      refine w_iln (p := 88) (q171 87) rfl rfl ?_
      refine w_ia (p := 89) (v := (zz s 81 x2.toNat)) (q171 88) rfl (r81 hB) (by decide) o2 (iv_zz s 81 x2.toNat) ?_
      refine w_ic (p := 90) (q171 89) rfl ?_
      refine w_add (p := 91) (q171 90) rfl ?_
      refine w_goto (q171 91) ?_
      refine w_ias (p := 101) (q171 100) rfl (r81 hB) (by decide) o1 ?_
      exact w_rv (q171 101) rfl w
theorem w169_0 {d : Nat} {B : aH} {Q : aR → Prop} (hB : a_Can B) (hd : 1 ≤ d) (s : Nat → Nat → Int32) (l : Nat → Nat → Int64) (w : a_W (d - 1) 164 0 [.ref 56] [] (mkH B (zu s 56 31 ((zz s 56 31) + 1)) l) (fun r => ∃ (s1 : Nat → Nat → Int32) (l2 : Nat → Nat → Int64), r = (.inl none, mkH B s1 l2) ∧ (((zz s1 56 22) ≤ 0 → a_W (d - 1) 167 0 [.ref 56, .retAddr 0, .retAddr 0, .retAddr 0, .retAddr 0, .retAddr 0, .retAddr 0, .retAddr 0, .retAddr 0] [] (mkH B s1 l2) (fun r => ∃ (v6 : Int) (s4 : Nat → Nat → Int32) (l5 : Nat → Nat → Int64), r = (.inl (some (iv v6)), mkH B s4 l5) ∧ a_W (d - 1) 166 0 [.ref 56, iv 5] [] (mkH B s4 l5) (fun r => ∃ (s7 : Nat → Nat → Int32) (l8 : Nat → Nat → Int64), r = (.inl none, mkH B s7 l8) ∧ Q (.inl (some (iv v6)), (mkH B (zu s7 56 32 ((zz s7 56 32) - 1)) l8))))) ∧ (0 < (zz s1 56 22) → a_W (d - 1) 166 0 [.ref 56, iv 5] [] (mkH B s1 l2) (fun r => ∃ (s9 : Nat → Nat → Int32) (l10 : Nat → Nat → Int64), r = (.inl none, mkH B s9 l10) ∧ Q (.inl (some (iv 0)), (mkH B (zu s9 56 32 ((zz s9 56 32) - 1)) l10))))))) : a_W d 169 0 [.ref 56, .retAddr 0] [] (mkH B s l) Q := by
  refine w_aln (p := 1) (q169 0) rfl rfl ?_
  refine w_dupr (p := 2) (q169 1) rfl ?_
  refine w_gI (p := 5) (j := 31) (v := (zz s 56 31)) (q169 2) rfl (r56 hB) (by decide) (iv_zz s 56 31) ?_
  refine w_ic (p := 6) (q169 5) rfl ?_
  refine w_add (p := 7) (q169 6) rfl ?_
  refine w_pI (p := 10) (j := 31) (q169 7) rfl (r56 hB) (by decide) rfl ?_
  refine w_aln (p := 11) (q169 10) rfl rfl ?_
  refine w_call (st := []) (as := [.ref 56]) (as' := [.ref 56]) (p := 14) (q169 11) rfl m164 (by decide) (a_ok_i rfl (r56 hB) rfl) rfl rfl (Nat.le_of_ble_eq_true rfl) (by omega) rfl rfl (a_W.imp w ?_)
  rintro _ ⟨s1, l2, rfl, w⟩
  refine ⟨none, _, rfl, ?_⟩
  show a_W _ 169 14 [.ref 56, .retAddr 0] [] (mkH B s1 l2) _
  refine w_aln (p := 15) (q169 14) rfl rfl ?_
  refine w_gI (p := 18) (j := 22) (v := (zz s1 56 22)) (q169 15) rfl (r56 hB) (by decide) (iv_zz s1 56 22) ?_
  by_cases c3 : (zz s1 56 22) ≤ 0
  · replace w := w.1 c3
    refine w_i1t (q169 18) (inR_zz _ _ _) c3 ?_
    refine w_aln (p := 26) (q169 25) rfl rfl ?_
    refine w_call (st := []) (as := [.ref 56]) (as' := [.ref 56]) (p := 29) (q169 26) rfl m167 (by decide) (a_ok_i rfl (r56 hB) rfl) rfl rfl (Nat.le_of_ble_eq_true rfl) (by omega) rfl rfl (a_W.imp w ?_)
    rintro _ ⟨v6, s4, l5, rfl, w⟩
    refine ⟨some (iv v6), _, rfl, ?_⟩
    show a_W _ 169 29 [.ref 56, .retAddr 0] [iv v6] (mkH B s4 l5) _
    refine w_isn (p := 30) (ls' := [.ref 56, iv v6]) (q169 29) rfl (Nat.le_of_ble_eq_true rfl) rfl ?_
    refine w_aln (p := 31) (q169 30) rfl rfl ?_
    refine w_ic (p := 32) (q169 31) rfl ?_
    refine w_call (st := []) (as := [.ref 56, iv 5]) (as' := [iv 5, .ref 56]) (p := 35) (q169 32) rfl m166 (by decide) (a_ok_i rfl (r56 hB) rfl) rfl rfl (Nat.le_of_ble_eq_true rfl) (by omega) rfl rfl (a_W.imp w ?_)
    rintro _ ⟨s7, l8, rfl, w⟩
    refine ⟨none, _, rfl, ?_⟩
    show a_W _ 169 35 [.ref 56, iv v6] [] (mkH B s7 l8) _
    refine w_aln (p := 36) (q169 35) rfl rfl ?_
    refine w_dupr (p := 37) (q169 36) rfl ?_
    refine w_gI (p := 40) (j := 32) (v := (zz s7 56 32)) (q169 37) rfl (r56 hB) (by decide) (iv_zz s7 56 32) ?_
    refine w_ic (p := 41) (q169 40) rfl ?_
    refine w_sub (p := 42) (q169 41) rfl ?_
    refine w_pI (p := 45) (j := 32) (q169 42) rfl (r56 hB) (by decide) rfl ?_
    refine w_iln (p := 46) (q169 45) rfl rfl ?_
    exact w_ret (q169 46) rfl w
  · replace w := w.2 (Int.not_le.mp c3)
    refine w_i1f (p := 21) (q169 18) rfl (inR_zz _ _ _) c3 ?_
    refine w_ic (p := 22) (q169 21) rfl ?_
    refine w_goto (q169 22) ?_
    refine w_isn (p := 30) (ls' := [.ref 56, iv 0]) (q169 29) rfl (Nat.le_of_ble_eq_true rfl) rfl ?_
    refine w_aln (p := 31) (q169 30) rfl rfl ?_
    refine w_ic (p := 32) (q169 31) rfl ?_
    refine w_call (st := []) (as := [.ref 56, iv 5]) (as' := [iv 5, .ref 56]) (p := 35) (q169 32) rfl m166 (by decide) (a_ok_i rfl (r56 hB) rfl) rfl rfl (Nat.le_of_ble_eq_true rfl) (by omega) rfl rfl (a_W.imp w ?_)
    rintro _ ⟨s9, l10, rfl, w⟩
    refine ⟨none, _, rfl, ?_⟩
    show a_W _ 169 35 [.ref 56, iv 0] [] (mkH B s9 l10) _
    refine w_aln (p := 36) (q169 35) rfl rfl ?_
    refine w_dupr (p := 37) (q169 36) rfl ?_
    refine w_gI (p := 40) (j := 32) (v := (zz s9 56 32)) (q169 37) rfl (r56 hB) (by decide) (iv_zz s9 56 32) ?_
    refine w_ic (p := 41) (q169 40) rfl ?_
    refine w_sub (p := 42) (q169 41) rfl ?_
    refine w_pI (p := 45) (j := 32) (q169 42) rfl (r56 hB) (by decide) rfl ?_
    refine w_iln (p := 46) (q169 45) rfl rfl ?_
    exact w_ret (q169 46) rfl w
set_option maxRecDepth 10000 in
theorem w168_0 {d : Nat} {B : aH} {Q : aR → Prop} (hB : a_Can B) (hd : 1 ≤ d) (s : Nat → Nat → Int32) (l : Nat → Nat → Int64) (w : a_W (d - 1) 148 0 [.ref 56, iv 0, .retAddr 0] [] (mkH B s l) (fun r => ∃ (v3 : Int) (s1 : Nat → Nat → Int32) (l2 : Nat → Nat → Int64), r = (.inl (some (iv v3)), mkH B s1 l2) ∧ (((zz s1 56 22) ≤ 0 → (inR v3 ∧ ((v3 ≠ 4 → ((v3 ≠ 2 → ((v3 = 1 → ((0 ≤ (zz s1 56 33) ∧ (zz s1 56 33) < 12100) ∧ a_W d 168 103 [.ref 56, iv v3, iv (((zz s1 56 33) + 1) - 1), iv (-1), iv 1, .retAddr 0, .retAddr 0] [] (mkH B (zu (zu (zu (zu (zu (zu (zu (zu (zu s1 75 (zz s1 56 33).toNat 1) 76 (zz s1 56 33).toNat (zz s1 56 31)) 77 (zz s1 56 33).toNat (-1)) 78 (zz s1 56 33).toNat (-1)) 79 (zz s1 56 33).toNat 0) 80 (zz s1 56 33).toNat 1) 81 (zz s1 56 33).toNat 1) 56 33 ((zz s1 56 33) + 1)) 56 31 ((zz s1 56 31) + 1)) l2) Q)) ∧ (v3 ≠ 1 → ((0 ≤ (zz s1 56 31) ∧ (zz s1 56 31) < 6002) ∧ Q (.inl (some (iv 0)), (mkH B (zu (zu s1 56 22 2) 56 23 (zz s1 72 (zz s1 56 31).toNat)) l2)))))) ∧ (v3 = 2 → ((0 ≤ (((zz s1 56 31) + 1) - 1) ∧ (((zz s1 56 31) + 1) - 1) < 6002) ∧ ((0 ≤ (zz s1 56 33) ∧ (zz s1 56 33) < 12100) ∧ Q (.inl (some (iv (((zz s1 56 33) + 1) - 1))), (mkH B (zu (zu (zu (zu (zu (zu (zu (zu (zu s1 56 31 ((zz s1 56 31) + 1)) 75 (zz s1 56 33).toNat 0) 76 (zz s1 56 33).toNat (zz s1 73 (((zz s1 56 31) + 1) - 1).toNat)) 77 (zz s1 56 33).toNat (-1)) 78 (zz s1 56 33).toNat (-1)) 79 (zz s1 56 33).toNat 0) 80 (zz s1 56 33).toNat 1) 81 (zz s1 56 33).toNat 1) 56 33 ((zz s1 56 33) + 1)) l2))))))) ∧ (v3 = 4 → a_W (d - 1) 169 0 [.ref 56, .retAddr 0] [] (mkH B s1 l2) (fun r => ∃ (v15 : Int) (s13 : Nat → Nat → Int32) (l14 : Nat → Nat → Int64), r = (.inl (some (iv v15)), mkH B s13 l14) ∧ Q (.inl (some (iv v15)), (mkH B s13 l14))))))) ∧ (0 < (zz s1 56 22) → Q (.inl (some (iv 0)), (mkH B s1 l2)))))) : a_W d 168 0 [.ref 56, .retAddr 0, .retAddr 0, .retAddr 0, .retAddr 0, .retAddr 0, .retAddr 0] [] (mkH B s l) Q := by
  refine w_aln (p := 1) (q168 0) rfl rfl ?_
  refine w_ic (p := 2) (q168 1) rfl ?_
  refine w_call (st := []) (as := [.ref 56, iv 0]) (as' := [iv 0, .ref 56]) (p := 5) (q168 2) rfl m148 (by decide) (a_ok_i rfl (r56 hB) rfl) rfl rfl (Nat.le_of_ble_eq_true rfl) (by omega) rfl rfl (a_W.imp w ?_)
  rintro _ ⟨v3, s1, l2, rfl, w⟩
  refine ⟨some (iv v3), _, rfl, ?_⟩
  show a_W _ 168 5 [.ref 56, .retAddr 0, .retAddr 0, .retAddr 0, .retAddr 0, .retAddr 0, .retAddr 0] [iv v3] (mkH B s1 l2) _
  refine w_isn (p := 6) (ls' := [.ref 56, iv v3, .retAddr 0, .retAddr 0, .retAddr 0, .retAddr 0, .retAddr 0]) (q168 5) rfl (Nat.le_of_ble_eq_true rfl) rfl ?_
  refine w_aln (p := 7) (q168 6) rfl rfl ?_
  refine w_gI (p := 10) (j := 22) (v := (zz s1 56 22)) (q168 7) rfl (r56 hB) (by decide) (iv_zz s1 56 22) ?_
  by_cases c4 : (zz s1 56 22) ≤ 0
  · replace w := w.1 c4
    refine w_i1t (q168 10) (inR_zz _ _ _) c4 ?_
    refine w_iln (p := 16) (q168 15) rfl rfl ?_
    refine w_ic (p := 17) (q168 16) rfl ?_
    obtain ⟨h5, w⟩ := w
    by_cases c6 : v3 ≠ 4
    · replace w := w.1 c6
      refine w_i2t (q168 17) h5 (by decide) c6 ?_
      refine w_iln (p := 26) (q168 25) rfl rfl ?_
      refine w_ic (p := 27) (q168 26) rfl ?_
      by_cases c7 : v3 ≠ 2
      · replace w := w.1 c7
        refine w_i2t (q168 27) h5 (by decide) c7 ?_
        refine w_iln (p := 58) (q168 57) rfl rfl ?_
        refine w_ic (p := 59) (q168 58) rfl ?_
        by_cases c8 : v3 = 1
        · replace w := w.1 c8
          refine w_i2t (q168 59) h5 (by decide) c8 ?_
          refine w_aln (p := 79) (q168 78) rfl rfl ?_
          refine w_ic (p := 80) (q168 79) rfl ?_
          refine w_aln (p := 81) (q168 80) rfl rfl ?_
          refine w_gI (p := 84) (j := 31) (v := (zz s1 56 31)) (q168 81) rfl (r56 hB) (by decide) (iv_zz s1 56 31) ?_
          refine w_call (st := []) (as := [.ref 56, iv 1, iv (zz s1 56 31)]) (as' := [iv (zz s1 56 31), iv 1, .ref 56]) (p := 87) (q168 84) rfl m170 (by decide) (a_ok_i rfl (r56 hB) rfl) rfl rfl (Nat.le_of_ble_eq_true rfl) (by omega) rfl rfl ?_
          refine w_aln (p := 1) (q170 0) rfl rfl ?_
          refine w_gR (p := 4) (j := 34) (v := 75) (q170 1) rfl (r56 hB) (by decide) (f56_34 hB) ?_
          refine w_aln (p := 5) (q170 4) rfl rfl ?_
          refine w_gI (p := 8) (j := 33) (v := (zz s1 56 33)) (q170 5) rfl (r56 hB) (by decide) (iv_zz s1 56 33) ?_
          refine w_iln (p := 9) (q170 8) rfl rfl ?_
          obtain ⟨o9, w⟩ := w
          refine w_ias (p := 10) (q170 9) rfl (r75 hB) (by decide) o9 ?_
          refine w_aln (p := 11) (q170 10) rfl rfl ?_
          refine w_gR (p := 14) (j := 35) (v := 76) (q170 11) rfl (r56 hB) (by decide) (f56_35 hB) ?_
          refine w_aln (p := 15) (q170 14) rfl rfl ?_
          refine w_gI (p := 18) (j := 33) (v := (zz s1 56 33)) (q170 15) rfl (r56 hB) (by decide) (iv_zz s1 56 33) ?_
          refine w_iln (p := 19) (q170 18) rfl rfl ?_
          refine w_ias (p := 20) (q170 19) rfl (r76 hB) (by decide) o9 ?_
          refine w_aln (p := 21) (q170 20) rfl rfl ?_
          refine w_gR (p := 24) (j := 36) (v := 77) (q170 21) rfl (r56 hB) (by decide) (f56_36 hB) ?_
          refine w_aln (p := 25) (q170 24) rfl rfl ?_
          refine w_gI (p := 28) (j := 33) (v := (zz s1 56 33)) (q170 25) rfl (r56 hB) (by decide) (iv_zz s1 56 33) ?_
          refine w_ic (p := 29) (q170 28) rfl ?_
          refine w_ias (p := 30) (q170 29) rfl (r77 hB) (by decide) o9 ?_
          refine w_aln (p := 31) (q170 30) rfl rfl ?_
          refine w_gR (p := 34) (j := 37) (v := 78) (q170 31) rfl (r56 hB) (by decide) (f56_37 hB) ?_
          refine w_aln (p := 35) (q170 34) rfl rfl ?_
          refine w_gI (p := 38) (j := 33) (v := (zz s1 56 33)) (q170 35) rfl (r56 hB) (by decide) (iv_zz s1 56 33) ?_
          refine w_ic (p := 39) (q170 38) rfl ?_
          refine w_ias (p := 40) (q170 39) rfl (r78 hB) (by decide) o9 ?_
          refine w_aln (p := 41) (q170 40) rfl rfl ?_
          refine w_gR (p := 44) (j := 38) (v := 79) (q170 41) rfl (r56 hB) (by decide) (f56_38 hB) ?_
          refine w_aln (p := 45) (q170 44) rfl rfl ?_
          refine w_gI (p := 48) (j := 33) (v := (zz s1 56 33)) (q170 45) rfl (r56 hB) (by decide) (iv_zz s1 56 33) ?_
          refine w_ic (p := 49) (q170 48) rfl ?_
          refine w_ias (p := 50) (q170 49) rfl (r79 hB) (by decide) o9 ?_
          refine w_aln (p := 51) (q170 50) rfl rfl ?_
          refine w_gR (p := 54) (j := 39) (v := 80) (q170 51) rfl (r56 hB) (by decide) (f56_39 hB) ?_
          refine w_aln (p := 55) (q170 54) rfl rfl ?_
          refine w_gI (p := 58) (j := 33) (v := (zz s1 56 33)) (q170 55) rfl (r56 hB) (by decide) (iv_zz s1 56 33) ?_
          refine w_ic (p := 59) (q170 58) rfl ?_
          refine w_ias (p := 60) (q170 59) rfl (r80 hB) (by decide) o9 ?_
          refine w_aln (p := 61) (q170 60) rfl rfl ?_
          refine w_gR (p := 64) (j := 40) (v := 81) (q170 61) rfl (r56 hB) (by decide) (f56_40 hB) ?_
          refine w_aln (p := 65) (q170 64) rfl rfl ?_
          refine w_gI (p := 68) (j := 33) (v := (zz s1 56 33)) (q170 65) rfl (r56 hB) (by decide) (iv_zz s1 56 33) ?_
          refine w_ic (p := 69) (q170 68) rfl ?_
          refine w_ias (p := 70) (q170 69) rfl (r81 hB) (by decide) o9 ?_
          refine w_aln (p := 71) (q170 70) rfl rfl ?_
          refine w_dupr (p := 72) (q170 71) rfl ?_
          refine w_gI (p := 75) (j := 33) (v := (zz s1 56 33)) (q170 72) rfl (r56 hB) (by decide) (iv_zz s1 56 33) ?_
          refine w_ic (p := 76) (q170 75) rfl ?_
          refine w_add (p := 77) (q170 76) rfl ?_
          refine w_pI (p := 80) (j := 33) (q170 77) rfl (r56 hB) (by decide) rfl ?_
          refine w_aln (p := 81) (q170 80) rfl rfl ?_
          refine w_gI (p := 84) (j := 33) (v := ((zz s1 56 33) + 1)) (q170 81) rfl (r56 hB) (by decide) rfl ?_
          refine w_ic (p := 85) (q170 84) rfl ?_
          refine w_sub (p := 86) (q170 85) rfl ?_
          refine w_ret (q170 86) rfl ⟨_, _, rfl, ?_⟩
          show a_W _ 168 87 [.ref 56, iv v3, .retAddr 0, .retAddr 0, .retAddr 0, .retAddr 0, .retAddr 0] [iv (((zz s1 56 33) + 1) - 1)] _ _
          refine w_isn (p := 88) (ls' := [.ref 56, iv v3, iv (((zz s1 56 33) + 1) - 1), .retAddr 0, .retAddr 0, .retAddr 0, .retAddr 0]) (q168 87) rfl (Nat.le_of_ble_eq_true rfl) rfl ?_
          refine w_aln (p := 89) (q168 88) rfl rfl ?_
          refine w_dupr (p := 90) (q168 89) rfl ?_
          refine w_gI (p := 93) (j := 31) (v := (zz s1 56 31)) (q168 90) rfl (r56 hB) (by decide) (iv_zz s1 56 31) ?_
          refine w_ic (p := 94) (q168 93) rfl ?_
          refine w_add (p := 95) (q168 94) rfl ?_
          refine w_pI (p := 98) (j := 31) (q168 95) rfl (r56 hB) (by decide) rfl ?_
          refine w_ic (p := 99) (q168 98) rfl ?_
          refine w_isn (p := 100) (ls' := [.ref 56, iv v3, iv (((zz s1 56 33) + 1) - 1), iv (-1), .retAddr 0, .retAddr 0, .retAddr 0]) (q168 99) rfl (Nat.le_of_ble_eq_true rfl) rfl ?_
          refine w_ic (p := 101) (q168 100) rfl ?_
          refine w_is (p := 103) (ls' := [.ref 56, iv v3, iv (((zz s1 56 33) + 1) - 1), iv (-1), iv 1, .retAddr 0, .retAddr 0]) (q168 101) rfl (Nat.le_of_ble_eq_true rfl) rfl ?_
          exact w
        · replace w := w.2 c8
          refine w_i2f (p := 62) (q168 59) rfl h5 (by decide) c8 ?_
          refine w_aln (p := 63) (q168 62) rfl rfl ?_
          refine w_ic (p := 64) (q168 63) rfl ?_
          refine w_aln (p := 65) (q168 64) rfl rfl ?_
          refine w_gR (p := 68) (j := 28) (v := 72) (q168 65) rfl (r56 hB) (by decide) (f56_28 hB) ?_
          refine w_aln (p := 69) (q168 68) rfl rfl ?_
          refine w_gI (p := 72) (j := 31) (v := (zz s1 56 31)) (q168 69) rfl (r56 hB) (by decide) (iv_zz s1 56 31) ?_
          obtain ⟨o10, w⟩ := w
          refine w_ia (p := 73) (v := (zz s1 72 (zz s1 56 31).toNat)) (q168 72) rfl (r72 hB) (by decide) o10 (iv_zz s1 72 (zz s1 56 31).toNat) ?_
          refine w_call (st := []) (as := [.ref 56, iv 2, iv (zz s1 72 (zz s1 56 31).toNat)]) (as' := [iv (zz s1 72 (zz s1 56 31).toNat), iv 2, .ref 56]) (p := 76) (q168 73) rfl m152 (by decide) (a_ok_i rfl (r56 hB) rfl) rfl rfl (Nat.le_of_ble_eq_true rfl) (by omega) rfl rfl ?_
          refine w_aln (p := 1) (q152 0) rfl rfl ?_
          refine w_gI (p := 4) (j := 22) (v := (zz s1 56 22)) (q152 1) rfl (r56 hB) (by decide) (iv_zz s1 56 22) ?_
          refine w_i1t (q152 4) (inR_zz _ _ _) (show zc _ _ _ by unfold zc; omega) ?_
          refine w_aln (p := 9) (q152 8) rfl rfl ?_
          refine w_iln (p := 10) (q152 9) rfl rfl ?_
          refine w_pI (p := 13) (j := 22) (q152 10) rfl (r56 hB) (by decide) rfl ?_
          refine w_aln (p := 14) (q152 13) rfl rfl ?_
          refine w_iln (p := 15) (q152 14) rfl rfl ?_
          refine w_pI (p := 18) (j := 23) (q152 15) rfl (r56 hB) (by decide) rfl ?_
          refine w_rv (q152 18) rfl ⟨_, _, rfl, ?_⟩
          show a_W _ 168 76 [.ref 56, iv v3, .retAddr 0, .retAddr 0, .retAddr 0, .retAddr 0, .retAddr 0] [] _ _
          refine w_ic (p := 77) (q168 76) rfl ?_
          exact w_ret (q168 77) rfl w
      · replace w := w.2 (Decidable.not_not.mp c7)
        refine w_i2f (p := 30) (q168 27) rfl h5 (by decide) c7 ?_
        refine w_aln (p := 31) (q168 30) rfl rfl ?_
        refine w_dupr (p := 32) (q168 31) rfl ?_
        refine w_gI (p := 35) (j := 31) (v := (zz s1 56 31)) (q168 32) rfl (r56 hB) (by decide) (iv_zz s1 56 31) ?_
        refine w_ic (p := 36) (q168 35) rfl ?_
        refine w_add (p := 37) (q168 36) rfl ?_
        refine w_pI (p := 40) (j := 31) (q168 37) rfl (r56 hB) (by decide) rfl ?_
        refine w_aln (p := 41) (q168 40) rfl rfl ?_
        refine w_ic (p := 42) (q168 41) rfl ?_
        refine w_aln (p := 43) (q168 42) rfl rfl ?_
        refine w_gR (p := 46) (j := 29) (v := 73) (q168 43) rfl (r56 hB) (by decide) (f56_29 hB) ?_
        refine w_aln (p := 47) (q168 46) rfl rfl ?_
        refine w_gI (p := 50) (j := 31) (v := ((zz s1 56 31) + 1)) (q168 47) rfl (r56 hB) (by decide) rfl ?_
        refine w_ic (p := 51) (q168 50) rfl ?_
        refine w_sub (p := 52) (q168 51) rfl ?_
        obtain ⟨o11, w⟩ := w
        refine w_ia (p := 53) (v := (zz s1 73 (((zz s1 56 31) + 1) - 1).toNat)) (q168 52) rfl (r73 hB) (by decide) o11 (iv_zz s1 73 (((zz s1 56 31) + 1) - 1).toNat) ?_
        refine w_call (st := []) (as := [.ref 56, iv 0, iv (zz s1 73 (((zz s1 56 31) + 1) - 1).toNat)]) (as' := [iv (zz s1 73 (((zz s1 56 31) + 1) - 1).toNat), iv 0, .ref 56]) (p := 56) (q168 53) rfl m170 (by decide) (a_ok_i rfl (r56 hB) rfl) rfl rfl (Nat.le_of_ble_eq_true rfl) (by omega) rfl rfl ?_
        refine w_aln (p := 1) (q170 0) rfl rfl ?_
        refine w_gR (p := 4) (j := 34) (v := 75) (q170 1) rfl (r56 hB) (by decide) (f56_34 hB) ?_
        refine w_aln (p := 5) (q170 4) rfl rfl ?_
        refine w_gI (p := 8) (j := 33) (v := (zz s1 56 33)) (q170 5) rfl (r56 hB) (by decide) (iv_zz s1 56 33) ?_
        refine w_iln (p := 9) (q170 8) rfl rfl ?_
        obtain ⟨o12, w⟩ := w
        refine w_ias (p := 10) (q170 9) rfl (r75 hB) (by decide) o12 ?_
        refine w_aln (p := 11) (q170 10) rfl rfl ?_
        refine w_gR (p := 14) (j := 35) (v := 76) (q170 11) rfl (r56 hB) (by decide) (f56_35 hB) ?_
        refine w_aln (p := 15) (q170 14) rfl rfl ?_
        refine w_gI (p := 18) (j := 33) (v := (zz s1 56 33)) (q170 15) rfl (r56 hB) (by decide) (iv_zz s1 56 33) ?_
        refine w_iln (p := 19) (q170 18) rfl rfl ?_
        refine w_ias (p := 20) (q170 19) rfl (r76 hB) (by decide) o12 ?_
        refine w_aln (p := 21) (q170 20) rfl rfl ?_
        refine w_gR (p := 24) (j := 36) (v := 77) (q170 21) rfl (r56 hB) (by decide) (f56_36 hB) ?_
        refine w_aln (p := 25) (q170 24) rfl rfl ?_
        refine w_gI (p := 28) (j := 33) (v := (zz s1 56 33)) (q170 25) rfl (r56 hB) (by decide) (iv_zz s1 56 33) ?_
        refine w_ic (p := 29) (q170 28) rfl ?_
        refine w_ias (p := 30) (q170 29) rfl (r77 hB) (by decide) o12 ?_
        refine w_aln (p := 31) (q170 30) rfl rfl ?_
        refine w_gR (p := 34) (j := 37) (v := 78) (q170 31) rfl (r56 hB) (by decide) (f56_37 hB) ?_
        refine w_aln (p := 35) (q170 34) rfl rfl ?_
        refine w_gI (p := 38) (j := 33) (v := (zz s1 56 33)) (q170 35) rfl (r56 hB) (by decide) (iv_zz s1 56 33) ?_
        refine w_ic (p := 39) (q170 38) rfl ?_
        refine w_ias (p := 40) (q170 39) rfl (r78 hB) (by decide) o12 ?_
        refine w_aln (p := 41) (q170 40) rfl rfl ?_
        refine w_gR (p := 44) (j := 38) (v := 79) (q170 41) rfl (r56 hB) (by decide) (f56_38 hB) ?_
        refine w_aln (p := 45) (q170 44) rfl rfl ?_
        refine w_gI (p := 48) (j := 33) (v := (zz s1 56 33)) (q170 45) rfl (r56 hB) (by decide) (iv_zz s1 56 33) ?_
        refine w_ic (p := 49) (q170 48) rfl ?_
        refine w_ias (p := 50) (q170 49) rfl (r79 hB) (by decide) o12 ?_
        refine w_aln (p := 51) (q170 50) rfl rfl ?_
        refine w_gR (p := 54) (j := 39) (v := 80) (q170 51) rfl (r56 hB) (by decide) (f56_39 hB) ?_
        refine w_aln (p := 55) (q170 54) rfl rfl ?_
        refine w_gI (p := 58) (j := 33) (v := (zz s1 56 33)) (q170 55) rfl (r56 hB) (by decide) (iv_zz s1 56 33) ?_
        refine w_ic (p := 59) (q170 58) rfl ?_
        refine w_ias (p := 60) (q170 59) rfl (r80 hB) (by decide) o12 ?_
        refine w_aln (p := 61) (q170 60) rfl rfl ?_
        refine w_gR (p := 64) (j := 40) (v := 81) (q170 61) rfl (r56 hB) (by decide) (f56_40 hB) ?_
        refine w_aln (p := 65) (q170 64) rfl rfl ?_
        refine w_gI (p := 68) (j := 33) (v := (zz s1 56 33)) (q170 65) rfl (r56 hB) (by decide) (iv_zz s1 56 33) ?_
        refine w_ic (p := 69) (q170 68) rfl ?_
        refine w_ias (p := 70) (q170 69) rfl (r81 hB) (by decide) o12 ?_
        refine w_aln (p := 71) (q170 70) rfl rfl ?_
        refine w_dupr (p := 72) (q170 71) rfl ?_
        refine w_gI (p := 75) (j := 33) (v := (zz s1 56 33)) (q170 72) rfl (r56 hB) (by decide) (iv_zz s1 56 33) ?_
        refine w_ic (p := 76) (q170 75) rfl ?_
        refine w_add (p := 77) (q170 76) rfl ?_
        refine w_pI (p := 80) (j := 33) (q170 77) rfl (r56 hB) (by decide) rfl ?_
        refine w_aln (p := 81) (q170 80) rfl rfl ?_
        refine w_gI (p := 84) (j := 33) (v := ((zz s1 56 33) + 1)) (q170 81) rfl (r56 hB) (by decide) rfl ?_
        refine w_ic (p := 85) (q170 84) rfl ?_
        refine w_sub (p := 86) (q170 85) rfl ?_
        refine w_ret (q170 86) rfl ⟨_, _, rfl, ?_⟩
        show a_W _ 168 56 [.ref 56, iv v3, .retAddr 0, .retAddr 0, .retAddr 0, .retAddr 0, .retAddr 0] [iv (((zz s1 56 33) + 1) - 1)] _ _
        exact w_ret (q168 56) rfl w
    · replace w := w.2 (Decidable.not_not.mp c6)
      refine w_i2f (p := 20) (q168 17) rfl h5 (by decide) c6 ?_
      refine w_aln (p := 21) (q168 20) rfl rfl ?_
      refine w_call (st := []) (as := [.ref 56]) (as' := [.ref 56]) (p := 24) (q168 21) rfl m169 (by decide) (a_ok_i rfl (r56 hB) rfl) rfl rfl (Nat.le_of_ble_eq_true rfl) (by omega) rfl rfl (a_W.imp w ?_)
      rintro _ ⟨v15, s13, l14, rfl, w⟩
      refine ⟨some (iv v15), _, rfl, ?_⟩
      show a_W _ 168 24 [.ref 56, iv v3, .retAddr 0, .retAddr 0, .retAddr 0, .retAddr 0, .retAddr 0] [iv v15] (mkH B s13 l14) _
      exact w_ret (q168 24) rfl w
  · replace w := w.2 (Int.not_le.mp c4)
    refine w_i1f (p := 13) (q168 10) rfl (inR_zz _ _ _) c4 ?_
    refine w_ic (p := 14) (q168 13) rfl ?_
    exact w_ret (q168 14) rfl w
set_option maxRecDepth 10000 in
theorem w168_103 {d : Nat} {B : aH} {Q : aR → Prop} (hB : a_Can B) (hd : 1 ≤ d) (x1 x2 x3 x4 : Int) (u5 u6 : Value) (s : Nat → Nat → Int32) (l : Nat → Nat → Int64) (w : (inR x4 ∧ ((x4 = 0 → a_W d 168 257 [.ref 56, iv x1, iv x2, iv x3, iv x4, u5, u6] [] (mkH B s l) Q) ∧ (x4 ≠ 0 → (((zz s 56 22) ≠ 0 → a_W d 168 257 [.ref 56, iv x1, iv x2, iv x3, iv x4, u5, u6] [] (mkH B s l) Q) ∧ ((zz s 56 22) = 0 → a_W (d - 1) 148 0 [.ref 56, iv 0, .retAddr 0] [] (mkH B s l) (fun r => ∃ (v6 : Int) (s4 : Nat → Nat → Int32) (l5 : Nat → Nat → Int64), r = (.inl (some (iv v6)), mkH B s4 l5) ∧ (inR v6 ∧ ((v6 = 1 → a_W d 168 140 [.ref 56, iv x1, iv x2, iv x3, iv x4, iv v6, u6] [] (mkH B s4 l5) Q) ∧ (v6 ≠ 1 → ((v6 = 2 → a_W d 168 140 [.ref 56, iv x1, iv x2, iv x3, iv x4, iv v6, u6] [] (mkH B s4 l5) Q) ∧ (v6 ≠ 2 → ((v6 ≠ 4 → a_W d 168 151 [.ref 56, iv x1, iv x2, iv x3, iv x4, iv v6, u6] [] (mkH B s4 l5) Q) ∧ (v6 = 4 → a_W d 168 140 [.ref 56, iv x1, iv x2, iv x3, iv x4, iv v6, u6] [] (mkH B s4 l5) Q)))))))))))))) : a_W d 168 103 [.ref 56, iv x1, iv x2, iv x3, iv x4, u5, u6] [] (mkH B s l) Q := by
  refine w_il (p := 105) (q168 103) rfl rfl ?_
  obtain ⟨h1, w⟩ := w
  by_cases c2 : x4 = 0
  · replace w := w.1 c2
    refine w_i1t (q168 105) h1 c2 ?_
    exact w
  · replace w := w.2 c2
    refine w_i1f (p := 108) (q168 105) rfl h1 c2 ?_
    refine w_aln (p := 109) (q168 108) rfl rfl ?_
    refine w_gI (p := 112) (j := 22) (v := (zz s 56 22)) (q168 109) rfl (r56 hB) (by decide) (iv_zz s 56 22) ?_
    by_cases c3 : (zz s 56 22) ≠ 0
    · replace w := w.1 c3
      refine w_i1t (q168 112) (inR_zz _ _ _) c3 ?_
      exact w
    · replace w := w.2 (Decidable.not_not.mp c3)
      refine w_i1f (p := 115) (q168 112) rfl (inR_zz _ _ _) c3 ?_
      refine w_aln (p := 116) (q168 115) rfl rfl ?_
      refine w_ic (p := 117) (q168 116) rfl ?_
      refine w_call (st := []) (as := [.ref 56, iv 0]) (as' := [iv 0, .ref 56]) (p := 120) (q168 117) rfl m148 (by decide) (a_ok_i rfl (r56 hB) rfl) rfl rfl (Nat.le_of_ble_eq_true rfl) (by omega) rfl rfl (a_W.imp w ?_)
      rintro _ ⟨v6, s4, l5, rfl, w⟩
      refine ⟨some (iv v6), _, rfl, ?_⟩
      show a_W _ 168 120 [.ref 56, iv x1, iv x2, iv x3, iv x4, u5, u6] [iv v6] (mkH B s4 l5) _
      refine w_is (p := 122) (ls' := [.ref 56, iv x1, iv x2, iv x3, iv x4, iv v6, u6]) (q168 120) rfl (Nat.le_of_ble_eq_true rfl) rfl ?_
      refine w_il (p := 124) (q168 122) rfl rfl ?_
      refine w_ic (p := 125) (q168 124) rfl ?_
      obtain ⟨h7, w⟩ := w
      by_cases c8 : v6 = 1
      · replace w := w.1 c8
        refine w_i2t (q168 125) h7 (by decide) c8 ?_
        exact w
      · replace w := w.2 c8
        refine w_i2f (p := 128) (q168 125) rfl h7 (by decide) c8 ?_
        refine w_il (p := 130) (q168 128) rfl rfl ?_
        refine w_ic (p := 131) (q168 130) rfl ?_
        by_cases c9 : v6 = 2
        · replace w := w.1 c9
          refine w_i2t (q168 131) h7 (by decide) c9 ?_
          exact w
        · replace w := w.2 c9
          refine w_i2f (p := 134) (q168 131) rfl h7 (by decide) c9 ?_
          refine w_il (p := 136) (q168 134) rfl rfl ?_
          refine w_ic (p := 137) (q168 136) rfl ?_
          by_cases c10 : v6 ≠ 4
          · replace w := w.1 c10
            refine w_i2t (q168 137) h7 (by decide) c10 ?_
            exact w
          · replace w := w.2 (Decidable.not_not.mp c10)
            refine w_i2f (p := 140) (q168 137) rfl h7 (by decide) c10 ?_
            exact w
set_option maxRecDepth 10000 in
theorem w168_140 {d : Nat} {B : aH} {Q : aR → Prop} (hB : a_Can B) (hd : 1 ≤ d) (x1 x2 x3 x4 x5 : Int) (u6 : Value) (s : Nat → Nat → Int32) (l : Nat → Nat → Int64) (w : (((zz s 56 22) ≠ 0 → a_W d 168 151 [.ref 56, iv x1, iv x2, iv x3, iv x4, iv x5, u6] [] (mkH B s l) Q) ∧ ((zz s 56 22) = 0 → (inR x5 ∧ ((x5 ≠ 4 → ((x5 ≠ 1 → ((0 ≤ (zz s 56 31) ∧ (zz s 56 31) < 6002) ∧ ((0 ≤ (zz s 56 33) ∧ (zz s 56 33) < 12100) ∧ ((0 ≤ (((zz s 56 33) + 1) - 1) ∧ (((zz s 56 33) + 1) - 1) < 12100) ∧ a_W d 168 103 [.ref 56, iv x1, iv x2, iv (((zz s 56 33) + 1) - 1), iv 1, iv x5, iv (((zz s 56 33) + 1) - 1)] [] (mkH B (zu (zu (zu (zu (zu (zu (zu (zu (zu (zu s 75 (zz s 56 33).toNat 0) 76 (zz s 56 33).toNat (zz s 73 (zz s 56 31).toNat)) 77 (zz s 56 33).toNat (-1)) 78 (zz s 56 33).toNat (-1)) 79 (zz s 56 33).toNat 0) 80 (zz s 56 33).toNat 1) 81 (zz s 56 33).toNat 1) 56 33 ((zz s 56 33) + 1)) 56 31 ((zz s 56 31) + 1)) 78 (((zz s 56 33) + 1) - 1).toNat x3) l) Q)))) ∧ (x5 = 1 → ((0 ≤ (zz s 56 33) ∧ (zz s 56 33) < 12100) ∧ ((0 ≤ (((zz s 56 33) + 1) - 1) ∧ (((zz s 56 33) + 1) - 1) < 12100) ∧ a_W d 168 103 [.ref 56, iv x1, iv x2, iv (((zz s 56 33) + 1) - 1), iv 1, iv x5, iv (((zz s 56 33) + 1) - 1)] [] (mkH B (zu (zu (zu (zu (zu (zu (zu (zu (zu (zu s 75 (zz s 56 33).toNat 1) 76 (zz s 56 33).toNat (zz s 56 31)) 77 (zz s 56 33).toNat (-1)) 78 (zz s 56 33).toNat (-1)) 79 (zz s 56 33).toNat 0) 80 (zz s 56 33).toNat 1) 81 (zz s 56 33).toNat 1) 56 33 ((zz s 56 33) + 1)) 56 31 ((zz s 56 31) + 1)) 78 (((zz s 56 33) + 1) - 1).toNat x3) l) Q))))) ∧ (x5 = 4 → a_W (d - 1) 169 0 [.ref 56, .retAddr 0] [] (mkH B s l) (fun r => ∃ (v12 : Int) (s10 : Nat → Nat → Int32) (l11 : Nat → Nat → Int64), r = (.inl (some (iv v12)), mkH B s10 l11) ∧ (((zz s10 56 22) ≤ 0 → ((0 ≤ v12 ∧ v12 < 12100) ∧ a_W d 168 103 [.ref 56, iv x1, iv x2, iv v12, iv 1, iv x5, iv v12] [] (mkH B (zu (zu s10 56 31 ((zz s10 56 31) + 0)) 78 v12.toNat x3) l11) Q)) ∧ (0 < (zz s10 56 22) → Q (.inl (some (iv 0)), (mkH B (zu s10 56 31 ((zz s10 56 31) + 0)) l11))))))))))) : a_W d 168 140 [.ref 56, iv x1, iv x2, iv x3, iv x4, iv x5, u6] [] (mkH B s l) Q := by
  refine w_aln (p := 141) (q168 140) rfl rfl ?_
  refine w_gI (p := 144) (j := 22) (v := (zz s 56 22)) (q168 141) rfl (r56 hB) (by decide) (iv_zz s 56 22) ?_
  by_cases c1 : (zz s 56 22) ≠ 0
  · replace w := w.1 c1
    refine w_i1t (q168 144) (inR_zz _ _ _) c1 ?_
    exact w
  · replace w := w.2 (Decidable.not_not.mp c1)
    refine w_i1f (p := 147) (q168 144) rfl (inR_zz _ _ _) c1 ?_
    refine w_ic (p := 148) (q168 147) rfl ?_
    refine w_goto (q168 148) ?_
    refine w_is (p := 154) (ls' := [.ref 56, iv x1, iv x2, iv x3, iv 1, iv x5, u6]) (q168 152) rfl (Nat.le_of_ble_eq_true rfl) rfl ?_
    refine w_il (p := 156) (q168 154) rfl rfl ?_
    refine w_i1t (q168 156) (by decide) (show zc _ _ _ by unfold zc; omega) ?_
    refine w_il (p := 164) (q168 162) rfl rfl ?_
    refine w_ic (p := 165) (q168 164) rfl ?_
    obtain ⟨h2, w⟩ := w
    by_cases c3 : x5 ≠ 4
    · replace w := w.1 c3
      refine w_i2t (q168 165) h2 (by decide) c3 ?_
      refine w_aln (p := 176) (q168 175) rfl rfl ?_
      refine w_il (p := 178) (q168 176) rfl rfl ?_
      refine w_ic (p := 179) (q168 178) rfl ?_
      by_cases c4 : x5 ≠ 1
      · replace w := w.1 c4
        refine w_i2t (q168 179) h2 (by decide) c4 ?_
        refine w_ic (p := 187) (q168 186) rfl ?_
        refine w_il (p := 189) (q168 187) rfl rfl ?_
        refine w_ic (p := 190) (q168 189) rfl ?_
        refine w_i2t (q168 190) h2 (by decide) (show zc _ _ _ by unfold zc; omega) ?_
        refine w_aln (p := 201) (q168 200) rfl rfl ?_
        refine w_gR (p := 204) (j := 29) (v := 73) (q168 201) rfl (r56 hB) (by decide) (f56_29 hB) ?_
        refine w_aln (p := 205) (q168 204) rfl rfl ?_
        refine w_gI (p := 208) (j := 31) (v := (zz s 56 31)) (q168 205) rfl (r56 hB) (by decide) (iv_zz s 56 31) ?_
        obtain ⟨o5, w⟩ := w
        refine w_ia (p := 209) (v := (zz s 73 (zz s 56 31).toNat)) (q168 208) rfl (r73 hB) (by decide) o5 (iv_zz s 73 (zz s 56 31).toNat) ?_
        refine w_call (st := []) (as := [.ref 56, iv 0, iv (zz s 73 (zz s 56 31).toNat)]) (as' := [iv (zz s 73 (zz s 56 31).toNat), iv 0, .ref 56]) (p := 212) (q168 209) rfl m170 (by decide) (a_ok_i rfl (r56 hB) rfl) rfl rfl (Nat.le_of_ble_eq_true rfl) (by omega) rfl rfl ?_
        refine w_aln (p := 1) (q170 0) rfl rfl ?_
        refine w_gR (p := 4) (j := 34) (v := 75) (q170 1) rfl (r56 hB) (by decide) (f56_34 hB) ?_
        refine w_aln (p := 5) (q170 4) rfl rfl ?_
        refine w_gI (p := 8) (j := 33) (v := (zz s 56 33)) (q170 5) rfl (r56 hB) (by decide) (iv_zz s 56 33) ?_
        refine w_iln (p := 9) (q170 8) rfl rfl ?_
        obtain ⟨o6, w⟩ := w
        refine w_ias (p := 10) (q170 9) rfl (r75 hB) (by decide) o6 ?_
        refine w_aln (p := 11) (q170 10) rfl rfl ?_
        refine w_gR (p := 14) (j := 35) (v := 76) (q170 11) rfl (r56 hB) (by decide) (f56_35 hB) ?_
        refine w_aln (p := 15) (q170 14) rfl rfl ?_
        refine w_gI (p := 18) (j := 33) (v := (zz s 56 33)) (q170 15) rfl (r56 hB) (by decide) (iv_zz s 56 33) ?_
        refine w_iln (p := 19) (q170 18) rfl rfl ?_
        refine w_ias (p := 20) (q170 19) rfl (r76 hB) (by decide) o6 ?_
        refine w_aln (p := 21) (q170 20) rfl rfl ?_
        refine w_gR (p := 24) (j := 36) (v := 77) (q170 21) rfl (r56 hB) (by decide) (f56_36 hB) ?_
        refine w_aln (p := 25) (q170 24) rfl rfl ?_
        refine w_gI (p := 28) (j := 33) (v := (zz s 56 33)) (q170 25) rfl (r56 hB) (by decide) (iv_zz s 56 33) ?_
        refine w_ic (p := 29) (q170 28) rfl ?_
        refine w_ias (p := 30) (q170 29) rfl (r77 hB) (by decide) o6 ?_
        refine w_aln (p := 31) (q170 30) rfl rfl ?_
        refine w_gR (p := 34) (j := 37) (v := 78) (q170 31) rfl (r56 hB) (by decide) (f56_37 hB) ?_
        refine w_aln (p := 35) (q170 34) rfl rfl ?_
        refine w_gI (p := 38) (j := 33) (v := (zz s 56 33)) (q170 35) rfl (r56 hB) (by decide) (iv_zz s 56 33) ?_
        refine w_ic (p := 39) (q170 38) rfl ?_
        refine w_ias (p := 40) (q170 39) rfl (r78 hB) (by decide) o6 ?_
        refine w_aln (p := 41) (q170 40) rfl rfl ?_
        refine w_gR (p := 44) (j := 38) (v := 79) (q170 41) rfl (r56 hB) (by decide) (f56_38 hB) ?_
        refine w_aln (p := 45) (q170 44) rfl rfl ?_
        refine w_gI (p := 48) (j := 33) (v := (zz s 56 33)) (q170 45) rfl (r56 hB) (by decide) (iv_zz s 56 33) ?_
        refine w_ic (p := 49) (q170 48) rfl ?_
        refine w_ias (p := 50) (q170 49) rfl (r79 hB) (by decide) o6 ?_
        refine w_aln (p := 51) (q170 50) rfl rfl ?_
        refine w_gR (p := 54) (j := 39) (v := 80) (q170 51) rfl (r56 hB) (by decide) (f56_39 hB) ?_
        refine w_aln (p := 55) (q170 54) rfl rfl ?_
        refine w_gI (p := 58) (j := 33) (v := (zz s 56 33)) (q170 55) rfl (r56 hB) (by decide) (iv_zz s 56 33) ?_
        refine w_ic (p := 59) (q170 58) rfl ?_
        refine w_ias (p := 60) (q170 59) rfl (r80 hB) (by decide) o6 ?_
        refine w_aln (p := 61) (q170 60) rfl rfl ?_
        refine w_gR (p := 64) (j := 40) (v := 81) (q170 61) rfl (r56 hB) (by decide) (f56_40 hB) ?_
        refine w_aln (p := 65) (q170 64) rfl rfl ?_
        refine w_gI (p := 68) (j := 33) (v := (zz s 56 33)) (q170 65) rfl (r56 hB) (by decide) (iv_zz s 56 33) ?_
        refine w_ic (p := 69) (q170 68) rfl ?_
        refine w_ias (p := 70) (q170 69) rfl (r81 hB) (by decide) o6 ?_
        refine w_aln (p := 71) (q170 70) rfl rfl ?_
        refine w_dupr (p := 72) (q170 71) rfl ?_
        refine w_gI (p := 75) (j := 33) (v := (zz s 56 33)) (q170 72) rfl (r56 hB) (by decide) (iv_zz s 56 33) ?_
        refine w_ic (p := 76) (q170 75) rfl ?_
        refine w_add (p := 77) (q170 76) rfl ?_
        refine w_pI (p := 80) (j := 33) (q170 77) rfl (r56 hB) (by decide) rfl ?_
        refine w_aln (p := 81) (q170 80) rfl rfl ?_
        refine w_gI (p := 84) (j := 33) (v := ((zz s 56 33) + 1)) (q170 81) rfl (r56 hB) (by decide) rfl ?_
        refine w_ic (p := 85) (q170 84) rfl ?_
        refine w_sub (p := 86) (q170 85) rfl ?_
        refine w_ret (q170 86) rfl ⟨_, _, rfl, ?_⟩
        show a_W _ 168 212 [.ref 56, iv x1, iv x2, iv x3, iv 1, iv x5, u6] [iv (((zz s 56 33) + 1) - 1)] _ _
        refine w_is (p := 214) (ls' := [.ref 56, iv x1, iv x2, iv x3, iv 1, iv x5, iv (((zz s 56 33) + 1) - 1)]) (q168 212) rfl (Nat.le_of_ble_eq_true rfl) rfl ?_
        refine w_aln (p := 215) (q168 214) rfl rfl ?_
        refine w_dupr (p := 216) (q168 215) rfl ?_
        refine w_gI (p := 219) (j := 31) (v := (zz s 56 31)) (q168 216) rfl (r56 hB) (by decide) (iv_zz s 56 31) ?_
        refine w_il (p := 221) (q168 219) rfl rfl ?_
        refine w_ic (p := 222) (q168 221) rfl ?_
        refine w_i2t (q168 222) h2 (by decide) (show zc _ _ _ by unfold zc; omega) ?_
        refine w_ic (p := 230) (q168 229) rfl ?_
        refine w_add (p := 231) (q168 230) rfl ?_
        refine w_pI (p := 234) (j := 31) (q168 231) rfl (r56 hB) (by decide) rfl ?_
        refine w_aln (p := 235) (q168 234) rfl rfl ?_
        refine w_gI (p := 238) (j := 22) (v := (zz s 56 22)) (q168 235) rfl (r56 hB) (by decide) (iv_zz s 56 22) ?_
        refine w_i1t (q168 238) (inR_zz _ _ _) (show zc _ _ _ by unfold zc; omega) ?_
        refine w_aln (p := 244) (q168 243) rfl rfl ?_
        refine w_gR (p := 247) (j := 37) (v := 78) (q168 244) rfl (r56 hB) (by decide) (f56_37 hB) ?_
        refine w_il (p := 249) (q168 247) rfl rfl ?_
        refine w_iln (p := 250) (q168 249) rfl rfl ?_
        obtain ⟨o7, w⟩ := w
        refine w_ias (p := 251) (q168 250) rfl (r78 hB) (by decide) o7 ?_
        refine w_il (p := 253) (q168 251) rfl rfl ?_
        refine w_isn (p := 254) (ls' := [.ref 56, iv x1, iv x2, iv (((zz s 56 33) + 1) - 1), iv 1, iv x5, iv (((zz s 56 33) + 1) - 1)]) (q168 253) rfl (Nat.le_of_ble_eq_true rfl) rfl ?_
        refine w_goto (q168 254) ?_
        exact w
      · replace w := w.2 (Decidable.not_not.mp c4)
        refine w_i2f (p := 182) (q168 179) rfl h2 (by decide) c4 ?_
        refine w_ic (p := 183) (q168 182) rfl ?_
        refine w_goto (q168 183) ?_
        refine w_il (p := 189) (q168 187) rfl rfl ?_
        refine w_ic (p := 190) (q168 189) rfl ?_
        refine w_i2f (p := 193) (q168 190) rfl h2 (by decide) (show ¬ zc _ _ _ by unfold zc; omega) ?_
        refine w_aln (p := 194) (q168 193) rfl rfl ?_
        refine w_gI (p := 197) (j := 31) (v := (zz s 56 31)) (q168 194) rfl (r56 hB) (by decide) (iv_zz s 56 31) ?_
        refine w_goto (q168 197) ?_
        refine w_call (st := []) (as := [.ref 56, iv 1, iv (zz s 56 31)]) (as' := [iv (zz s 56 31), iv 1, .ref 56]) (p := 212) (q168 209) rfl m170 (by decide) (a_ok_i rfl (r56 hB) rfl) rfl rfl (Nat.le_of_ble_eq_true rfl) (by omega) rfl rfl ?_
        refine w_aln (p := 1) (q170 0) rfl rfl ?_
        refine w_gR (p := 4) (j := 34) (v := 75) (q170 1) rfl (r56 hB) (by decide) (f56_34 hB) ?_
        refine w_aln (p := 5) (q170 4) rfl rfl ?_
        refine w_gI (p := 8) (j := 33) (v := (zz s 56 33)) (q170 5) rfl (r56 hB) (by decide) (iv_zz s 56 33) ?_
        refine w_iln (p := 9) (q170 8) rfl rfl ?_
        obtain ⟨o8, w⟩ := w
        refine w_ias (p := 10) (q170 9) rfl (r75 hB) (by decide) o8 ?_
        refine w_aln (p := 11) (q170 10) rfl rfl ?_
        refine w_gR (p := 14) (j := 35) (v := 76) (q170 11) rfl (r56 hB) (by decide) (f56_35 hB) ?_
        refine w_aln (p := 15) (q170 14) rfl rfl ?_
        refine w_gI (p := 18) (j := 33) (v := (zz s 56 33)) (q170 15) rfl (r56 hB) (by decide) (iv_zz s 56 33) ?_
        refine w_iln (p := 19) (q170 18) rfl rfl ?_
        refine w_ias (p := 20) (q170 19) rfl (r76 hB) (by decide) o8 ?_
        refine w_aln (p := 21) (q170 20) rfl rfl ?_
        refine w_gR (p := 24) (j := 36) (v := 77) (q170 21) rfl (r56 hB) (by decide) (f56_36 hB) ?_
        refine w_aln (p := 25) (q170 24) rfl rfl ?_
        refine w_gI (p := 28) (j := 33) (v := (zz s 56 33)) (q170 25) rfl (r56 hB) (by decide) (iv_zz s 56 33) ?_
        refine w_ic (p := 29) (q170 28) rfl ?_
        refine w_ias (p := 30) (q170 29) rfl (r77 hB) (by decide) o8 ?_
        refine w_aln (p := 31) (q170 30) rfl rfl ?_
        refine w_gR (p := 34) (j := 37) (v := 78) (q170 31) rfl (r56 hB) (by decide) (f56_37 hB) ?_
        refine w_aln (p := 35) (q170 34) rfl rfl ?_
        refine w_gI (p := 38) (j := 33) (v := (zz s 56 33)) (q170 35) rfl (r56 hB) (by decide) (iv_zz s 56 33) ?_
        refine w_ic (p := 39) (q170 38) rfl ?_
        refine w_ias (p := 40) (q170 39) rfl (r78 hB) (by decide) o8 ?_
        refine w_aln (p := 41) (q170 40) rfl rfl ?_
        refine w_gR (p := 44) (j := 38) (v := 79) (q170 41) rfl (r56 hB) (by decide) (f56_38 hB) ?_
        refine w_aln (p := 45) (q170 44) rfl rfl ?_
        refine w_gI (p := 48) (j := 33) (v := (zz s 56 33)) (q170 45) rfl (r56 hB) (by decide) (iv_zz s 56 33) ?_
        refine w_ic (p := 49) (q170 48) rfl ?_
        refine w_ias (p := 50) (q170 49) rfl (r79 hB) (by decide) o8 ?_
        refine w_aln (p := 51) (q170 50) rfl rfl ?_
        refine w_gR (p := 54) (j := 39) (v := 80) (q170 51) rfl (r56 hB) (by decide) (f56_39 hB) ?_
        refine w_aln (p := 55) (q170 54) rfl rfl ?_
        refine w_gI (p := 58) (j := 33) (v := (zz s 56 33)) (q170 55) rfl (r56 hB) (by decide) (iv_zz s 56 33) ?_
        refine w_ic (p := 59) (q170 58) rfl ?_
        refine w_ias (p := 60) (q170 59) rfl (r80 hB) (by decide) o8 ?_
        refine w_aln (p := 61) (q170 60) rfl rfl ?_
        refine w_gR (p := 64) (j := 40) (v := 81) (q170 61) rfl (r56 hB) (by decide) (f56_40 hB) ?_
        refine w_aln (p := 65) (q170 64) rfl rfl ?_
        refine w_gI (p := 68) (j := 33) (v := (zz s 56 33)) (q170 65) rfl (r56 hB) (by decide) (iv_zz s 56 33) ?_
        refine w_ic (p := 69) (q170 68) rfl ?_
        refine w_ias (p := 70) (q170 69) rfl (r81 hB) (by decide) o8 ?_
        refine w_aln (p := 71) (q170 70) rfl rfl ?_
        refine w_dupr (p := 72) (q170 71) rfl ?_
        refine w_gI (p := 75) (j := 33) (v := (zz s 56 33)) (q170 72) rfl (r56 hB) (by decide) (iv_zz s 56 33) ?_
        refine w_ic (p := 76) (q170 75) rfl ?_
        refine w_add (p := 77) (q170 76) rfl ?_
        refine w_pI (p := 80) (j := 33) (q170 77) rfl (r56 hB) (by decide) rfl ?_
        refine w_aln (p := 81) (q170 80) rfl rfl ?_
        refine w_gI (p := 84) (j := 33) (v := ((zz s 56 33) + 1)) (q170 81) rfl (r56 hB) (by decide) rfl ?_
        refine w_ic (p := 85) (q170 84) rfl ?_
        refine w_sub (p := 86) (q170 85) rfl ?_
        refine w_ret (q170 86) rfl ⟨_, _, rfl, ?_⟩
        show a_W _ 168 212 [.ref 56, iv x1, iv x2, iv x3, iv 1, iv x5, u6] [iv (((zz s 56 33) + 1) - 1)] _ _
        refine w_is (p := 214) (ls' := [.ref 56, iv x1, iv x2, iv x3, iv 1, iv x5, iv (((zz s 56 33) + 1) - 1)]) (q168 212) rfl (Nat.le_of_ble_eq_true rfl) rfl ?_
        refine w_aln (p := 215) (q168 214) rfl rfl ?_
        refine w_dupr (p := 216) (q168 215) rfl ?_
        refine w_gI (p := 219) (j := 31) (v := (zz s 56 31)) (q168 216) rfl (r56 hB) (by decide) (iv_zz s 56 31) ?_
        refine w_il (p := 221) (q168 219) rfl rfl ?_
        refine w_ic (p := 222) (q168 221) rfl ?_
        refine w_i2t (q168 222) h2 (by decide) (show zc _ _ _ by unfold zc; omega) ?_
        refine w_ic (p := 230) (q168 229) rfl ?_
        refine w_add (p := 231) (q168 230) rfl ?_
        refine w_pI (p := 234) (j := 31) (q168 231) rfl (r56 hB) (by decide) rfl ?_
        refine w_aln (p := 235) (q168 234) rfl rfl ?_
        refine w_gI (p := 238) (j := 22) (v := (zz s 56 22)) (q168 235) rfl (r56 hB) (by decide) (iv_zz s 56 22) ?_
        refine w_i1t (q168 238) (inR_zz _ _ _) (show zc _ _ _ by unfold zc; omega) ?_
        refine w_aln (p := 244) (q168 243) rfl rfl ?_
        refine w_gR (p := 247) (j := 37) (v := 78) (q168 244) rfl (r56 hB) (by decide) (f56_37 hB) ?_
        refine w_il (p := 249) (q168 247) rfl rfl ?_
        refine w_iln (p := 250) (q168 249) rfl rfl ?_
        obtain ⟨o9, w⟩ := w
        refine w_ias (p := 251) (q168 250) rfl (r78 hB) (by decide) o9 ?_
        refine w_il (p := 253) (q168 251) rfl rfl ?_
        refine w_isn (p := 254) (ls' := [.ref 56, iv x1, iv x2, iv (((zz s 56 33) + 1) - 1), iv 1, iv x5, iv (((zz s 56 33) + 1) - 1)]) (q168 253) rfl (Nat.le_of_ble_eq_true rfl) rfl ?_
        refine w_goto (q168 254) ?_
        exact w
    · replace w := w.2 (Decidable.not_not.mp c3)
      refine w_i2f (p := 168) (q168 165) rfl h2 (by decide) c3 ?_
      refine w_aln (p := 169) (q168 168) rfl rfl ?_
      refine w_call (st := []) (as := [.ref 56]) (as' := [.ref 56]) (p := 172) (q168 169) rfl m169 (by decide) (a_ok_i rfl (r56 hB) rfl) rfl rfl (Nat.le_of_ble_eq_true rfl) (by omega) rfl rfl (a_W.imp w ?_)
      rintro _ ⟨v12, s10, l11, rfl, w⟩
      refine ⟨some (iv v12), _, rfl, ?_⟩
      show a_W _ 168 172 [.ref 56, iv x1, iv x2, iv x3, iv 1, iv x5, u6] [iv v12] (mkH B s10 l11) _
      refine w_goto (q168 172) ?_
      refine w_is (p := 214) (ls' := [.ref 56, iv x1, iv x2, iv x3, iv 1, iv x5, iv v12]) (q168 212) rfl (Nat.le_of_ble_eq_true rfl) rfl ?_
      refine w_aln (p := 215) (q168 214) rfl rfl ?_
      refine w_dupr (p := 216) (q168 215) rfl ?_
      refine w_gI (p := 219) (j := 31) (v := (zz s10 56 31)) (q168 216) rfl (r56 hB) (by decide) (iv_zz s10 56 31) ?_
      refine w_il (p := 221) (q168 219) rfl rfl ?_
      refine w_ic (p := 222) (q168 221) rfl ?_
      refine w_i2f (p := 225) (q168 222) rfl h2 (by decide) (show ¬ zc _ _ _ by unfold zc; omega) ?_
      refine w_ic (p := 226) (q168 225) rfl ?_
      refine w_goto (q168 226) ?_
      refine w_add (p := 231) (q168 230) rfl ?_
      refine w_pI (p := 234) (j := 31) (q168 231) rfl (r56 hB) (by decide) rfl ?_
      refine w_aln (p := 235) (q168 234) rfl rfl ?_
      refine w_gI (p := 238) (j := 22) (v := (zz s10 56 22)) (q168 235) rfl (r56 hB) (by decide) (iv_zz s10 56 22) ?_
      by_cases c13 : (zz s10 56 22) ≤ 0
      · replace w := w.1 c13
        refine w_i1t (q168 238) (inR_zz _ _ _) c13 ?_
        refine w_aln (p := 244) (q168 243) rfl rfl ?_
        refine w_gR (p := 247) (j := 37) (v := 78) (q168 244) rfl (r56 hB) (by decide) (f56_37 hB) ?_
        refine w_il (p := 249) (q168 247) rfl rfl ?_
        refine w_iln (p := 250) (q168 249) rfl rfl ?_
        obtain ⟨o14, w⟩ := w
        refine w_ias (p := 251) (q168 250) rfl (r78 hB) (by decide) o14 ?_
        refine w_il (p := 253) (q168 251) rfl rfl ?_
        refine w_isn (p := 254) (ls' := [.ref 56, iv x1, iv x2, iv v12, iv 1, iv x5, iv v12]) (q168 253) rfl (Nat.le_of_ble_eq_true rfl) rfl ?_
        refine w_goto (q168 254) ?_
        exact w
      · replace w := w.2 (Int.not_le.mp c13)
        refine w_i1f (p := 241) (q168 238) rfl (inR_zz _ _ _) c13 ?_
        refine w_ic (p := 242) (q168 241) rfl ?_
        exact w_ret (q168 242) rfl w
set_option maxRecDepth 10000 in
theorem w168_151 {d : Nat} {B : aH} {Q : aR → Prop} (hB : a_Can B) (x1 x2 x3 x4 x5 : Int) (u6 : Value) (s : Nat → Nat → Int32) (l : Nat → Nat → Int64) (w : a_W d 168 103 [.ref 56, iv x1, iv x2, iv x3, iv 0, iv x5, u6] [] (mkH B s l) Q) : a_W d 168 151 [.ref 56, iv x1, iv x2, iv x3, iv x4, iv x5, u6] [] (mkH B s l) Q := by
  refine w_ic (p := 152) (q168 151) rfl ?_
  refine w_is (p := 154) (ls' := [.ref 56, iv x1, iv x2, iv x3, iv 0, iv x5, u6]) (q168 152) rfl (Nat.le_of_ble_eq_true rfl) rfl ?_
  refine w_il (p := 156) (q168 154) rfl rfl ?_
  refine w_i1f (p := 159) (q168 156) rfl (by decide) (show ¬ zc _ _ _ by unfold zc; omega) ?_
  refine w_goto (q168 159) ?_
  exact w
set_option maxRecDepth 10000 in
theorem w168_257 {d : Nat} {B : aH} {Q : aR → Prop} (hB : a_Can B) (hd : 1 ≤ d) (x1 x2 x3 x4 : Int) (u5 u6 : Value) (s : Nat → Nat → Int32) (l : Nat → Nat → Int64) (w : (inR x3 ∧ ((x3 = (-1) → Q (.inl (some (iv x2)), (mkH B s l))) ∧ (x3 ≠ (-1) → ((0 ≤ x3 ∧ x3 < 12100) ∧ a_W (d - 1) 171 0 [.ref 56, iv x2, iv x3, .retAddr 0] [] (mkH B s l) (fun r => ∃ (s4 : Nat → Nat → Int32) (l5 : Nat → Nat → Int64), r = (.inl none, mkH B s4 l5) ∧ a_W d 168 257 [.ref 56, iv x1, iv x2, iv (zz s 78 x3.toNat), iv x4, iv (zz s 78 x3.toNat), u6] [] (mkH B s4 l5) Q)))))) : a_W d 168 257 [.ref 56, iv x1, iv x2, iv x3, iv x4, u5, u6] [] (mkH B s l) Q := by
  refine w_iln (p := 258) (q168 257) rfl rfl ?_
  refine w_ic (p := 259) (q168 258) rfl ?_
  obtain ⟨h1, w⟩ := w
  by_cases c2 : x3 = (-1)
  · replace w := w.1 c2
    refine w_i2t (q168 259) h1 (by decide) c2 ?_
    refine w_iln (p := 283) (q168 282) rfl rfl ?_
    exact w_ret (q168 283) rfl w
  · replace w := w.2 c2
    refine w_i2f (p := 262) (q168 259) rfl h1 (by decide) c2 ?_
    refine w_aln (p := 263) (q168 262) rfl rfl ?_
    refine w_gR (p := 266) (j := 37) (v := 78) (q168 263) rfl (r56 hB) (by decide) (f56_37 hB) ?_
    refine w_iln (p := 267) (q168 266) rfl rfl ?_
    obtain ⟨o3, w⟩ := w
    refine w_ia (p := 268) (v := (zz s 78 x3.toNat)) (q168 267) rfl (r78 hB) (by decide) o3 (iv_zz s 78 x3.toNat) ?_
    refine w_is (p := 270) (ls' := [.ref 56, iv x1, iv x2, iv x3, iv x4, iv (zz s 78 x3.toNat), u6]) (q168 268) rfl (Nat.le_of_ble_eq_true rfl) rfl ?_
    refine w_aln (p := 271) (q168 270) rfl rfl ?_
    refine w_iln (p := 272) (q168 271) rfl rfl ?_
    refine w_iln (p := 273) (q168 272) rfl rfl ?_
    refine w_call (st := []) (as := [.ref 56, iv x2, iv x3]) (as' := [iv x3, iv x2, .ref 56]) (p := 276) (q168 273) rfl m171 (by decide) (a_ok_i rfl (r56 hB) rfl) rfl rfl (Nat.le_of_ble_eq_true rfl) (by omega) rfl rfl (a_W.imp w ?_)
    rintro _ ⟨s4, l5, rfl, w⟩
    refine ⟨none, _, rfl, ?_⟩
    show a_W _ 168 276 [.ref 56, iv x1, iv x2, iv x3, iv x4, iv (zz s 78 x3.toNat), u6] [] (mkH B s4 l5) _
    refine w_il (p := 278) (q168 276) rfl rfl ?_
    refine w_isn (p := 279) (ls' := [.ref 56, iv x1, iv x2, iv (zz s 78 x3.toNat), iv x4, iv (zz s 78 x3.toNat), u6]) (q168 278) rfl (Nat.le_of_ble_eq_true rfl) rfl ?_
    refine w_goto (q168 279) ?_
    exact w
theorem w167_0 {d : Nat} {B : aH} {Q : aR → Prop} (hB : a_Can B) (hd : 1 ≤ d) (s : Nat → Nat → Int32) (l : Nat → Nat → Int64) (w : a_W (d - 1) 168 0 [.ref 56, .retAddr 0, .retAddr 0, .retAddr 0, .retAddr 0, .retAddr 0, .retAddr 0] [] (mkH B s l) (fun r => ∃ (v3 : Int) (s1 : Nat → Nat → Int32) (l2 : Nat → Nat → Int64), r = (.inl (some (iv v3)), mkH B s1 l2) ∧ a_W d 167 9 [.ref 56, iv v3, iv v3, iv 1, .retAddr 0, .retAddr 0, .retAddr 0, .retAddr 0, .retAddr 0] [] (mkH B s1 l2) Q)) : a_W d 167 0 [.ref 56, .retAddr 0, .retAddr 0, .retAddr 0, .retAddr 0, .retAddr 0, .retAddr 0, .retAddr 0, .retAddr 0] [] (mkH B s l) Q := by
  refine w_aln (p := 1) (q167 0) rfl rfl ?_
  refine w_call (st := []) (as := [.ref 56]) (as' := [.ref 56]) (p := 4) (q167 1) rfl m168 (by decide) (a_ok_i rfl (r56 hB) rfl) rfl rfl (Nat.le_of_ble_eq_true rfl) (by omega) rfl rfl (a_W.imp w ?_)
  rintro _ ⟨v3, s1, l2, rfl, w⟩
  refine ⟨some (iv v3), _, rfl, ?_⟩
  show a_W _ 167 4 [.ref 56, .retAddr 0, .retAddr 0, .retAddr 0, .retAddr 0, .retAddr 0, .retAddr 0, .retAddr 0, .retAddr 0] [iv v3] (mkH B s1 l2) _
  refine w_isn (p := 5) (ls' := [.ref 56, iv v3, .retAddr 0, .retAddr 0, .retAddr 0, .retAddr 0, .retAddr 0, .retAddr 0, .retAddr 0]) (q167 4) rfl (Nat.le_of_ble_eq_true rfl) rfl ?_
  refine w_iln (p := 6) (q167 5) rfl rfl ?_
  refine w_isn (p := 7) (ls' := [.ref 56, iv v3, iv v3, .retAddr 0, .retAddr 0, .retAddr 0, .retAddr 0, .retAddr 0, .retAddr 0]) (q167 6) rfl (Nat.le_of_ble_eq_true rfl) rfl ?_
  refine w_ic (p := 8) (q167 7) rfl ?_
  refine w_isn (p := 9) (ls' := [.ref 56, iv v3, iv v3, iv 1, .retAddr 0, .retAddr 0, .retAddr 0, .retAddr 0, .retAddr 0]) (q167 8) rfl (Nat.le_of_ble_eq_true rfl) rfl ?_
  exact w
theorem w167_9 {d : Nat} {B : aH} {Q : aR → Prop} (hB : a_Can B) (hd : 1 ≤ d) (x1 x2 x3 : Int) (u4 : Value) (s : Nat → Nat → Int32) (l : Nat → Nat → Int64) (w : a_W (d - 1) 148 0 [.ref 56, iv 0, .retAddr 0] [] (mkH B s l) (fun r => ∃ (v3 : Int) (s1 : Nat → Nat → Int32) (l2 : Nat → Nat → Int64), r = (.inl (some (iv v3)), mkH B s1 l2) ∧ (inR v3 ∧ ((v3 ≠ 13 → a_W d 167 68 [.ref 56, iv x1, iv x2, iv x3, u4, .retAddr 0, .retAddr 0, .retAddr 0, .retAddr 0] [] (mkH B s1 l2) Q) ∧ (v3 = 13 → (((zz s1 56 22) ≠ 0 → a_W d 167 68 [.ref 56, iv x1, iv x2, iv x3, u4, .retAddr 0, .retAddr 0, .retAddr 0, .retAddr 0] [] (mkH B s1 l2) Q) ∧ ((zz s1 56 22) = 0 → a_W (d - 1) 168 0 [.ref 56, .retAddr 0, .retAddr 0, .retAddr 0, .retAddr 0, .retAddr 0, .retAddr 0] [] (mkH B (zu s1 56 31 ((zz s1 56 31) + 1)) l2) (fun r => ∃ (v9 : Int) (s7 : Nat → Nat → Int32) (l8 : Nat → Nat → Int64), r = (.inl (some (iv v9)), mkH B s7 l8) ∧ (((zz s7 56 22) ≤ 0 → ((0 ≤ v9 ∧ v9 < 12100) ∧ a_W d 167 9 [.ref 56, iv x1, iv v9, iv (x3 + 1), iv v9, .retAddr 0, .retAddr 0, .retAddr 0, .retAddr 0] [] (mkH B (zu s7 78 v9.toNat x2) l8) Q)) ∧ (0 < (zz s7 56 22) → Q (.inl (some (iv 0)), (mkH B s7 l8)))))))))))) : a_W d 167 9 [.ref 56, iv x1, iv x2, iv x3, u4, .retAddr 0, .retAddr 0, .retAddr 0, .retAddr 0] [] (mkH B s l) Q := by
  refine w_aln (p := 10) (q167 9) rfl rfl ?_
  refine w_ic (p := 11) (q167 10) rfl ?_
  refine w_call (st := []) (as := [.ref 56, iv 0]) (as' := [iv 0, .ref 56]) (p := 14) (q167 11) rfl m148 (by decide) (a_ok_i rfl (r56 hB) rfl) rfl rfl (Nat.le_of_ble_eq_true rfl) (by omega) rfl rfl (a_W.imp w ?_)
  rintro _ ⟨v3, s1, l2, rfl, w⟩
  refine ⟨some (iv v3), _, rfl, ?_⟩
  show a_W _ 167 14 [.ref 56, iv x1, iv x2, iv x3, u4, .retAddr 0, .retAddr 0, .retAddr 0, .retAddr 0] [iv v3] (mkH B s1 l2) _
  refine w_bp (p := 16) (q167 14) rfl (by decide) ?_
  obtain ⟨h4, w⟩ := w
  by_cases c5 : v3 ≠ 13
  · replace w := w.1 c5
    refine w_i2t (q167 16) h4 (by decide) c5 ?_
    exact w
  · replace w := w.2 (Decidable.not_not.mp c5)
    refine w_i2f (p := 19) (q167 16) rfl h4 (by decide) c5 ?_
    refine w_aln (p := 20) (q167 19) rfl rfl ?_
    refine w_gI (p := 23) (j := 22) (v := (zz s1 56 22)) (q167 20) rfl (r56 hB) (by decide) (iv_zz s1 56 22) ?_
    by_cases c6 : (zz s1 56 22) ≠ 0
    · replace w := w.1 c6
      refine w_i1t (q167 23) (inR_zz _ _ _) c6 ?_
      exact w
    · replace w := w.2 (Decidable.not_not.mp c6)
      refine w_i1f (p := 26) (q167 23) rfl (inR_zz _ _ _) c6 ?_
      refine w_aln (p := 27) (q167 26) rfl rfl ?_
      refine w_dupr (p := 28) (q167 27) rfl ?_
      refine w_gI (p := 31) (j := 31) (v := (zz s1 56 31)) (q167 28) rfl (r56 hB) (by decide) (iv_zz s1 56 31) ?_
      refine w_ic (p := 32) (q167 31) rfl ?_
      refine w_add (p := 33) (q167 32) rfl ?_
      refine w_pI (p := 36) (j := 31) (q167 33) rfl (r56 hB) (by decide) rfl ?_
      refine w_aln (p := 37) (q167 36) rfl rfl ?_
      refine w_call (st := []) (as := [.ref 56]) (as' := [.ref 56]) (p := 40) (q167 37) rfl m168 (by decide) (a_ok_i rfl (r56 hB) rfl) rfl rfl (Nat.le_of_ble_eq_true rfl) (by omega) rfl rfl (a_W.imp w ?_)
      rintro _ ⟨v9, s7, l8, rfl, w⟩
      refine ⟨some (iv v9), _, rfl, ?_⟩
      show a_W _ 167 40 [.ref 56, iv x1, iv x2, iv x3, u4, .retAddr 0, .retAddr 0, .retAddr 0, .retAddr 0] [iv v9] (mkH B s7 l8) _
      refine w_is (p := 42) (ls' := [.ref 56, iv x1, iv x2, iv x3, iv v9, .retAddr 0, .retAddr 0, .retAddr 0, .retAddr 0]) (q167 40) rfl (Nat.le_of_ble_eq_true rfl) rfl ?_
      refine w_aln (p := 43) (q167 42) rfl rfl ?_
      refine w_gI (p := 46) (j := 22) (v := (zz s7 56 22)) (q167 43) rfl (r56 hB) (by decide) (iv_zz s7 56 22) ?_
      by_cases c10 : (zz s7 56 22) ≤ 0
      · replace w := w.1 c10
        refine w_i1t (q167 46) (inR_zz _ _ _) c10 ?_
        refine w_aln (p := 52) (q167 51) rfl rfl ?_
        refine w_gR (p := 55) (j := 37) (v := 78) (q167 52) rfl (r56 hB) (by decide) (f56_37 hB) ?_
        refine w_il (p := 57) (q167 55) rfl rfl ?_
        refine w_iln (p := 58) (q167 57) rfl rfl ?_
        obtain ⟨o11, w⟩ := w
        refine w_ias (p := 59) (q167 58) rfl (r78 hB) (by decide) o11 ?_
        refine w_il (p := 61) (q167 59) rfl rfl ?_
        refine w_isn (p := 62) (ls' := [.ref 56, iv x1, iv v9, iv x3, iv v9, .retAddr 0, .retAddr 0, .retAddr 0, .retAddr 0]) (q167 61) rfl (Nat.le_of_ble_eq_true rfl) rfl ?_
        refine w_inc (p := 65) (ls' := [.ref 56, iv x1, iv v9, iv (x3 + 1), iv v9, .retAddr 0, .retAddr 0, .retAddr 0, .retAddr 0]) (q167 62) rfl rfl rfl ?_
        refine w_goto (q167 65) ?_
        exact w
      · replace w := w.2 (Int.not_le.mp c10)
        refine w_i1f (p := 49) (q167 46) rfl (inR_zz _ _ _) c10 ?_
        refine w_ic (p := 50) (q167 49) rfl ?_
        exact w_ret (q167 50) rfl w
theorem w167_68 {d : Nat} {B : aH} {Q : aR → Prop} (hB : a_Can B) (x1 x2 x3 : Int) (u4 : Value) (s : Nat → Nat → Int32) (l : Nat → Nat → Int64) (w : ((0 ≤ x2 ∧ x2 < 12100) ∧ a_W d 167 82 [.ref 56, iv x1, iv x2, iv x3, iv x2, iv (zz s 78 x2.toNat), iv 1, .retAddr 0, .retAddr 0] [] (mkH B s l) Q)) : a_W d 167 68 [.ref 56, iv x1, iv x2, iv x3, u4, .retAddr 0, .retAddr 0, .retAddr 0, .retAddr 0] [] (mkH B s l) Q := by
  refine w_iln (p := 69) (q167 68) rfl rfl ?_
  refine w_is (p := 71) (ls' := [.ref 56, iv x1, iv x2, iv x3, iv x2, .retAddr 0, .retAddr 0, .retAddr 0, .retAddr 0]) (q167 69) rfl (Nat.le_of_ble_eq_true rfl) rfl ?_
  refine w_aln (p := 72) (q167 71) rfl rfl ?_
  refine w_gR (p := 75) (j := 37) (v := 78) (q167 72) rfl (r56 hB) (by decide) (f56_37 hB) ?_
  refine w_iln (p := 76) (q167 75) rfl rfl ?_
  obtain ⟨o1, w⟩ := w
  refine w_ia (p := 77) (v := (zz s 78 x2.toNat)) (q167 76) rfl (r78 hB) (by decide) o1 (iv_zz s 78 x2.toNat) ?_
  refine w_is (p := 79) (ls' := [.ref 56, iv x1, iv x2, iv x3, iv x2, iv (zz s 78 x2.toNat), .retAddr 0, .retAddr 0, .retAddr 0]) (q167 77) rfl (Nat.le_of_ble_eq_true rfl) rfl ?_
  refine w_ic (p := 80) (q167 79) rfl ?_
  refine w_is (p := 82) (ls' := [.ref 56, iv x1, iv x2, iv x3, iv x2, iv (zz s 78 x2.toNat), iv 1, .retAddr 0, .retAddr 0]) (q167 80) rfl (Nat.le_of_ble_eq_true rfl) rfl ?_
  exact w
theorem w167_82 {d : Nat} {B : aH} {Q : aR → Prop} (hB : a_Can B) (hd : 1 ≤ d) (x1 x2 x3 x4 x5 x6 : Int) (u7 u8 : Value) (s : Nat → Nat → Int32) (l : Nat → Nat → Int64) (w : (inR x6 ∧ inR x3 ∧ ((x3 ≤ x6 → a_W d 167 150 [.ref 56, iv x1, iv x2, iv x3, iv x4, iv x5, iv x6, u7, u8] [] (mkH B s l) Q) ∧ (x6 < x3 → (((zz s 56 22) ≠ 0 → a_W d 167 150 [.ref 56, iv x1, iv x2, iv x3, iv x4, iv x5, iv x6, u7, u8] [] (mkH B s l) Q) ∧ ((zz s 56 22) = 0 → ((0 ≤ x5 ∧ x5 < 12100) ∧ ((0 ≤ (zz s 56 33) ∧ (zz s 56 33) < 12100) ∧ ((0 ≤ x4 ∧ x4 < 12100) ∧ a_W (d - 1) 171 0 [.ref 56, iv (((zz s 56 33) + 1) - 1), iv x4, .retAddr 0] [] (mkH B (zu (zu (zu (zu (zu (zu (zu (zu (zu s 75 (zz s 56 33).toNat 2) 76 (zz s 56 33).toNat (-1)) 77 (zz s 56 33).toNat (-1)) 78 (zz s 56 33).toNat (-1)) 79 (zz s 56 33).toNat 0) 80 (zz s 56 33).toNat 1) 81 (zz s 56 33).toNat 1) 56 33 ((zz s 56 33) + 1)) 78 x4.toNat (-1)) l) (fun r => ∃ (s8 : Nat → Nat → Int32) (l9 : Nat → Nat → Int64), r = (.inl none, mkH B s8 l9) ∧ a_W (d - 1) 171 0 [.ref 56, iv (((zz s 56 33) + 1) - 1), iv x5, .retAddr 0] [] (mkH B s8 l9) (fun r => ∃ (s10 : Nat → Nat → Int32) (l11 : Nat → Nat → Int64), r = (.inl none, mkH B s10 l11) ∧ a_W d 167 82 [.ref 56, iv x1, iv x2, iv x3, iv (((zz s 56 33) + 1) - 1), iv (zz s 78 x5.toNat), iv (x6 + 1), iv x5, iv (((zz s 56 33) + 1) - 1)] [] (mkH B s10 l11) Q))))))))))) : a_W d 167 82 [.ref 56, iv x1, iv x2, iv x3, iv x4, iv x5, iv x6, u7, u8] [] (mkH B s l) Q := by
  refine w_il (p := 84) (q167 82) rfl rfl ?_
  refine w_iln (p := 85) (q167 84) rfl rfl ?_
  obtain ⟨h1, w⟩ := w
  obtain ⟨h2, w⟩ := w
  by_cases c3 : x3 ≤ x6
  · replace w := w.1 c3
    refine w_i2t (q167 85) h1 h2 c3 ?_
    exact w
  · replace w := w.2 (Int.not_le.mp c3)
    refine w_i2f (p := 88) (q167 85) rfl h1 h2 c3 ?_
    refine w_aln (p := 89) (q167 88) rfl rfl ?_
    refine w_gI (p := 92) (j := 22) (v := (zz s 56 22)) (q167 89) rfl (r56 hB) (by decide) (iv_zz s 56 22) ?_
    by_cases c4 : (zz s 56 22) ≠ 0
    · replace w := w.1 c4
      refine w_i1t (q167 92) (inR_zz _ _ _) c4 ?_
      exact w
    · replace w := w.2 (Decidable.not_not.mp c4)
      refine w_i1f (p := 95) (q167 92) rfl (inR_zz _ _ _) c4 ?_
      refine w_il (p := 97) (q167 95) rfl rfl ?_
      refine w_is (p := 99) (ls' := [.ref 56, iv x1, iv x2, iv x3, iv x4, iv x5, iv x6, iv x5, u8]) (q167 97) rfl (Nat.le_of_ble_eq_true rfl) rfl ?_
      refine w_aln (p := 100) (q167 99) rfl rfl ?_
      refine w_gR (p := 103) (j := 37) (v := 78) (q167 100) rfl (r56 hB) (by decide) (f56_37 hB) ?_
      refine w_il (p := 105) (q167 103) rfl rfl ?_
      obtain ⟨o5, w⟩ := w
      refine w_ia (p := 106) (v := (zz s 78 x5.toNat)) (q167 105) rfl (r78 hB) (by decide) o5 (iv_zz s 78 x5.toNat) ?_
      refine w_is (p := 108) (ls' := [.ref 56, iv x1, iv x2, iv x3, iv x4, iv (zz s 78 x5.toNat), iv x6, iv x5, u8]) (q167 106) rfl (Nat.le_of_ble_eq_true rfl) rfl ?_
      refine w_aln (p := 109) (q167 108) rfl rfl ?_
      refine w_ic (p := 110) (q167 109) rfl ?_
      refine w_ic (p := 111) (q167 110) rfl ?_
      refine w_call (st := []) (as := [.ref 56, iv 2, iv (-1)]) (as' := [iv (-1), iv 2, .ref 56]) (p := 114) (q167 111) rfl m170 (by decide) (a_ok_i rfl (r56 hB) rfl) rfl rfl (Nat.le_of_ble_eq_true rfl) (by omega) rfl rfl ?_
      refine w_aln (p := 1) (q170 0) rfl rfl ?_
      refine w_gR (p := 4) (j := 34) (v := 75) (q170 1) rfl (r56 hB) (by decide) (f56_34 hB) ?_
      refine w_aln (p := 5) (q170 4) rfl rfl ?_
      refine w_gI (p := 8) (j := 33) (v := (zz s 56 33)) (q170 5) rfl (r56 hB) (by decide) (iv_zz s 56 33) ?_
      refine w_iln (p := 9) (q170 8) rfl rfl ?_
      obtain ⟨o6, w⟩ := w
      refine w_ias (p := 10) (q170 9) rfl (r75 hB) (by decide) o6 ?_
      refine w_aln (p := 11) (q170 10) rfl rfl ?_
      refine w_gR (p := 14) (j := 35) (v := 76) (q170 11) rfl (r56 hB) (by decide) (f56_35 hB) ?_
      refine w_aln (p := 15) (q170 14) rfl rfl ?_
      refine w_gI (p := 18) (j := 33) (v := (zz s 56 33)) (q170 15) rfl (r56 hB) (by decide) (iv_zz s 56 33) ?_
      refine w_iln (p := 19) (q170 18) rfl rfl ?_
      refine w_ias (p := 20) (q170 19) rfl (r76 hB) (by decide) o6 ?_
      refine w_aln (p := 21) (q170 20) rfl rfl ?_
      refine w_gR (p := 24) (j := 36) (v := 77) (q170 21) rfl (r56 hB) (by decide) (f56_36 hB) ?_
      refine w_aln (p := 25) (q170 24) rfl rfl ?_
      refine w_gI (p := 28) (j := 33) (v := (zz s 56 33)) (q170 25) rfl (r56 hB) (by decide) (iv_zz s 56 33) ?_
      refine w_ic (p := 29) (q170 28) rfl ?_
      refine w_ias (p := 30) (q170 29) rfl (r77 hB) (by decide) o6 ?_
      refine w_aln (p := 31) (q170 30) rfl rfl ?_
      refine w_gR (p := 34) (j := 37) (v := 78) (q170 31) rfl (r56 hB) (by decide) (f56_37 hB) ?_
      refine w_aln (p := 35) (q170 34) rfl rfl ?_
      refine w_gI (p := 38) (j := 33) (v := (zz s 56 33)) (q170 35) rfl (r56 hB) (by decide) (iv_zz s 56 33) ?_
      refine w_ic (p := 39) (q170 38) rfl ?_
      refine w_ias (p := 40) (q170 39) rfl (r78 hB) (by decide) o6 ?_
      refine w_aln (p := 41) (q170 40) rfl rfl ?_
      refine w_gR (p := 44) (j := 38) (v := 79) (q170 41) rfl (r56 hB) (by decide) (f56_38 hB) ?_
      refine w_aln (p := 45) (q170 44) rfl rfl ?_
      refine w_gI (p := 48) (j := 33) (v := (zz s 56 33)) (q170 45) rfl (r56 hB) (by decide) (iv_zz s 56 33) ?_
      refine w_ic (p := 49) (q170 48) rfl ?_
      refine w_ias (p := 50) (q170 49) rfl (r79 hB) (by decide) o6 ?_
      refine w_aln (p := 51) (q170 50) rfl rfl ?_
      refine w_gR (p := 54) (j := 39) (v := 80) (q170 51) rfl (r56 hB) (by decide) (f56_39 hB) ?_
      refine w_aln (p := 55) (q170 54) rfl rfl ?_
      refine w_gI (p := 58) (j := 33) (v := (zz s 56 33)) (q170 55) rfl (r56 hB) (by decide) (iv_zz s 56 33) ?_
      refine w_ic (p := 59) (q170 58) rfl ?_
      refine w_ias (p := 60) (q170 59) rfl (r80 hB) (by decide) o6 ?_
      refine w_aln (p := 61) (q170 60) rfl rfl ?_
      refine w_gR (p := 64) (j := 40) (v := 81) (q170 61) rfl (r56 hB) (by decide) (f56_40 hB) ?_
      refine w_aln (p := 65) (q170 64) rfl rfl ?_
      refine w_gI (p := 68) (j := 33) (v := (zz s 56 33)) (q170 65) rfl (r56 hB) (by decide) (iv_zz s 56 33) ?_
      refine w_ic (p := 69) (q170 68) rfl ?_
      refine w_ias (p := 70) (q170 69) rfl (r81 hB) (by decide) o6 ?_
      refine w_aln (p := 71) (q170 70) rfl rfl ?_
      refine w_dupr (p := 72) (q170 71) rfl ?_
      refine w_gI (p := 75) (j := 33) (v := (zz s 56 33)) (q170 72) rfl (r56 hB) (by decide) (iv_zz s 56 33) ?_
      refine w_ic (p := 76) (q170 75) rfl ?_
      refine w_add (p := 77) (q170 76) rfl ?_
      refine w_pI (p := 80) (j := 33) (q170 77) rfl (r56 hB) (by decide) rfl ?_
      refine w_aln (p := 81) (q170 80) rfl rfl ?_
      refine w_gI (p := 84) (j := 33) (v := ((zz s 56 33) + 1)) (q170 81) rfl (r56 hB) (by decide) rfl ?_
      refine w_ic (p := 85) (q170 84) rfl ?_
      refine w_sub (p := 86) (q170 85) rfl ?_
      refine w_ret (q170 86) rfl ⟨_, _, rfl, ?_⟩
      show a_W _ 167 114 [.ref 56, iv x1, iv x2, iv x3, iv x4, iv (zz s 78 x5.toNat), iv x6, iv x5, u8] [iv (((zz s 56 33) + 1) - 1)] _ _
      refine w_is (p := 116) (ls' := [.ref 56, iv x1, iv x2, iv x3, iv x4, iv (zz s 78 x5.toNat), iv x6, iv x5, iv (((zz s 56 33) + 1) - 1)]) (q167 114) rfl (Nat.le_of_ble_eq_true rfl) rfl ?_
      refine w_aln (p := 117) (q167 116) rfl rfl ?_
      refine w_gR (p := 120) (j := 37) (v := 78) (q167 117) rfl (r56 hB) (by decide) (f56_37 hB) ?_
      refine w_il (p := 122) (q167 120) rfl rfl ?_
      refine w_ic (p := 123) (q167 122) rfl ?_
      obtain ⟨o7, w⟩ := w
      refine w_ias (p := 124) (q167 123) rfl (r78 hB) (by decide) o7 ?_
      refine w_aln (p := 125) (q167 124) rfl rfl ?_
      refine w_il (p := 127) (q167 125) rfl rfl ?_
      refine w_il (p := 129) (q167 127) rfl rfl ?_
      refine w_call (st := []) (as := [.ref 56, iv (((zz s 56 33) + 1) - 1), iv x4]) (as' := [iv x4, iv (((zz s 56 33) + 1) - 1), .ref 56]) (p := 132) (q167 129) rfl m171 (by decide) (a_ok_i rfl (r56 hB) rfl) rfl rfl (Nat.le_of_ble_eq_true rfl) (by omega) rfl rfl (a_W.imp w ?_)
      rintro _ ⟨s8, l9, rfl, w⟩
      refine ⟨none, _, rfl, ?_⟩
      show a_W _ 167 132 [.ref 56, iv x1, iv x2, iv x3, iv x4, iv (zz s 78 x5.toNat), iv x6, iv x5, iv (((zz s 56 33) + 1) - 1)] [] (mkH B s8 l9) _
      refine w_aln (p := 133) (q167 132) rfl rfl ?_
      refine w_il (p := 135) (q167 133) rfl rfl ?_
      refine w_il (p := 137) (q167 135) rfl rfl ?_
      refine w_call (st := []) (as := [.ref 56, iv (((zz s 56 33) + 1) - 1), iv x5]) (as' := [iv x5, iv (((zz s 56 33) + 1) - 1), .ref 56]) (p := 140) (q167 137) rfl m171 (by decide) (a_ok_i rfl (r56 hB) rfl) rfl rfl (Nat.le_of_ble_eq_true rfl) (by omega) rfl rfl (a_W.imp w ?_)
      rintro _ ⟨s10, l11, rfl, w⟩
      refine ⟨none, _, rfl, ?_⟩
      show a_W _ 167 140 [.ref 56, iv x1, iv x2, iv x3, iv x4, iv (zz s 78 x5.toNat), iv x6, iv x5, iv (((zz s 56 33) + 1) - 1)] [] (mkH B s10 l11) _
      refine w_il (p := 142) (q167 140) rfl rfl ?_
      refine w_is (p := 144) (ls' := [.ref 56, iv x1, iv x2, iv x3, iv (((zz s 56 33) + 1) - 1), iv (zz s 78 x5.toNat), iv x6, iv x5, iv (((zz s 56 33) + 1) - 1)]) (q167 142) rfl (Nat.le_of_ble_eq_true rfl) rfl ?_
      refine w_inc (p := 147) (ls' := [.ref 56, iv x1, iv x2, iv x3, iv (((zz s 56 33) + 1) - 1), iv (zz s 78 x5.toNat), iv (x6 + 1), iv x5, iv (((zz s 56 33) + 1) - 1)]) (q167 144) rfl rfl rfl ?_
      refine w_goto (q167 147) ?_
      exact w
theorem w167_150 {d : Nat} {B : aH} {Q : aR → Prop} (hB : a_Can B) (x1 x2 x3 x4 x5 x6 : Int) (u7 u8 : Value) (s : Nat → Nat → Int32) (l : Nat → Nat → Int64) (w : Q (.inl (some (iv x4)), (mkH B s l))) : a_W d 167 150 [.ref 56, iv x1, iv x2, iv x3, iv x4, iv x5, iv x6, u7, u8] [] (mkH B s l) Q := by
  refine w_il (p := 152) (q167 150) rfl rfl ?_
  exact w_ret (q167 152) rfl w
/-- the seven rows of written types, at one place -/
def WRow (s : aZ) (w : Nat) (k of fst nxt many wide high : Int) : Prop := zz s 75 w = k ∧ zz s 76 w = of ∧ zz s 77 w = fst ∧ zz s 78 w = nxt ∧ zz s 79 w = many ∧ zz s 80 w = wide ∧ zz s 81 w = high
/-- what is written below W stays -/
def WFr (W : Nat) (s s2 : aZ) : Prop := ∀ k, 75 ≤ k → k ≤ 81 → ∀ j, j < W → zz s2 k j = zz s k j
theorem WFr.rf (W : Nat) (s : aZ) : WFr W s s := fun _ _ _ _ _ => rfl
theorem WFr.tr {W W2 : Nat} {s1 s2 s3 : aZ} (a : WFr W s1 s2) (b : WFr W2 s2 s3) (h : W ≤ W2) : WFr W s1 s3 := fun k h1 h2 j hj => (b k h1 h2 j (by omega)).trans (a k h1 h2 j hj)
/-- how many stand in a row -/
def argN : aT → Nat
  | .leaf _ => 0
  | .branch _ _ r => argN r + 1
/-- place w holds this type (or, in a row, from w on these); v: the number of the variable that a token names -/
def WR (s : aZ) (v : Nat → Int) (W : Nat) : aT → Bool → Int → Prop
  | .leaf q, false, w => (0 ≤ w ∧ w < W) ∧ q.1 = 0 ∧ zz s 75 w.toNat = 0 ∧ zz s 76 w.toNat = v q.2 ∧ zz s 77 w.toNat = -1 ∧ zz s 79 w.toNat = 0 ∧ zz s 80 w.toNat = 1 ∧ zz s 81 w.toNat = 1
  | .leaf _, true, w => w = -1
  | .branch m a b, false, w => (0 ≤ w ∧ w < W) ∧ zz s 80 w.toNat = min (tyW (.branch m a b) : Int) 100000 ∧ zz s 81 w.toNat = tyH (.branch m a b) ∧ ((m = 3 ∧ zz s 75 w.toNat = 2 ∧ WR s v W a false (zz s 77 w.toNat) ∧ WR s v W b false (zz s 78 (zz s 77 w.toNat).toNat) ∧ zz s 78 (zz s 78 (zz s 77 w.toNat).toNat).toNat = -1) ∨ (m % 4 = 1 ∧ zz s 75 w.toNat = 1 ∧ zz s 76 w.toNat = ((m / 4 : Nat) : Int) ∧ zz s 79 w.toNat = argN a ∧ WR s v W a true (zz s 77 w.toNat)))
  | .branch _ a r, true, w => WR s v W a false w ∧ WR s v W r true (zz s 78 w.toNat)
theorem WR.fr {s s2 : aZ} {v : Nat → Int} {W W2 : Nat} (h : WFr W s s2) (hW : W ≤ W2) : ∀ (T : aT) (b : Bool) (w : Int), WR s v W T b w → WR s2 v W2 T b w ∧ (b = false → 0 ≤ w ∧ w < W) := by
  intro T
  have z : ∀ k, 75 ≤ k → k ≤ 81 → ∀ w : Int, 0 ≤ w ∧ w < W → zz s2 k w.toNat = zz s k w.toNat := fun k h1 h2 w hw => h k h1 h2 w.toNat (by omega)
  induction T with
  | leaf q =>
    intro b w hw
    cases b with
    | false =>
      obtain ⟨a1, a2, a3, a4, a5, a6, a7, a8⟩ := hw
      refine ⟨⟨⟨a1.1, by omega⟩, a2, ?_, ?_, ?_, ?_, ?_, ?_⟩, fun _ => a1⟩
      · rw [z 75 (by decide) (by decide) w a1]; exact a3
      · rw [z 76 (by decide) (by decide) w a1]; exact a4
      · rw [z 77 (by decide) (by decide) w a1]; exact a5
      · rw [z 79 (by decide) (by decide) w a1]; exact a6
      · rw [z 80 (by decide) (by decide) w a1]; exact a7
      · rw [z 81 (by decide) (by decide) w a1]; exact a8
    | true => exact ⟨hw, fun q => absurd q (by decide)⟩
  | branch m a r iha ihr =>
    intro b w hw
    cases b with
    | false =>
      obtain ⟨a1, a2, a3, a4⟩ := hw
      refine ⟨⟨⟨a1.1, by omega⟩, ?_, ?_, ?_⟩, fun _ => a1⟩
      · rw [z 80 (by decide) (by decide) w a1]; exact a2
      · rw [z 81 (by decide) (by decide) w a1]; exact a3
      · rcases a4 with ⟨b1, b2, b3, b4, b5⟩ | ⟨b1, b2, b3, b4, b5⟩
        · obtain ⟨c1, c2⟩ := iha false _ b3
          obtain ⟨c3, c4⟩ := ihr false _ b4
          refine Or.inl ⟨b1, ?_, ?_, ?_, ?_⟩
          · rw [z 75 (by decide) (by decide) w a1]; exact b2
          · rw [z 77 (by decide) (by decide) w a1]; exact c1
          · rw [z 77 (by decide) (by decide) w a1, z 78 (by decide) (by decide) _ (c2 rfl)]; exact c3
          · rw [z 77 (by decide) (by decide) w a1, z 78 (by decide) (by decide) _ (c2 rfl), z 78 (by decide) (by decide) _ (c4 rfl)]; exact b5
        · obtain ⟨c1, c2⟩ := iha true _ b5
          refine Or.inr ⟨b1, ?_, ?_, ?_, ?_⟩
          · rw [z 75 (by decide) (by decide) w a1]; exact b2
          · rw [z 76 (by decide) (by decide) w a1]; exact b3
          · rw [z 79 (by decide) (by decide) w a1]; exact b4
          · rw [z 77 (by decide) (by decide) w a1]; exact c1
    | true =>
      obtain ⟨b1, b2⟩ := hw
      obtain ⟨c1, c2⟩ := iha false _ b1
      obtain ⟨c3, c4⟩ := ihr true _ b2
      refine ⟨⟨c1, ?_⟩, fun q => absurd q (by decide)⟩
      rw [z 78 (by decide) (by decide) w (c2 rfl)]
      exact c3
/-- deeper: the place's token is looked at, then the depth -/
theorem m_enter {d : Nat} {B : aH} (hB : a_Can B) (hd : 5 ≤ d) {t : Nat → Int} {n : Nat} {vs : List (List Int)} (hcap : MCap t n vs) {s : aZ} {l : aZL} (i dep : Nat) (hdep : dep ≤ 40) (h32 : zz s 56 32 = dep) (h : MAt t n vs i s l) : a_W d 164 0 [.ref 56] [] (mkH B s l) (fun q => ∃ s1 s2 l2, q = (.inl none, mkH B s2 l2) ∧ FrM (zu s 56 32 ((dep : Int) + 1)) s1 l l2 ∧ ((ftT t n i = 0 ∧ dep < 40 ∧ s2 = s1 ∧ MC t n vs (i + 1) i s1 l2) ∨ (ftT t n i = 0 ∧ dep = 40 ∧ s2 = zu (zu s1 56 22 8) 56 23 (stT t n i : Nat) ∧ MF t n 8 (stT t n i) (nsT t n vs (i + 1)) s2 l2) ∨ (ftT t n i ≠ 0 ∧ s2 = s1 ∧ MF t n (ftT t n i) (stT t n i) (nsT t n vs (i + 1)) s1 l2))) := by
  have i6 := h.le
  have f : ∀ j, j ≠ 32 → zz (zu s 56 32 ((dep : Int) + 1)) 56 j = zz s 56 j := fun j hj => zz_ne _ _ _ _ _ _ (fun q => hj q.2)
  have g : ∀ k, k ≠ 56 → zu s 56 32 ((dep : Int) + 1) k = s k := fun k hk => zu_ne _ _ _ _ _ hk
  have mc : ∀ m, MC t n vs m i s l → MC t n vs m i (zu s 56 32 ((dep : Int) + 1)) l := by
    rintro m ⟨c1, c2, c3, c4, c5, c6, c7, c8, c9⟩
    refine ⟨⟨(f 24 (by decide)).trans c1.1, c1.2.1, fun j hj => ⟨(zz_of (g 57 (by decide)) j).trans (c1.2.2 j hj).1, (c1.2.2 j hj).2⟩⟩, (f 22 (by decide)).trans c2, (f 23 (by decide)).trans c3, (f 31 (by decide)).trans c4, (f 26 (by decide)).trans c5, (f 25 (by decide)).trans c6, c7.fr (f 5 (by decide)) rfl, fun j hj => ?_, c9⟩
    obtain ⟨t1, t2, t3, t4, t5, t6⟩ := c8 j hj
    exact ⟨t1, (zz_of (g 71 (by decide)) j).trans t2, (zz_of (g 72 (by decide)) j).trans t3, fun q => (zz_of (g 73 (by decide)) j).trans (t4 q), fun q => (zz_of (g 73 (by decide)) j).trans (t5 q), t6⟩
  have hA : MAt t n vs i (zu s 56 32 ((dep : Int) + 1)) l := ⟨h.1.elim (fun c => Or.inl (mc _ c)) (fun c => Or.inr (mc _ c)), h.2⟩
  refine w164_0 hB (by omega) s l ?_
  rw [h32]
  refine a_W.imp (m_look0 hB (by omega) hcap i hA) ?_
  rintro _ ⟨s1, l2, hf, ⟨h0, rfl, hC⟩ | ⟨h0, rfl, hF⟩⟩
  · have e32 : zz s1 56 32 = (dep : Int) + 1 := (hf.2.1 32 (by decide)).trans (zz_same _ _ _ ⟨by omega, by omega⟩)
    have c4 := hC.2.2.2.1
    have c2 := hC.2.1
    have c72 := (hC.2.2.2.2.2.2.2.1 i (Nat.lt_succ_self _)).2.2.1
    have r72 := inR_zz s1 72 i
    have e31 : (zz s1 56 31).toNat = i := by omega
    refine ⟨_, s1, l2, rfl, fun hle => ⟨s1, s1, l2, rfl, hf, Or.inl ⟨h0, by omega, rfl, hC⟩⟩, fun hlt => ⟨⟨by omega, by omega⟩, fun _ => ?_, fun q => absurd q (by omega)⟩⟩
    rw [e31, c72]
    rw [c72] at r72
    exact ⟨s1, _, l2, rfl, hf, Or.inr (Or.inl ⟨h0, by omega, rfl, hC.die (by omega) 8 _ (by decide) r72⟩)⟩
  · have hF' := hF
    obtain ⟨f1, f2, f3, f4, f5, f6, f7⟩ := hF
    have q0 : ∃ s1' s2 l2', ((.inl none, mkH B s1 l2) : aR) = (.inl none, mkH B s2 l2') ∧ FrM (zu s 56 32 ((dep : Int) + 1)) s1' l l2' ∧ ((ftT t n i = 0 ∧ dep < 40 ∧ s2 = s1' ∧ MC t n vs (i + 1) i s1' l2') ∨ (ftT t n i = 0 ∧ dep = 40 ∧ s2 = zu (zu s1' 56 22 8) 56 23 (stT t n i : Nat) ∧ MF t n 8 (stT t n i) (nsT t n vs (i + 1)) s2 l2') ∨ (ftT t n i ≠ 0 ∧ s2 = s1' ∧ MF t n (ftT t n i) (stT t n i) (nsT t n vs (i + 1)) s1' l2')) := ⟨s1, s1, l2, rfl, hf, Or.inr (Or.inr ⟨h0, rfl, hF'⟩)⟩
    exact ⟨_, s1, l2, rfl, fun _ => q0, fun _ => ⟨⟨by omega, by omega⟩, fun q => absurd q (by omega), fun _ => q0⟩⟩
