/-! printed by wip/am/mkc0.py: the reader reads terms -/
theorem w81_0 {d : Nat} {B : aH} {Q : aR → Prop} (hB : a_Can B) (hd : 1 ≤ d) (x1 x2 x3 x4 : Int) (s : Nat → Nat → Int32) (l : Nat → Nat → Int64) (w : (((zz s 45 7) ≠ 0 → Q (.inl (some (iv 0)), (mkH B (zu s 45 7 1) l))) ∧ ((zz s 45 7) = 0 → (((zz s 45 6) < 501 → ((0 ≤ (zz s 45 6) ∧ (zz s 45 6) < 501) ∧ ((0 ≤ x2 ∧ x2 < 501) ∧ ((0 ≤ x3 ∧ x3 < 501) ∧ Q (.inl (some (iv (((zz s 45 6) + 1) - 1))), (mkH B (zu (zu (zu (zu (zu (zu s 46 (zz s 45 6).toNat x1) 47 (zz s 45 6).toNat x2) 48 (zz s 45 6).toNat x3) 49 (zz s 45 6).toNat x4) 50 (zz s 45 6).toNat (1 + (max (zz s 50 x2.toNat) (zz s 50 x3.toNat)))) 45 6 ((zz s 45 6) + 1)) l)))))) ∧ (501 ≤ (zz s 45 6) → Q (.inl (some (iv 0)), (mkH B (zu s 45 7 1) l))))))) : a_W d 81 0 [.ref 45, iv x1, iv x2, iv x3, iv x4] [] (mkH B s l) Q := by
  refine w_aln (p := 1) (q81 0) rfl rfl ?_
  refine w_gI (p := 4) (j := 7) (v := (zz s 45 7)) (q81 1) rfl (r45 hB) (by decide) (iv_zz s 45 7) ?_
  by_cases c1 : (zz s 45 7) ≠ 0
  · replace w := w.1 c1
    refine w_i1t (q81 4) (inR_zz _ _ _) c1 ?_
    refine w_aln (p := 18) (q81 17) rfl rfl ?_
    refine w_ic (p := 19) (q81 18) rfl ?_
    refine w_pI (p := 22) (j := 7) (q81 19) rfl (r45 hB) (by decide) rfl ?_
    refine w_ic (p := 23) (q81 22) rfl ?_
    exact w_ret (q81 23) rfl w
  · replace w := w.2 (Decidable.not_not.mp c1)
    refine w_i1f (p := 7) (q81 4) rfl (inR_zz _ _ _) c1 ?_
    refine w_aln (p := 8) (q81 7) rfl rfl ?_
    refine w_gI (p := 11) (j := 6) (v := (zz s 45 6)) (q81 8) rfl (r45 hB) (by decide) (iv_zz s 45 6) ?_
    refine w_sp (p := 14) (q81 11) rfl (by decide) ?_
    by_cases c2 : (zz s 45 6) < 501
    · replace w := w.1 c2
      refine w_i2t (q81 14) (inR_zz _ _ _) (by decide) c2 ?_
      refine w_aln (p := 25) (q81 24) rfl rfl ?_
      refine w_gR (p := 28) (j := 0) (v := 46) (q81 25) rfl (r45 hB) (by decide) (f45_0 hB) ?_
      refine w_aln (p := 29) (q81 28) rfl rfl ?_
      refine w_gI (p := 32) (j := 6) (v := (zz s 45 6)) (q81 29) rfl (r45 hB) (by decide) (iv_zz s 45 6) ?_
      refine w_iln (p := 33) (q81 32) rfl rfl ?_
      obtain ⟨o3, w⟩ := w
      refine w_ias (p := 34) (q81 33) rfl (r46 hB) (by decide) o3 ?_
      refine w_aln (p := 35) (q81 34) rfl rfl ?_
      refine w_gR (p := 38) (j := 1) (v := 47) (q81 35) rfl (r45 hB) (by decide) (f45_1 hB) ?_
      refine w_aln (p := 39) (q81 38) rfl rfl ?_
      refine w_gI (p := 42) (j := 6) (v := (zz s 45 6)) (q81 39) rfl (r45 hB) (by decide) (iv_zz s 45 6) ?_
      refine w_iln (p := 43) (q81 42) rfl rfl ?_
      refine w_ias (p := 44) (q81 43) rfl (r47 hB) (by decide) o3 ?_
      refine w_aln (p := 45) (q81 44) rfl rfl ?_
      refine w_gR (p := 48) (j := 2) (v := 48) (q81 45) rfl (r45 hB) (by decide) (f45_2 hB) ?_
      refine w_aln (p := 49) (q81 48) rfl rfl ?_
      refine w_gI (p := 52) (j := 6) (v := (zz s 45 6)) (q81 49) rfl (r45 hB) (by decide) (iv_zz s 45 6) ?_
      refine w_iln (p := 53) (q81 52) rfl rfl ?_
      refine w_ias (p := 54) (q81 53) rfl (r48 hB) (by decide) o3 ?_
      refine w_aln (p := 55) (q81 54) rfl rfl ?_
      refine w_gR (p := 58) (j := 3) (v := 49) (q81 55) rfl (r45 hB) (by decide) (f45_3 hB) ?_
      refine w_aln (p := 59) (q81 58) rfl rfl ?_
      refine w_gI (p := 62) (j := 6) (v := (zz s 45 6)) (q81 59) rfl (r45 hB) (by decide) (iv_zz s 45 6) ?_
      refine w_il (p := 64) (q81 62) rfl rfl ?_
      refine w_ias (p := 65) (q81 64) rfl (r49 hB) (by decide) o3 ?_
      refine w_aln (p := 66) (q81 65) rfl rfl ?_
      refine w_gR (p := 69) (j := 4) (v := 50) (q81 66) rfl (r45 hB) (by decide) (f45_4 hB) ?_
      refine w_aln (p := 70) (q81 69) rfl rfl ?_
      refine w_gI (p := 73) (j := 6) (v := (zz s 45 6)) (q81 70) rfl (r45 hB) (by decide) (iv_zz s 45 6) ?_
      refine w_ic (p := 74) (q81 73) rfl ?_
      refine w_aln (p := 75) (q81 74) rfl rfl ?_
      refine w_gR (p := 78) (j := 4) (v := 50) (q81 75) rfl (r45 hB) (by decide) (f45_4 hB) ?_
      refine w_iln (p := 79) (q81 78) rfl rfl ?_
      obtain ⟨o4, w⟩ := w
      refine w_ia (p := 80) (v := (zz s 50 x2.toNat)) (q81 79) rfl (r50 hB) (by decide) o4 (iv_zz s 50 x2.toNat) ?_
      refine w_aln (p := 81) (q81 80) rfl rfl ?_
      refine w_gR (p := 84) (j := 4) (v := 50) (q81 81) rfl (r45 hB) (by decide) (f45_4 hB) ?_
      refine w_iln (p := 85) (q81 84) rfl rfl ?_
      obtain ⟨o5, w⟩ := w
      refine w_ia (p := 86) (v := (zz s 50 x3.toNat)) (q81 85) rfl (r50 hB) (by decide) o5 (iv_zz s 50 x3.toNat) ?_
      refine w_max (p := 89) (q81 86) rfl rfl (inR_zz _ _ _) (inR_zz _ _ _) (Nat.le_of_ble_eq_true rfl) (by omega) ?_
      refine w_add (p := 90) (q81 89) rfl ?_
      refine w_ias (p := 91) (q81 90) rfl (r50 hB) (by decide) o3 ?_
      refine w_aln (p := 92) (q81 91) rfl rfl ?_
      refine w_dupr (p := 93) (q81 92) rfl ?_
      refine w_gI (p := 96) (j := 6) (v := (zz s 45 6)) (q81 93) rfl (r45 hB) (by decide) (iv_zz s 45 6) ?_
      refine w_ic (p := 97) (q81 96) rfl ?_
      refine w_add (p := 98) (q81 97) rfl ?_
      refine w_pI (p := 101) (j := 6) (q81 98) rfl (r45 hB) (by decide) rfl ?_
      refine w_aln (p := 102) (q81 101) rfl rfl ?_
      refine w_gI (p := 105) (j := 6) (v := ((zz s 45 6) + 1)) (q81 102) rfl (r45 hB) (by decide) rfl ?_
      refine w_ic (p := 106) (q81 105) rfl ?_
      refine w_sub (p := 107) (q81 106) rfl ?_
      exact w_ret (q81 107) rfl w
    · replace w := w.2 (Int.not_lt.mp c2)
      refine w_i2f (p := 17) (q81 14) rfl (inR_zz _ _ _) (by decide) c2 ?_
      refine w_aln (p := 18) (q81 17) rfl rfl ?_
      refine w_ic (p := 19) (q81 18) rfl ?_
      refine w_pI (p := 22) (j := 7) (q81 19) rfl (r45 hB) (by decide) rfl ?_
      refine w_ic (p := 23) (q81 22) rfl ?_
      exact w_ret (q81 23) rfl w
theorem w86_0 {d : Nat} {B : aH} {Q : aR → Prop} (hB : a_Can B) (hd : 1 ≤ d) (x1 x2 : Int) (s : Nat → Nat → Int32) (l : Nat → Nat → Int64) (w : a_W (d - 1) 81 0 [.ref 45, iv x1, iv 0, iv 0, iv x2] [] (mkH B s l) (fun r => ∃ (v3 : Int) (s1 : Nat → Nat → Int32) (l2 : Nat → Nat → Int64), r = (.inl (some (iv v3)), mkH B s1 l2) ∧ Q (.inl (some (iv v3)), (mkH B s1 l2)))) : a_W d 86 0 [.ref 45, iv x1, iv x2] [] (mkH B s l) Q := by
  refine w_aln (p := 1) (q86 0) rfl rfl ?_
  refine w_iln (p := 2) (q86 1) rfl rfl ?_
  refine w_ic (p := 3) (q86 2) rfl ?_
  refine w_ic (p := 4) (q86 3) rfl ?_
  refine w_iln (p := 5) (q86 4) rfl rfl ?_
  refine w_call (st := []) (as := [.ref 45, iv x1, iv 0, iv 0, iv x2]) (as' := [iv x2, iv 0, iv 0, iv x1, .ref 45]) (p := 8) (q86 5) rfl m81 (by decide) (a_ok_i rfl (r45 hB) rfl) rfl rfl (Nat.le_of_ble_eq_true rfl) (by omega) rfl rfl (a_W.imp w ?_)
  rintro _ ⟨v3, s1, l2, rfl, w⟩
  refine ⟨some (iv v3), _, rfl, ?_⟩
  show a_W _ 86 8 [.ref 45, iv x1, iv x2] [iv v3] (mkH B s1 l2) _
  exact w_ret (q86 8) rfl w
theorem w87_0 {d : Nat} {B : aH} {Q : aR → Prop} (hB : a_Can B) (hd : 1 ≤ d) (x1 x2 : Int) (s : Nat → Nat → Int32) (l : Nat → Nat → Int64) (w : (((zz s 45 7) = 0 → ((0 ≤ x1 ∧ x1 < 501) ∧ ((0 ≤ x2 ∧ x2 < 501) ∧ a_W (d - 1) 88 0 [.ref 17, iv (zz s 49 x1.toNat), iv (zz s 49 x2.toNat), .retAddr 0, .retAddr 0] [] (mkH B s l) (fun r => ∃ (v6 : Int) (s4 : Nat → Nat → Int32) (l5 : Nat → Nat → Int64), r = (.inl (some (iv v6)), mkH B s4 l5) ∧ a_W (d - 1) 81 0 [.ref 45, iv (-1), iv x1, iv x2, iv v6] [] (mkH B s4 l5) (fun r => ∃ (v9 : Int) (s7 : Nat → Nat → Int32) (l8 : Nat → Nat → Int64), r = (.inl (some (iv v9)), mkH B s7 l8) ∧ Q (.inl (some (iv v9)), (mkH B s7 l8))))))) ∧ ((zz s 45 7) ≠ 0 → Q (.inl (some (iv 0)), (mkH B s l))))) : a_W d 87 0 [.ref 45, iv x1, iv x2, .retAddr 0] [] (mkH B s l) Q := by
  refine w_aln (p := 1) (q87 0) rfl rfl ?_
  refine w_gI (p := 4) (j := 7) (v := (zz s 45 7)) (q87 1) rfl (r45 hB) (by decide) (iv_zz s 45 7) ?_
  by_cases c1 : (zz s 45 7) = 0
  · replace w := w.1 c1
    refine w_i1t (q87 4) (inR_zz _ _ _) c1 ?_
    refine w_aln (p := 10) (q87 9) rfl rfl ?_
    refine w_gR (p := 13) (j := 5) (v := 17) (q87 10) rfl (r45 hB) (by decide) (f45_5 hB) ?_
    refine w_aln (p := 14) (q87 13) rfl rfl ?_
    refine w_gR (p := 17) (j := 3) (v := 49) (q87 14) rfl (r45 hB) (by decide) (f45_3 hB) ?_
    refine w_iln (p := 18) (q87 17) rfl rfl ?_
    obtain ⟨o2, w⟩ := w
    refine w_ia (p := 19) (v := (zz s 49 x1.toNat)) (q87 18) rfl (r49 hB) (by decide) o2 (iv_zz s 49 x1.toNat) ?_
    refine w_aln (p := 20) (q87 19) rfl rfl ?_
    refine w_gR (p := 23) (j := 3) (v := 49) (q87 20) rfl (r45 hB) (by decide) (f45_3 hB) ?_
    refine w_iln (p := 24) (q87 23) rfl rfl ?_
    obtain ⟨o3, w⟩ := w
    refine w_ia (p := 25) (v := (zz s 49 x2.toNat)) (q87 24) rfl (r49 hB) (by decide) o3 (iv_zz s 49 x2.toNat) ?_
    refine w_call (st := []) (as := [.ref 17, iv (zz s 49 x1.toNat), iv (zz s 49 x2.toNat)]) (as' := [iv (zz s 49 x2.toNat), iv (zz s 49 x1.toNat), .ref 17]) (p := 28) (q87 25) rfl m88 (by decide) (a_ok_i rfl (r17 hB) rfl) rfl rfl (Nat.le_of_ble_eq_true rfl) (by omega) rfl rfl (a_W.imp w ?_)
    rintro _ ⟨v6, s4, l5, rfl, w⟩
    refine ⟨some (iv v6), _, rfl, ?_⟩
    show a_W _ 87 28 [.ref 45, iv x1, iv x2, .retAddr 0] [iv v6] (mkH B s4 l5) _
    refine w_isn (p := 29) (ls' := [.ref 45, iv x1, iv x2, iv v6]) (q87 28) rfl (Nat.le_of_ble_eq_true rfl) rfl ?_
    refine w_aln (p := 30) (q87 29) rfl rfl ?_
    refine w_ic (p := 31) (q87 30) rfl ?_
    refine w_iln (p := 32) (q87 31) rfl rfl ?_
    refine w_iln (p := 33) (q87 32) rfl rfl ?_
    refine w_iln (p := 34) (q87 33) rfl rfl ?_
    refine w_call (st := []) (as := [.ref 45, iv (-1), iv x1, iv x2, iv v6]) (as' := [iv v6, iv x2, iv x1, iv (-1), .ref 45]) (p := 37) (q87 34) rfl m81 (by decide) (a_ok_i rfl (r45 hB) rfl) rfl rfl (Nat.le_of_ble_eq_true rfl) (by omega) rfl rfl (a_W.imp w ?_)
    rintro _ ⟨v9, s7, l8, rfl, w⟩
    refine ⟨some (iv v9), _, rfl, ?_⟩
    show a_W _ 87 37 [.ref 45, iv x1, iv x2, iv v6] [iv v9] (mkH B s7 l8) _
    exact w_ret (q87 37) rfl w
  · replace w := w.2 c1
    refine w_i1f (p := 7) (q87 4) rfl (inR_zz _ _ _) c1 ?_
    refine w_ic (p := 8) (q87 7) rfl ?_
    exact w_ret (q87 8) rfl w
theorem w80_0 {d : Nat} {B : aH} {Q : aR → Prop} (hB : a_Can B) (hd : 1 ≤ d) (x1 x2 : Int) (s : Nat → Nat → Int32) (l : Nat → Nat → Int64) (w : (((zz s 45 7) = 0 → ((0 ≤ x2 ∧ x2 < 501) ∧ a_W (d - 1) 74 0 [.ref 17, iv x1, iv (zz s 49 x2.toNat)] [] (mkH B s l) (fun r => ∃ (v5 : Int) (s3 : Nat → Nat → Int32) (l4 : Nat → Nat → Int64), r = (.inl (some (iv v5)), mkH B s3 l4) ∧ a_W (d - 1) 81 0 [.ref 45, iv (-2), iv x2, iv 0, iv v5] [] (mkH B s3 l4) (fun r => ∃ (v8 : Int) (s6 : Nat → Nat → Int32) (l7 : Nat → Nat → Int64), r = (.inl (some (iv v8)), mkH B s6 l7) ∧ Q (.inl (some (iv v8)), (mkH B s6 l7)))))) ∧ ((zz s 45 7) ≠ 0 → Q (.inl (some (iv 0)), (mkH B s l))))) : a_W d 80 0 [.ref 45, iv x1, iv x2] [] (mkH B s l) Q := by
  refine w_aln (p := 1) (q80 0) rfl rfl ?_
  refine w_gI (p := 4) (j := 7) (v := (zz s 45 7)) (q80 1) rfl (r45 hB) (by decide) (iv_zz s 45 7) ?_
  by_cases c1 : (zz s 45 7) = 0
  · replace w := w.1 c1
    refine w_i1t (q80 4) (inR_zz _ _ _) c1 ?_
    refine w_aln (p := 10) (q80 9) rfl rfl ?_
    refine w_bp (p := 12) (q80 10) rfl (by decide) ?_
    refine w_iln (p := 13) (q80 12) rfl rfl ?_
    refine w_ic (p := 14) (q80 13) rfl ?_
    refine w_aln (p := 15) (q80 14) rfl rfl ?_
    refine w_gR (p := 18) (j := 5) (v := 17) (q80 15) rfl (r45 hB) (by decide) (f45_5 hB) ?_
    refine w_iln (p := 19) (q80 18) rfl rfl ?_
    refine w_aln (p := 20) (q80 19) rfl rfl ?_
    refine w_gR (p := 23) (j := 3) (v := 49) (q80 20) rfl (r45 hB) (by decide) (f45_3 hB) ?_
    refine w_iln (p := 24) (q80 23) rfl rfl ?_
    obtain ⟨o2, w⟩ := w
    refine w_ia (p := 25) (v := (zz s 49 x2.toNat)) (q80 24) rfl (r49 hB) (by decide) o2 (iv_zz s 49 x2.toNat) ?_
    refine w_call (st := [iv 0, iv x2, iv (-2), .ref 45]) (as := [.ref 17, iv x1, iv (zz s 49 x2.toNat)]) (as' := [iv (zz s 49 x2.toNat), iv x1, .ref 17]) (p := 28) (q80 25) rfl m74 (by decide) (a_ok_i rfl (r17 hB) rfl) rfl rfl (Nat.le_of_ble_eq_true rfl) (by omega) rfl rfl (a_W.imp w ?_)
    rintro _ ⟨v5, s3, l4, rfl, w⟩
    refine ⟨some (iv v5), _, rfl, ?_⟩
    show a_W _ 80 28 [.ref 45, iv x1, iv x2] [iv v5, iv 0, iv x2, iv (-2), .ref 45] (mkH B s3 l4) _
    refine w_call (st := []) (as := [.ref 45, iv (-2), iv x2, iv 0, iv v5]) (as' := [iv v5, iv 0, iv x2, iv (-2), .ref 45]) (p := 31) (q80 28) rfl m81 (by decide) (a_ok_i rfl (r45 hB) rfl) rfl rfl (Nat.le_of_ble_eq_true rfl) (by omega) rfl rfl (a_W.imp w ?_)
    rintro _ ⟨v8, s6, l7, rfl, w⟩
    refine ⟨some (iv v8), _, rfl, ?_⟩
    show a_W _ 80 31 [.ref 45, iv x1, iv x2] [iv v8] (mkH B s6 l7) _
    exact w_ret (q80 31) rfl w
  · replace w := w.2 c1
    refine w_i1f (p := 7) (q80 4) rfl (inR_zz _ _ _) c1 ?_
    refine w_ic (p := 8) (q80 7) rfl ?_
    exact w_ret (q80 8) rfl w
theorem w83_0 {d : Nat} {B : aH} {Q : aR → Prop} (hB : a_Can B) (hd : 1 ≤ d) (x1 x2 : Int) (s : Nat → Nat → Int32) (l : Nat → Nat → Int64) (w : (((zz s 45 7) = 0 → a_W (d - 1) 84 0 [.ref 25, iv x2, .retAddr 0, .retAddr 0, .retAddr 0, .retAddr 0, .retAddr 0, .retAddr 0, .retAddr 0, .retAddr 0] [] (mkH B s l) (fun r => ∃ (v4 : Int) (s2 : Nat → Nat → Int32) (l3 : Nat → Nat → Int64), r = (.inl (some (iv v4)), mkH B s2 l3) ∧ a_W (d - 1) 86 0 [.ref 45, iv ((2 * x1) + 1), iv v4] [] (mkH B s2 l3) (fun r => ∃ (v7 : Int) (s5 : Nat → Nat → Int32) (l6 : Nat → Nat → Int64), r = (.inl (some (iv v7)), mkH B s5 l6) ∧ Q (.inl (some (iv v7)), (mkH B s5 l6))))) ∧ ((zz s 45 7) ≠ 0 → Q (.inl (some (iv 0)), (mkH B s l))))) : a_W d 83 0 [.ref 38, iv x1, iv x2] [] (mkH B s l) Q := by
  refine w_aln (p := 1) (q83 0) rfl rfl ?_
  refine w_gR (p := 4) (j := 5) (v := 45) (q83 1) rfl (r38 hB) (by decide) (f38_5 hB) ?_
  refine w_gI (p := 7) (j := 7) (v := (zz s 45 7)) (q83 4) rfl (r45 hB) (by decide) (iv_zz s 45 7) ?_
  by_cases c1 : (zz s 45 7) = 0
  · replace w := w.1 c1
    refine w_i1t (q83 7) (inR_zz _ _ _) c1 ?_
    refine w_aln (p := 15) (q83 14) rfl rfl ?_
    refine w_gR (p := 18) (j := 5) (v := 45) (q83 15) rfl (r38 hB) (by decide) (f38_5 hB) ?_
    refine w_ic (p := 19) (q83 18) rfl ?_
    refine w_iln (p := 20) (q83 19) rfl rfl ?_
    refine w_mulz (p := 21) (q83 20) rfl ?_
    refine w_ic (p := 22) (q83 21) rfl ?_
    refine w_add (p := 23) (q83 22) rfl ?_
    refine w_aln (p := 24) (q83 23) rfl rfl ?_
    refine w_gR (p := 27) (j := 1) (v := 25) (q83 24) rfl (r38 hB) (by decide) (f38_1 hB) ?_
    refine w_iln (p := 28) (q83 27) rfl rfl ?_
    refine w_call (st := [iv ((2 * x1) + 1), .ref 45]) (as := [.ref 25, iv x2]) (as' := [iv x2, .ref 25]) (p := 31) (q83 28) rfl m84 (by decide) (a_ok_i rfl (r25 hB) rfl) rfl rfl (Nat.le_of_ble_eq_true rfl) (by omega) rfl rfl (a_W.imp w ?_)
    rintro _ ⟨v4, s2, l3, rfl, w⟩
    refine ⟨some (iv v4), _, rfl, ?_⟩
    show a_W _ 83 31 [.ref 38, iv x1, iv x2] [iv v4, iv ((2 * x1) + 1), .ref 45] (mkH B s2 l3) _
    refine w_call (st := []) (as := [.ref 45, iv ((2 * x1) + 1), iv v4]) (as' := [iv v4, iv ((2 * x1) + 1), .ref 45]) (p := 34) (q83 31) rfl m86 (by decide) (a_ok_i rfl (r45 hB) rfl) rfl rfl (Nat.le_of_ble_eq_true rfl) (by omega) rfl rfl (a_W.imp w ?_)
    rintro _ ⟨v7, s5, l6, rfl, w⟩
    refine ⟨some (iv v7), _, rfl, ?_⟩
    show a_W _ 83 34 [.ref 38, iv x1, iv x2] [iv v7] (mkH B s5 l6) _
    exact w_ret (q83 34) rfl w
  · replace w := w.2 c1
    refine w_i1f (p := 10) (q83 7) rfl (inR_zz _ _ _) c1 ?_
    refine w_ic (p := 11) (q83 10) rfl ?_
    refine w_goto (q83 11) ?_
    exact w_ret (q83 34) rfl w
theorem w82_0 {d : Nat} {B : aH} {Q : aR → Prop} (hB : a_Can B) (hd : 1 ≤ d) (x1 : Int) (s : Nat → Nat → Int32) (l : Nat → Nat → Int64) (w : a_W (d - 1) 83 0 [.ref 38, iv x1, iv x1] [] (mkH B s l) (fun r => ∃ (v3 : Int) (s1 : Nat → Nat → Int32) (l2 : Nat → Nat → Int64), r = (.inl (some (iv v3)), mkH B s1 l2) ∧ Q (.inl (some (iv v3)), (mkH B s1 l2)))) : a_W d 82 0 [.ref 38, iv x1] [] (mkH B s l) Q := by
  refine w_aln (p := 1) (q82 0) rfl rfl ?_
  refine w_iln (p := 2) (q82 1) rfl rfl ?_
  refine w_iln (p := 3) (q82 2) rfl rfl ?_
  refine w_call (st := []) (as := [.ref 38, iv x1, iv x1]) (as' := [iv x1, iv x1, .ref 38]) (p := 6) (q82 3) rfl m83 (by decide) (a_ok_i rfl (r38 hB) rfl) rfl rfl (Nat.le_of_ble_eq_true rfl) (by omega) rfl rfl (a_W.imp w ?_)
  rintro _ ⟨v3, s1, l2, rfl, w⟩
  refine ⟨some (iv v3), _, rfl, ?_⟩
  show a_W _ 82 6 [.ref 38, iv x1] [iv v3] (mkH B s1 l2) _
  exact w_ret (q82 6) rfl w
theorem w99_0 {d : Nat} {B : aH} {Q : aR → Prop} (hB : a_Can B) (hd : 1 ≤ d) (x1 : Int) (s : Nat → Nat → Int32) (l : Nat → Nat → Int64) (w : a_W (d - 1) 82 0 [.ref 38, iv 10] [] (mkH B s l) (fun r => ∃ (v3 : Int) (s1 : Nat → Nat → Int32) (l2 : Nat → Nat → Int64), r = (.inl (some (iv v3)), mkH B s1 l2) ∧ a_W d 99 9 [.ref 38, iv x1, iv v3, iv 0] [] (mkH B s1 l2) Q)) : a_W d 99 0 [.ref 38, iv x1, .retAddr 0, .retAddr 0] [] (mkH B s l) Q := by
  refine w_aln (p := 1) (q99 0) rfl rfl ?_
  refine w_bp (p := 3) (q99 1) rfl (by decide) ?_
  refine w_call (st := []) (as := [.ref 38, iv 10]) (as' := [iv 10, .ref 38]) (p := 6) (q99 3) rfl m82 (by decide) (a_ok_i rfl (r38 hB) rfl) rfl rfl (Nat.le_of_ble_eq_true rfl) (by omega) rfl rfl (a_W.imp w ?_)
  rintro _ ⟨v3, s1, l2, rfl, w⟩
  refine ⟨some (iv v3), _, rfl, ?_⟩
  show a_W _ 99 6 [.ref 38, iv x1, .retAddr 0, .retAddr 0] [iv v3] (mkH B s1 l2) _
  refine w_isn (p := 7) (ls' := [.ref 38, iv x1, iv v3, .retAddr 0]) (q99 6) rfl (Nat.le_of_ble_eq_true rfl) rfl ?_
  refine w_ic (p := 8) (q99 7) rfl ?_
  refine w_isn (p := 9) (ls' := [.ref 38, iv x1, iv v3, iv 0]) (q99 8) rfl (Nat.le_of_ble_eq_true rfl) rfl ?_
  exact w
theorem w99_9 {d : Nat} {B : aH} {Q : aR → Prop} (hB : a_Can B) (hd : 1 ≤ d) (x1 x2 x3 : Int) (s : Nat → Nat → Int32) (l : Nat → Nat → Int64) (w : (inR x3 ∧ inR x1 ∧ ((x1 ≤ x3 → Q (.inl (some (iv x2)), (mkH B s l))) ∧ (x3 < x1 → a_W (d - 1) 82 0 [.ref 38, iv 11] [] (mkH B s l) (fun r => ∃ (v6 : Int) (s4 : Nat → Nat → Int32) (l5 : Nat → Nat → Int64), r = (.inl (some (iv v6)), mkH B s4 l5) ∧ a_W (d - 1) 87 0 [.ref 45, iv v6, iv x2, .retAddr 0] [] (mkH B s4 l5) (fun r => ∃ (v9 : Int) (s7 : Nat → Nat → Int32) (l8 : Nat → Nat → Int64), r = (.inl (some (iv v9)), mkH B s7 l8) ∧ a_W d 99 9 [.ref 38, iv x1, iv v9, iv (x3 + 1)] [] (mkH B s7 l8) Q)))))) : a_W d 99 9 [.ref 38, iv x1, iv x2, iv x3] [] (mkH B s l) Q := by
  refine w_iln (p := 10) (q99 9) rfl rfl ?_
  refine w_iln (p := 11) (q99 10) rfl rfl ?_
  obtain ⟨h1, w⟩ := w
  obtain ⟨h2, w⟩ := w
  by_cases c3 : x1 ≤ x3
  · replace w := w.1 c3
    refine w_i2t (q99 11) h1 h2 c3 ?_
    refine w_iln (p := 36) (q99 35) rfl rfl ?_
    exact w_ret (q99 36) rfl w
  · replace w := w.2 (Int.not_le.mp c3)
    refine w_i2f (p := 14) (q99 11) rfl h1 h2 c3 ?_
    refine w_aln (p := 15) (q99 14) rfl rfl ?_
    refine w_gR (p := 18) (j := 5) (v := 45) (q99 15) rfl (r38 hB) (by decide) (f38_5 hB) ?_
    refine w_aln (p := 19) (q99 18) rfl rfl ?_
    refine w_bp (p := 21) (q99 19) rfl (by decide) ?_
    refine w_call (st := [.ref 45]) (as := [.ref 38, iv 11]) (as' := [iv 11, .ref 38]) (p := 24) (q99 21) rfl m82 (by decide) (a_ok_i rfl (r38 hB) rfl) rfl rfl (Nat.le_of_ble_eq_true rfl) (by omega) rfl rfl (a_W.imp w ?_)
    rintro _ ⟨v6, s4, l5, rfl, w⟩
    refine ⟨some (iv v6), _, rfl, ?_⟩
    show a_W _ 99 24 [.ref 38, iv x1, iv x2, iv x3] [iv v6, .ref 45] (mkH B s4 l5) _
    refine w_iln (p := 25) (q99 24) rfl rfl ?_
    refine w_call (st := []) (as := [.ref 45, iv v6, iv x2]) (as' := [iv x2, iv v6, .ref 45]) (p := 28) (q99 25) rfl m87 (by decide) (a_ok_i rfl (r45 hB) rfl) rfl rfl (Nat.le_of_ble_eq_true rfl) (by omega) rfl rfl (a_W.imp w ?_)
    rintro _ ⟨v9, s7, l8, rfl, w⟩
    refine ⟨some (iv v9), _, rfl, ?_⟩
    show a_W _ 99 28 [.ref 38, iv x1, iv x2, iv x3] [iv v9] (mkH B s7 l8) _
    refine w_isn (p := 29) (ls' := [.ref 38, iv x1, iv v9, iv x3]) (q99 28) rfl (Nat.le_of_ble_eq_true rfl) rfl ?_
    refine w_inc (p := 32) (ls' := [.ref 38, iv x1, iv v9, iv (x3 + 1)]) (q99 29) rfl rfl rfl ?_
    refine w_goto (q99 32) ?_
    exact w
theorem w98_0 {d : Nat} {B : aH} {Q : aR → Prop} (hB : a_Can B) (hd : 1 ≤ d) (s : Nat → Nat → Int32) (l : Nat → Nat → Int64) (w : (((zz s 1 6) ≠ 14 → a_W (d - 1) 39 0 [.ref 26, .ref 2, iv (zz s 1 7), iv (zz s 1 8), .retAddr 0, .retAddr 0] [] (mkH B s l) (fun r => ∃ (v4 : Int) (s2 : Nat → Nat → Int32) (l3 : Nat → Nat → Int64), r = (.inl (some (iv v4)), mkH B s2 l3) ∧ (inR v4 ∧ ((v4 < 0 → a_W (d - 1) 86 0 [.ref 45, iv 0, iv 0] [] (mkH B (zu s2 38 9 1) l3) (fun r => ∃ (v9 : Int) (s7 : Nat → Nat → Int32) (l8 : Nat → Nat → Int64), r = (.inl (some (iv v9)), mkH B s7 l8) ∧ Q (.inl (some (iv v9)), (mkH B s7 l8)))) ∧ (0 ≤ v4 → a_W (d - 1) 82 0 [.ref 38, iv v4] [] (mkH B s2 l3) (fun r => ∃ (v12 : Int) (s10 : Nat → Nat → Int32) (l11 : Nat → Nat → Int64), r = (.inl (some (iv v12)), mkH B s10 l11) ∧ Q (.inl (some (iv v12)), (mkH B s10 l11)))))))) ∧ ((zz s 1 6) = 14 → a_W (d - 1) 83 0 [.ref 38, iv 0, iv 6] [] (mkH B s l) (fun r => ∃ (v15 : Int) (s13 : Nat → Nat → Int32) (l14 : Nat → Nat → Int64), r = (.inl (some (iv v15)), mkH B s13 l14) ∧ Q (.inl (some (iv v15)), (mkH B s13 l14)))))) : a_W d 98 0 [.ref 38, .retAddr 0] [] (mkH B s l) Q := by
  refine w_aln (p := 1) (q98 0) rfl rfl ?_
  refine w_gR (p := 4) (j := 0) (v := 1) (q98 1) rfl (r38 hB) (by decide) (f38_0 hB) ?_
  refine w_gI (p := 7) (j := 6) (v := (zz s 1 6)) (q98 4) rfl (r1 hB) (by decide) (iv_zz s 1 6) ?_
  refine w_bp (p := 9) (q98 7) rfl (by decide) ?_
  by_cases c1 : (zz s 1 6) ≠ 14
  · replace w := w.1 c1
    refine w_i2t (q98 9) (inR_zz _ _ _) (by decide) c1 ?_
    refine w_aln (p := 21) (q98 20) rfl rfl ?_
    refine w_gR (p := 24) (j := 1) (v := 25) (q98 21) rfl (r38 hB) (by decide) (f38_1 hB) ?_
    refine w_gR (p := 27) (j := 0) (v := 26) (q98 24) rfl (r25 hB) (by decide) (f25_0 hB) ?_
    refine w_aln (p := 28) (q98 27) rfl rfl ?_
    refine w_gR (p := 31) (j := 0) (v := 1) (q98 28) rfl (r38 hB) (by decide) (f38_0 hB) ?_
    refine w_gR (p := 34) (j := 0) (v := 2) (q98 31) rfl (r1 hB) (by decide) (f1_0 hB) ?_
    refine w_aln (p := 35) (q98 34) rfl rfl ?_
    refine w_gR (p := 38) (j := 0) (v := 1) (q98 35) rfl (r38 hB) (by decide) (f38_0 hB) ?_
    refine w_gI (p := 41) (j := 7) (v := (zz s 1 7)) (q98 38) rfl (r1 hB) (by decide) (iv_zz s 1 7) ?_
    refine w_aln (p := 42) (q98 41) rfl rfl ?_
    refine w_gR (p := 45) (j := 0) (v := 1) (q98 42) rfl (r38 hB) (by decide) (f38_0 hB) ?_
    refine w_gI (p := 48) (j := 8) (v := (zz s 1 8)) (q98 45) rfl (r1 hB) (by decide) (iv_zz s 1 8) ?_
    refine w_call (st := []) (as := [.ref 26, .ref 2, iv (zz s 1 7), iv (zz s 1 8)]) (as' := [iv (zz s 1 8), iv (zz s 1 7), .ref 2, .ref 26]) (p := 51) (q98 48) rfl m39 (by decide) (a_ok_i rfl (r26 hB) rfl) rfl rfl (Nat.le_of_ble_eq_true rfl) (by omega) rfl rfl (a_W.imp w ?_)
    rintro _ ⟨v4, s2, l3, rfl, w⟩
    refine ⟨some (iv v4), _, rfl, ?_⟩
    show a_W _ 98 51 [.ref 38, .retAddr 0] [iv v4] (mkH B s2 l3) _
    refine w_isn (p := 52) (ls' := [.ref 38, iv v4]) (q98 51) rfl (Nat.le_of_ble_eq_true rfl) rfl ?_
    refine w_iln (p := 53) (q98 52) rfl rfl ?_
    obtain ⟨h5, w⟩ := w
    by_cases c6 : v4 < 0
    · replace w := w.1 c6
      refine w_i1t (q98 53) h5 c6 ?_
      refine w_aln (p := 63) (q98 62) rfl rfl ?_
      refine w_ic (p := 64) (q98 63) rfl ?_
      refine w_pI (p := 67) (j := 9) (q98 64) rfl (r38 hB) (by decide) rfl ?_
      refine w_aln (p := 68) (q98 67) rfl rfl ?_
      refine w_gR (p := 71) (j := 5) (v := 45) (q98 68) rfl (r38 hB) (by decide) (f38_5 hB) ?_
      refine w_ic (p := 72) (q98 71) rfl ?_
      refine w_ic (p := 73) (q98 72) rfl ?_
      refine w_call (st := []) (as := [.ref 45, iv 0, iv 0]) (as' := [iv 0, iv 0, .ref 45]) (p := 76) (q98 73) rfl m86 (by decide) (a_ok_i rfl (r45 hB) rfl) rfl rfl (Nat.le_of_ble_eq_true rfl) (by omega) rfl rfl (a_W.imp w ?_)
      rintro _ ⟨v9, s7, l8, rfl, w⟩
      refine ⟨some (iv v9), _, rfl, ?_⟩
      show a_W _ 98 76 [.ref 38, iv v4] [iv v9] (mkH B s7 l8) _
      exact w_ret (q98 76) rfl w
    · replace w := w.2 (Int.not_lt.mp c6)
      refine w_i1f (p := 56) (q98 53) rfl h5 c6 ?_
      refine w_aln (p := 57) (q98 56) rfl rfl ?_
      refine w_iln (p := 58) (q98 57) rfl rfl ?_
      refine w_call (st := []) (as := [.ref 38, iv v4]) (as' := [iv v4, .ref 38]) (p := 61) (q98 58) rfl m82 (by decide) (a_ok_i rfl (r38 hB) rfl) rfl rfl (Nat.le_of_ble_eq_true rfl) (by omega) rfl rfl (a_W.imp w ?_)
      rintro _ ⟨v12, s10, l11, rfl, w⟩
      refine ⟨some (iv v12), _, rfl, ?_⟩
      show a_W _ 98 61 [.ref 38, iv v4] [iv v12] (mkH B s10 l11) _
      exact w_ret (q98 61) rfl w
  · replace w := w.2 (Decidable.not_not.mp c1)
    refine w_i2f (p := 12) (q98 9) rfl (inR_zz _ _ _) (by decide) c1 ?_
    refine w_aln (p := 13) (q98 12) rfl rfl ?_
    refine w_ic (p := 14) (q98 13) rfl ?_
    refine w_bp (p := 16) (q98 14) rfl (by decide) ?_
    refine w_call (st := []) (as := [.ref 38, iv 0, iv 6]) (as' := [iv 6, iv 0, .ref 38]) (p := 19) (q98 16) rfl m83 (by decide) (a_ok_i rfl (r38 hB) rfl) rfl rfl (Nat.le_of_ble_eq_true rfl) (by omega) rfl rfl (a_W.imp w ?_)
    rintro _ ⟨v15, s13, l14, rfl, w⟩
    refine ⟨some (iv v15), _, rfl, ?_⟩
    show a_W _ 98 19 [.ref 38, .retAddr 0] [iv v15] (mkH B s13 l14) _
    exact w_ret (q98 19) rfl w
theorem w100_0 {d : Nat} {B : aH} {Q : aR → Prop} (hB : a_Can B) (hd : 1 ≤ d) (s : Nat → Nat → Int32) (l : Nat → Nat → Int64) (w : a_W (d - 1) 101 0 [.ref 39, .ref 1, .retAddr 0, .retAddr 0] [] (mkH B s l) (fun r => ∃ (v3 : Int) (s1 : Nat → Nat → Int32) (l2 : Nat → Nat → Int64), r = (.inl (some (iv v3)), mkH B s1 l2) ∧ (inR v3 ∧ ((0 ≤ v3 → ((0 ≤ v3 ∧ v3 < 500) ∧ a_W (d - 1) 86 0 [.ref 45, iv (2 * (((zz s1 39 3) - 1) - v3)), iv (zz s1 42 v3.toNat)] [] (mkH B s1 l2) (fun r => ∃ (v9 : Int) (s7 : Nat → Nat → Int32) (l8 : Nat → Nat → Int64), r = (.inl (some (iv v9)), mkH B s7 l8) ∧ Q (.inl (some (iv v9)), (mkH B s7 l8))))) ∧ (v3 < 0 → a_W (d - 1) 98 0 [.ref 38, .retAddr 0] [] (mkH B s1 l2) (fun r => ∃ (v12 : Int) (s10 : Nat → Nat → Int32) (l11 : Nat → Nat → Int64), r = (.inl (some (iv v12)), mkH B s10 l11) ∧ Q (.inl (some (iv v12)), (mkH B s10 l11)))))))) : a_W d 100 0 [.ref 38, .retAddr 0] [] (mkH B s l) Q := by
  refine w_aln (p := 1) (q100 0) rfl rfl ?_
  refine w_gR (p := 4) (j := 4) (v := 39) (q100 1) rfl (r38 hB) (by decide) (f38_4 hB) ?_
  refine w_aln (p := 5) (q100 4) rfl rfl ?_
  refine w_gR (p := 8) (j := 0) (v := 1) (q100 5) rfl (r38 hB) (by decide) (f38_0 hB) ?_
  refine w_call (st := []) (as := [.ref 39, .ref 1]) (as' := [.ref 1, .ref 39]) (p := 11) (q100 8) rfl m101 (by decide) (a_ok_i rfl (r39 hB) rfl) rfl rfl (Nat.le_of_ble_eq_true rfl) (by omega) rfl rfl (a_W.imp w ?_)
  rintro _ ⟨v3, s1, l2, rfl, w⟩
  refine ⟨some (iv v3), _, rfl, ?_⟩
  show a_W _ 100 11 [.ref 38, .retAddr 0] [iv v3] (mkH B s1 l2) _
  refine w_isn (p := 12) (ls' := [.ref 38, iv v3]) (q100 11) rfl (Nat.le_of_ble_eq_true rfl) rfl ?_
  refine w_iln (p := 13) (q100 12) rfl rfl ?_
  obtain ⟨h4, w⟩ := w
  by_cases c5 : 0 ≤ v3
  · replace w := w.1 c5
    refine w_i1t (q100 13) h4 c5 ?_
    refine w_aln (p := 22) (q100 21) rfl rfl ?_
    refine w_gR (p := 25) (j := 5) (v := 45) (q100 22) rfl (r38 hB) (by decide) (f38_5 hB) ?_
    refine w_ic (p := 26) (q100 25) rfl ?_
    refine w_aln (p := 27) (q100 26) rfl rfl ?_
    refine w_gR (p := 30) (j := 4) (v := 39) (q100 27) rfl (r38 hB) (by decide) (f38_4 hB) ?_
    refine w_gI (p := 33) (j := 3) (v := (zz s1 39 3)) (q100 30) rfl (r39 hB) (by decide) (iv_zz s1 39 3) ?_
    refine w_ic (p := 34) (q100 33) rfl ?_
    refine w_sub (p := 35) (q100 34) rfl ?_
    refine w_iln (p := 36) (q100 35) rfl rfl ?_
    refine w_sub (p := 37) (q100 36) rfl ?_
    refine w_mulz (p := 38) (q100 37) rfl ?_
    refine w_aln (p := 39) (q100 38) rfl rfl ?_
    refine w_gR (p := 42) (j := 4) (v := 39) (q100 39) rfl (r38 hB) (by decide) (f38_4 hB) ?_
    refine w_iln (p := 43) (q100 42) rfl rfl ?_
    refine w_call (st := [iv (2 * (((zz s1 39 3) - 1) - v3)), .ref 45]) (as := [.ref 39, iv v3]) (as' := [iv v3, .ref 39]) (p := 46) (q100 43) rfl m79 (by decide) (a_ok_i rfl (r39 hB) rfl) rfl rfl (Nat.le_of_ble_eq_true rfl) (by omega) rfl rfl ?_
    refine w_aln (p := 1) (q79 0) rfl rfl ?_
    refine w_gR (p := 4) (j := 2) (v := 42) (q79 1) rfl (r39 hB) (by decide) (f39_2 hB) ?_
    refine w_iln (p := 5) (q79 4) rfl rfl ?_
    obtain ⟨o6, w⟩ := w
    refine w_ia (p := 6) (v := (zz s1 42 v3.toNat)) (q79 5) rfl (r42 hB) (by decide) o6 (iv_zz s1 42 v3.toNat) ?_
    refine w_ret (q79 6) rfl ⟨_, _, rfl, ?_⟩
    show a_W _ 100 46 [.ref 38, iv v3] [iv (zz s1 42 v3.toNat), iv (2 * (((zz s1 39 3) - 1) - v3)), .ref 45] _ _
    refine w_call (st := []) (as := [.ref 45, iv (2 * (((zz s1 39 3) - 1) - v3)), iv (zz s1 42 v3.toNat)]) (as' := [iv (zz s1 42 v3.toNat), iv (2 * (((zz s1 39 3) - 1) - v3)), .ref 45]) (p := 49) (q100 46) rfl m86 (by decide) (a_ok_i rfl (r45 hB) rfl) rfl rfl (Nat.le_of_ble_eq_true rfl) (by omega) rfl rfl (a_W.imp w ?_)
    rintro _ ⟨v9, s7, l8, rfl, w⟩
    refine ⟨some (iv v9), _, rfl, ?_⟩
    show a_W _ 100 49 [.ref 38, iv v3] [iv v9] (mkH B s7 l8) _
    exact w_ret (q100 49) rfl w
  · replace w := w.2 (Int.not_le.mp c5)
    refine w_i1f (p := 16) (q100 13) rfl h4 c5 ?_
    refine w_aln (p := 17) (q100 16) rfl rfl ?_
    refine w_call (st := []) (as := [.ref 38]) (as' := [.ref 38]) (p := 20) (q100 17) rfl m98 (by decide) (a_ok_i rfl (r38 hB) rfl) rfl rfl (Nat.le_of_ble_eq_true rfl) (by omega) rfl rfl (a_W.imp w ?_)
    rintro _ ⟨v12, s10, l11, rfl, w⟩
    refine ⟨some (iv v12), _, rfl, ?_⟩
    show a_W _ 100 20 [.ref 38, iv v3] [iv v12] (mkH B s10 l11) _
    exact w_ret (q100 20) rfl w
theorem w103_0 {d : Nat} {B : aH} {Q : aR → Prop} (hB : a_Can B) (x1 x2 x3 : Int) (s : Nat → Nat → Int32) (l : Nat → Nat → Int64) (w : a_W d 103 3 [.ref 38, iv x1, iv x2, iv x3, iv x3] [] (mkH B s l) Q) : a_W d 103 0 [.ref 38, iv x1, iv x2, iv x3, .retAddr 0] [] (mkH B s l) Q := by
  refine w_iln (p := 1) (q103 0) rfl rfl ?_
  refine w_is (p := 3) (ls' := [.ref 38, iv x1, iv x2, iv x3, iv x3]) (q103 1) rfl (Nat.le_of_ble_eq_true rfl) rfl ?_
  exact w
theorem w103_3 {d : Nat} {B : aH} {Q : aR → Prop} (hB : a_Can B) (hd : 1 ≤ d) (x1 x2 x3 x4 : Int) (s : Nat → Nat → Int32) (l : Nat → Nat → Int64) (w : (inR x1 ∧ (((zz s 38 8) ≤ x1 → a_W d 103 62 [.ref 38, iv x1, iv x2, iv x3, iv x4] [] (mkH B s l) Q) ∧ (x1 < (zz s 38 8) → ((0 ≤ ((zz s 38 8) - 1) ∧ ((zz s 38 8) - 1) < 3001) ∧ (inR x2 ∧ (((z104 (zz s 44 ((zz s 38 8) - 1).toNat) x2) = 0 → a_W d 103 62 [.ref 38, iv x1, iv x2, iv x3, iv x4] [] (mkH B s l) Q) ∧ ((z104 (zz s 44 ((zz s 38 8) - 1).toNat) x2) ≠ 0 → a_W (d - 1) 87 0 [.ref 45, iv (zz s 43 ((zz s 38 8) - 1).toNat), iv x4, .retAddr 0] [] (mkH B (zu s 38 8 ((zz s 38 8) - 1)) l) (fun r => ∃ (v8 : Int) (s6 : Nat → Nat → Int32) (l7 : Nat → Nat → Int64), r = (.inl (some (iv v8)), mkH B s6 l7) ∧ a_W d 103 3 [.ref 38, iv x1, iv x2, iv x3, iv v8] [] (mkH B s6 l7) Q))))))))) : a_W d 103 3 [.ref 38, iv x1, iv x2, iv x3, iv x4] [] (mkH B s l) Q := by
  refine w_aln (p := 4) (q103 3) rfl rfl ?_
  refine w_gI (p := 7) (j := 8) (v := (zz s 38 8)) (q103 4) rfl (r38 hB) (by decide) (iv_zz s 38 8) ?_
  refine w_iln (p := 8) (q103 7) rfl rfl ?_
  obtain ⟨h1, w⟩ := w
  by_cases c2 : (zz s 38 8) ≤ x1
  · replace w := w.1 c2
    refine w_i2t (q103 8) (inR_zz _ _ _) h1 c2 ?_
    exact w
  · replace w := w.2 (Int.not_le.mp c2)
    refine w_i2f (p := 11) (q103 8) rfl (inR_zz _ _ _) h1 c2 ?_
    refine w_aln (p := 12) (q103 11) rfl rfl ?_
    refine w_gR (p := 15) (j := 7) (v := 44) (q103 12) rfl (r38 hB) (by decide) (f38_7 hB) ?_
    refine w_aln (p := 16) (q103 15) rfl rfl ?_
    refine w_gI (p := 19) (j := 8) (v := (zz s 38 8)) (q103 16) rfl (r38 hB) (by decide) (iv_zz s 38 8) ?_
    refine w_ic (p := 20) (q103 19) rfl ?_
    refine w_sub (p := 21) (q103 20) rfl ?_
    obtain ⟨o3, w⟩ := w
    refine w_ia (p := 22) (v := (zz s 44 ((zz s 38 8) - 1).toNat)) (q103 21) rfl (r44 hB) (by decide) o3 (iv_zz s 44 ((zz s 38 8) - 1).toNat) ?_
    refine w_iln (p := 23) (q103 22) rfl rfl ?_
    obtain ⟨h4, w⟩ := w
    refine w_call (st := []) (as := [iv (zz s 44 ((zz s 38 8) - 1).toNat), iv x2]) (as' := [iv x2, iv (zz s 44 ((zz s 38 8) - 1).toNat)]) (p := 26) (q103 23) rfl m104 (by decide) (a_ok_s rfl rfl) rfl rfl (Nat.le_of_ble_eq_true rfl) (by omega) rfl rfl (a_W.imp (p104 hB (zz s 44 ((zz s 38 8) - 1).toNat) x2 _ _ (inR_zz _ _ _) h4) ?_)
    rintro _ rfl
    refine ⟨_, _, rfl, ?_⟩
    show a_W _ 103 26 [.ref 38, iv x1, iv x2, iv x3, iv x4] [iv (z104 (zz s 44 ((zz s 38 8) - 1).toNat) x2)] _ _
    by_cases c5 : (z104 (zz s 44 ((zz s 38 8) - 1).toNat) x2) = 0
    · replace w := w.1 c5
      refine w_i1t (q103 26) (inR_z104 _ _) c5 ?_
      exact w
    · replace w := w.2 c5
      refine w_i1f (p := 29) (q103 26) rfl (inR_z104 _ _) c5 ?_
      refine w_aln (p := 30) (q103 29) rfl rfl ?_
      refine w_dupr (p := 31) (q103 30) rfl ?_
      refine w_gI (p := 34) (j := 8) (v := (zz s 38 8)) (q103 31) rfl (r38 hB) (by decide) (iv_zz s 38 8) ?_
      refine w_ic (p := 35) (q103 34) rfl ?_
      refine w_sub (p := 36) (q103 35) rfl ?_
      refine w_pI (p := 39) (j := 8) (q103 36) rfl (r38 hB) (by decide) rfl ?_
      refine w_aln (p := 40) (q103 39) rfl rfl ?_
      refine w_gR (p := 43) (j := 5) (v := 45) (q103 40) rfl (r38 hB) (by decide) (f38_5 hB) ?_
      refine w_aln (p := 44) (q103 43) rfl rfl ?_
      refine w_gR (p := 47) (j := 6) (v := 43) (q103 44) rfl (r38 hB) (by decide) (f38_6 hB) ?_
      refine w_aln (p := 48) (q103 47) rfl rfl ?_
      refine w_gI (p := 51) (j := 8) (v := ((zz s 38 8) - 1)) (q103 48) rfl (r38 hB) (by decide) rfl ?_
      refine w_ia (p := 52) (v := (zz s 43 ((zz s 38 8) - 1).toNat)) (q103 51) rfl (r43 hB) (by decide) o3 (iv_zz s 43 ((zz s 38 8) - 1).toNat) ?_
      refine w_il (p := 54) (q103 52) rfl rfl ?_
      refine w_call (st := []) (as := [.ref 45, iv (zz s 43 ((zz s 38 8) - 1).toNat), iv x4]) (as' := [iv x4, iv (zz s 43 ((zz s 38 8) - 1).toNat), .ref 45]) (p := 57) (q103 54) rfl m87 (by decide) (a_ok_i rfl (r45 hB) rfl) rfl rfl (Nat.le_of_ble_eq_true rfl) (by omega) rfl rfl (a_W.imp w ?_)
      rintro _ ⟨v8, s6, l7, rfl, w⟩
      refine ⟨some (iv v8), _, rfl, ?_⟩
      show a_W _ 103 57 [.ref 38, iv x1, iv x2, iv x3, iv x4] [iv v8] (mkH B s6 l7) _
      refine w_is (p := 59) (ls' := [.ref 38, iv x1, iv x2, iv x3, iv v8]) (q103 57) rfl (Nat.le_of_ble_eq_true rfl) rfl ?_
      refine w_goto (q103 59) ?_
      exact w
theorem w103_62 {d : Nat} {B : aH} {Q : aR → Prop} (hB : a_Can B) (x1 x2 x3 x4 : Int) (s : Nat → Nat → Int32) (l : Nat → Nat → Int64) (w : Q (.inl (some (iv x4)), (mkH B s l))) : a_W d 103 62 [.ref 38, iv x1, iv x2, iv x3, iv x4] [] (mkH B s l) Q := by
  refine w_il (p := 64) (q103 62) rfl rfl ?_
  exact w_ret (q103 64) rfl w
theorem w57_0 {d : Nat} {B : aH} {Q : aR → Prop} (hB : a_Can B) (hd : 1 ≤ d) (x1 : Int) (s : Nat → Nat → Int32) (l : Nat → Nat → Int64) (w : a_W (d - 1) 58 0 [.ref 38, iv x1, .retAddr 0, .retAddr 0, .retAddr 0] [] (mkH B s l) (fun r => ∃ (v3 : Int) (s1 : Nat → Nat → Int32) (l2 : Nat → Nat → Int64), r = (.inl (some (iv v3)), mkH B s1 l2) ∧ a_W d 57 14 [.ref 38, iv x1, iv (zz s 38 8), iv v3, iv 0, .retAddr 0] [] (mkH B s1 l2) Q)) : a_W d 57 0 [.ref 38, iv x1, .retAddr 0, .retAddr 0, .retAddr 0, .retAddr 0] [] (mkH B s l) Q := by
  refine w_aln (p := 1) (q57 0) rfl rfl ?_
  refine w_gI (p := 4) (j := 8) (v := (zz s 38 8)) (q57 1) rfl (r38 hB) (by decide) (iv_zz s 38 8) ?_
  refine w_isn (p := 5) (ls' := [.ref 38, iv x1, iv (zz s 38 8), .retAddr 0, .retAddr 0, .retAddr 0]) (q57 4) rfl (Nat.le_of_ble_eq_true rfl) rfl ?_
  refine w_aln (p := 6) (q57 5) rfl rfl ?_
  refine w_iln (p := 7) (q57 6) rfl rfl ?_
  refine w_call (st := []) (as := [.ref 38, iv x1]) (as' := [iv x1, .ref 38]) (p := 10) (q57 7) rfl m58 (by decide) (a_ok_i rfl (r38 hB) rfl) rfl rfl (Nat.le_of_ble_eq_true rfl) (by omega) rfl rfl (a_W.imp w ?_)
  rintro _ ⟨v3, s1, l2, rfl, w⟩
  refine ⟨some (iv v3), _, rfl, ?_⟩
  show a_W _ 57 10 [.ref 38, iv x1, iv (zz s 38 8), .retAddr 0, .retAddr 0, .retAddr 0] [iv v3] (mkH B s1 l2) _
  refine w_isn (p := 11) (ls' := [.ref 38, iv x1, iv (zz s 38 8), iv v3, .retAddr 0, .retAddr 0]) (q57 10) rfl (Nat.le_of_ble_eq_true rfl) rfl ?_
  refine w_ic (p := 12) (q57 11) rfl ?_
  refine w_is (p := 14) (ls' := [.ref 38, iv x1, iv (zz s 38 8), iv v3, iv 0, .retAddr 0]) (q57 12) rfl (Nat.le_of_ble_eq_true rfl) rfl ?_
  exact w
theorem w57_14 {d : Nat} {B : aH} {Q : aR → Prop} (hB : a_Can B) (hd : 2 ≤ d) (x1 x2 x3 x4 : Int) (u5 : Value) (s : Nat → Nat → Int32) (l : Nat → Nat → Int64) (w : (inR x4 ∧ ((6000 ≤ x4 → a_W d 57 132 [.ref 38, iv x1, iv x2, iv x3, iv x4, u5] [] (mkH B s l) Q) ∧ (x4 < 6000 → (((z96 (zz s 1 6)) ≤ 0 → a_W d 57 132 [.ref 38, iv x1, iv x2, iv x3, iv x4, u5] [] (mkH B s l) Q) ∧ (0 < (z96 (zz s 1 6)) → a_W (d - 1) 103 0 [.ref 38, iv x2, iv (z96 (zz s 1 6)), iv x3, .retAddr 0] [] (mkH B s l) (fun r => ∃ (v6 : Int) (s4 : Nat → Nat → Int32) (l5 : Nat → Nat → Int64), r = (.inl (some (iv v6)), mkH B s4 l5) ∧ (((z96 (zz s 1 6)) ≠ 5 → a_W d 57 95 [.ref 38, iv x1, iv x2, iv v6, iv x4, iv (z96 (zz s 1 6))] [] (mkH B s4 l5) Q) ∧ ((z96 (zz s 1 6)) = 5 → (inR x2 ∧ (((zz s4 38 8) ≤ x2 → a_W d 57 95 [.ref 38, iv x1, iv x2, iv v6, iv x4, iv (z96 (zz s 1 6))] [] (mkH B s4 l5) Q) ∧ (x2 < (zz s4 38 8) → ((0 ≤ ((zz s4 38 8) - 1) ∧ ((zz s4 38 8) - 1) < 3001) ∧ (((zz s4 44 ((zz s4 38 8) - 1).toNat) ≠ 5 → a_W d 57 95 [.ref 38, iv x1, iv x2, iv v6, iv x4, iv (z96 (zz s 1 6))] [] (mkH B s4 l5) Q) ∧ ((zz s4 44 ((zz s4 38 8) - 1).toNat) = 5 → (((zz s4 1 10) ≠ 0 → Q (.inl (some (iv v6)), (mkH B s4 l5))) ∧ ((zz s4 1 10) = 0 → Q (.inl (some (iv v6)), (mkH B (zu (zu (zu s4 1 10 2) 1 11 (zz s4 1 7)) 1 6 0) l5))))))))))))))))))) : a_W d 57 14 [.ref 38, iv x1, iv x2, iv x3, iv x4, u5] [] (mkH B s l) Q := by
  refine w_il (p := 16) (q57 14) rfl rfl ?_
  refine w_sp (p := 19) (q57 16) rfl (by decide) ?_
  obtain ⟨h1, w⟩ := w
  by_cases c2 : 6000 ≤ x4
  · replace w := w.1 c2
    refine w_i2t (q57 19) h1 (by decide) c2 ?_
    exact w
  · replace w := w.2 (Int.not_le.mp c2)
    refine w_i2f (p := 22) (q57 19) rfl h1 (by decide) c2 ?_
    refine w_aln (p := 23) (q57 22) rfl rfl ?_
    refine w_gR (p := 26) (j := 0) (v := 1) (q57 23) rfl (r38 hB) (by decide) (f38_0 hB) ?_
    refine w_gI (p := 29) (j := 6) (v := (zz s 1 6)) (q57 26) rfl (r1 hB) (by decide) (iv_zz s 1 6) ?_
    refine w_call (st := []) (as := [iv (zz s 1 6)]) (as' := [iv (zz s 1 6)]) (p := 32) (q57 29) rfl m96 (by decide) (a_ok_s rfl rfl) rfl rfl (Nat.le_of_ble_eq_true rfl) (by omega) rfl rfl (a_W.imp (p96 hB (zz s 1 6) _ _ (inR_zz _ _ _)) ?_)
    rintro _ rfl
    refine ⟨_, _, rfl, ?_⟩
    show a_W _ 57 32 [.ref 38, iv x1, iv x2, iv x3, iv x4, u5] [iv (z96 (zz s 1 6))] _ _
    by_cases c3 : (z96 (zz s 1 6)) ≤ 0
    · replace w := w.1 c3
      refine w_i1t (q57 32) (inR_z96 _) c3 ?_
      exact w
    · replace w := w.2 (Int.not_le.mp c3)
      refine w_i1f (p := 35) (q57 32) rfl (inR_z96 _) c3 ?_
      refine w_aln (p := 36) (q57 35) rfl rfl ?_
      refine w_gR (p := 39) (j := 0) (v := 1) (q57 36) rfl (r38 hB) (by decide) (f38_0 hB) ?_
      refine w_gI (p := 42) (j := 6) (v := (zz s 1 6)) (q57 39) rfl (r1 hB) (by decide) (iv_zz s 1 6) ?_
      refine w_call (st := []) (as := [iv (zz s 1 6)]) (as' := [iv (zz s 1 6)]) (p := 45) (q57 42) rfl m96 (by decide) (a_ok_s rfl rfl) rfl rfl (Nat.le_of_ble_eq_true rfl) (by omega) rfl rfl (a_W.imp (p96 hB (zz s 1 6) _ _ (inR_zz _ _ _)) ?_)
      rintro _ rfl
      refine ⟨_, _, rfl, ?_⟩
      show a_W _ 57 45 [.ref 38, iv x1, iv x2, iv x3, iv x4, u5] [iv (z96 (zz s 1 6))] _ _
      refine w_is (p := 47) (ls' := [.ref 38, iv x1, iv x2, iv x3, iv x4, iv (z96 (zz s 1 6))]) (q57 45) rfl (Nat.le_of_ble_eq_true rfl) rfl ?_
      refine w_aln (p := 48) (q57 47) rfl rfl ?_
      refine w_iln (p := 49) (q57 48) rfl rfl ?_
      refine w_il (p := 51) (q57 49) rfl rfl ?_
      refine w_iln (p := 52) (q57 51) rfl rfl ?_
      refine w_call (st := []) (as := [.ref 38, iv x2, iv (z96 (zz s 1 6)), iv x3]) (as' := [iv x3, iv (z96 (zz s 1 6)), iv x2, .ref 38]) (p := 55) (q57 52) rfl m103 (by decide) (a_ok_i rfl (r38 hB) rfl) rfl rfl (Nat.le_of_ble_eq_true rfl) (by omega) rfl rfl (a_W.imp w ?_)
      rintro _ ⟨v6, s4, l5, rfl, w⟩
      refine ⟨some (iv v6), _, rfl, ?_⟩
      show a_W _ 57 55 [.ref 38, iv x1, iv x2, iv x3, iv x4, iv (z96 (zz s 1 6))] [iv v6] (mkH B s4 l5) _
      refine w_isn (p := 56) (ls' := [.ref 38, iv x1, iv x2, iv v6, iv x4, iv (z96 (zz s 1 6))]) (q57 55) rfl (Nat.le_of_ble_eq_true rfl) rfl ?_
      refine w_il (p := 58) (q57 56) rfl rfl ?_
      refine w_ic (p := 59) (q57 58) rfl ?_
      by_cases c7 : (z96 (zz s 1 6)) ≠ 5
      · replace w := w.1 c7
        refine w_i2t (q57 59) (inR_z96 _) (by decide) c7 ?_
        exact w
      · replace w := w.2 (Decidable.not_not.mp c7)
        refine w_i2f (p := 62) (q57 59) rfl (inR_z96 _) (by decide) c7 ?_
        refine w_aln (p := 63) (q57 62) rfl rfl ?_
        refine w_gI (p := 66) (j := 8) (v := (zz s4 38 8)) (q57 63) rfl (r38 hB) (by decide) (iv_zz s4 38 8) ?_
        refine w_iln (p := 67) (q57 66) rfl rfl ?_
        obtain ⟨h8, w⟩ := w
        by_cases c9 : (zz s4 38 8) ≤ x2
        · replace w := w.1 c9
          refine w_i2t (q57 67) (inR_zz _ _ _) h8 c9 ?_
          exact w
        · replace w := w.2 (Int.not_le.mp c9)
          refine w_i2f (p := 70) (q57 67) rfl (inR_zz _ _ _) h8 c9 ?_
          refine w_aln (p := 71) (q57 70) rfl rfl ?_
          refine w_gR (p := 74) (j := 7) (v := 44) (q57 71) rfl (r38 hB) (by decide) (f38_7 hB) ?_
          refine w_aln (p := 75) (q57 74) rfl rfl ?_
          refine w_gI (p := 78) (j := 8) (v := (zz s4 38 8)) (q57 75) rfl (r38 hB) (by decide) (iv_zz s4 38 8) ?_
          refine w_ic (p := 79) (q57 78) rfl ?_
          refine w_sub (p := 80) (q57 79) rfl ?_
          obtain ⟨o10, w⟩ := w
          refine w_ia (p := 81) (v := (zz s4 44 ((zz s4 38 8) - 1).toNat)) (q57 80) rfl (r44 hB) (by decide) o10 (iv_zz s4 44 ((zz s4 38 8) - 1).toNat) ?_
          refine w_ic (p := 82) (q57 81) rfl ?_
          by_cases c11 : (zz s4 44 ((zz s4 38 8) - 1).toNat) ≠ 5
          · replace w := w.1 c11
            refine w_i2t (q57 82) (inR_zz _ _ _) (by decide) c11 ?_
            exact w
          · replace w := w.2 (Decidable.not_not.mp c11)
            refine w_i2f (p := 85) (q57 82) rfl (inR_zz _ _ _) (by decide) c11 ?_
            refine w_aln (p := 86) (q57 85) rfl rfl ?_
            refine w_gR (p := 89) (j := 0) (v := 1) (q57 86) rfl (r38 hB) (by decide) (f38_0 hB) ?_
            refine w_ic (p := 90) (q57 89) rfl ?_
            refine w_call (st := []) (as := [.ref 1, iv 2]) (as' := [iv 2, .ref 1]) (p := 93) (q57 90) rfl m28 (by decide) (a_ok_i rfl (r1 hB) rfl) rfl rfl (Nat.le_of_ble_eq_true rfl) (by omega) rfl rfl ?_
            refine w_aln (p := 1) (q28 0) rfl rfl ?_
            refine w_iln (p := 2) (q28 1) rfl rfl ?_
            refine w_aln (p := 3) (q28 2) rfl rfl ?_
            refine w_gI (p := 6) (j := 7) (v := (zz s4 1 7)) (q28 3) rfl (r1 hB) (by decide) (iv_zz s4 1 7) ?_
            refine w_call (st := []) (as := [.ref 1, iv 2, iv (zz s4 1 7)]) (as' := [iv (zz s4 1 7), iv 2, .ref 1]) (p := 9) (q28 6) rfl m29 (by decide) (a_ok_i rfl (r1 hB) rfl) rfl rfl (Nat.le_of_ble_eq_true rfl) (by omega) rfl rfl ?_
            refine w_aln (p := 1) (q29 0) rfl rfl ?_
            refine w_gI (p := 4) (j := 10) (v := (zz s4 1 10)) (q29 1) rfl (r1 hB) (by decide) (iv_zz s4 1 10) ?_
            by_cases c12 : (zz s4 1 10) ≠ 0
            · replace w := w.1 c12
              refine w_i1t (q29 4) (inR_zz _ _ _) c12 ?_
              refine w_rv (q29 22) rfl ⟨_, _, rfl, ?_⟩
              show a_W _ 28 9 [.ref 1, iv 2] [] _ _
              refine w_rv (q28 9) rfl ⟨_, _, rfl, ?_⟩
              show a_W _ 57 93 [.ref 38, iv x1, iv x2, iv v6, iv x4, iv (z96 (zz s 1 6))] [] _ _
              refine w_iln (p := 94) (q57 93) rfl rfl ?_
              exact w_ret (q57 94) rfl w
            · replace w := w.2 (Decidable.not_not.mp c12)
              refine w_i1f (p := 7) (q29 4) rfl (inR_zz _ _ _) c12 ?_
              refine w_aln (p := 8) (q29 7) rfl rfl ?_
              refine w_iln (p := 9) (q29 8) rfl rfl ?_
              refine w_pI (p := 12) (j := 10) (q29 9) rfl (r1 hB) (by decide) rfl ?_
              refine w_aln (p := 13) (q29 12) rfl rfl ?_
              refine w_iln (p := 14) (q29 13) rfl rfl ?_
              refine w_pI (p := 17) (j := 11) (q29 14) rfl (r1 hB) (by decide) rfl ?_
              refine w_aln (p := 18) (q29 17) rfl rfl ?_
              refine w_ic (p := 19) (q29 18) rfl ?_
              refine w_pI (p := 22) (j := 6) (q29 19) rfl (r1 hB) (by decide) rfl ?_
              refine w_rv (q29 22) rfl ⟨_, _, rfl, ?_⟩
              show a_W _ 28 9 [.ref 1, iv 2] [] _ _
              refine w_rv (q28 9) rfl ⟨_, _, rfl, ?_⟩
              show a_W _ 57 93 [.ref 38, iv x1, iv x2, iv v6, iv x4, iv (z96 (zz s 1 6))] [] _ _
              refine w_iln (p := 94) (q57 93) rfl rfl ?_
              exact w_ret (q57 94) rfl w
theorem w57_95 {d : Nat} {B : aH} {Q : aR → Prop} (hB : a_Can B) (hd : 1 ≤ d) (x1 x2 x3 x4 x5 : Int) (s : Nat → Nat → Int32) (l : Nat → Nat → Int64) (w : a_W (d - 1) 98 0 [.ref 38, .retAddr 0] [] (mkH B s l) (fun r => ∃ (v3 : Int) (s1 : Nat → Nat → Int32) (l2 : Nat → Nat → Int64), r = (.inl (some (iv v3)), mkH B s1 l2) ∧ a_W (d - 1) 87 0 [.ref 45, iv v3, iv x3, .retAddr 0] [] (mkH B s1 l2) (fun r => ∃ (v6 : Int) (s4 : Nat → Nat → Int32) (l5 : Nat → Nat → Int64), r = (.inl (some (iv v6)), mkH B s4 l5) ∧ ((3001 ≤ (zz s4 38 8) → a_W (d - 1) 24 0 [.ref 1, .retAddr 0] [] (mkH B s4 l5) (fun r => ∃ (s8 : Nat → Nat → Int32) (l9 : Nat → Nat → Int64), r = (.inl none, mkH B s8 l9) ∧ a_W (d - 1) 58 0 [.ref 38, iv x1, .retAddr 0, .retAddr 0, .retAddr 0] [] (mkH B s8 l9) (fun r => ∃ (v12 : Int) (s10 : Nat → Nat → Int32) (l11 : Nat → Nat → Int64), r = (.inl (some (iv v12)), mkH B s10 l11) ∧ a_W d 57 14 [.ref 38, iv x1, iv x2, iv v12, iv (x4 + 1), iv x5] [] (mkH B s10 l11) Q))) ∧ ((zz s4 38 8) < 3001 → ((0 ≤ (zz s4 38 8) ∧ (zz s4 38 8) < 3001) ∧ a_W (d - 1) 24 0 [.ref 1, .retAddr 0] [] (mkH B (zu (zu (zu s4 43 (zz s4 38 8).toNat v6) 44 (zz s4 38 8).toNat x5) 38 8 ((zz s4 38 8) + 1)) l5) (fun r => ∃ (s14 : Nat → Nat → Int32) (l15 : Nat → Nat → Int64), r = (.inl none, mkH B s14 l15) ∧ a_W (d - 1) 58 0 [.ref 38, iv x1, .retAddr 0, .retAddr 0, .retAddr 0] [] (mkH B s14 l15) (fun r => ∃ (v18 : Int) (s16 : Nat → Nat → Int32) (l17 : Nat → Nat → Int64), r = (.inl (some (iv v18)), mkH B s16 l17) ∧ a_W d 57 14 [.ref 38, iv x1, iv x2, iv v18, iv (x4 + 1), iv x5] [] (mkH B s16 l17) Q)))))))) : a_W d 57 95 [.ref 38, iv x1, iv x2, iv x3, iv x4, iv x5] [] (mkH B s l) Q := by
  refine w_aln (p := 96) (q57 95) rfl rfl ?_
  refine w_aln (p := 97) (q57 96) rfl rfl ?_
  refine w_gR (p := 100) (j := 5) (v := 45) (q57 97) rfl (r38 hB) (by decide) (f38_5 hB) ?_
  refine w_aln (p := 101) (q57 100) rfl rfl ?_
  refine w_call (st := [.ref 45, .ref 38]) (as := [.ref 38]) (as' := [.ref 38]) (p := 104) (q57 101) rfl m98 (by decide) (a_ok_i rfl (r38 hB) rfl) rfl rfl (Nat.le_of_ble_eq_true rfl) (by omega) rfl rfl (a_W.imp w ?_)
  rintro _ ⟨v3, s1, l2, rfl, w⟩
  refine ⟨some (iv v3), _, rfl, ?_⟩
  show a_W _ 57 104 [.ref 38, iv x1, iv x2, iv x3, iv x4, iv x5] [iv v3, .ref 45, .ref 38] (mkH B s1 l2) _
  refine w_iln (p := 105) (q57 104) rfl rfl ?_
  refine w_call (st := [.ref 38]) (as := [.ref 45, iv v3, iv x3]) (as' := [iv x3, iv v3, .ref 45]) (p := 108) (q57 105) rfl m87 (by decide) (a_ok_i rfl (r45 hB) rfl) rfl rfl (Nat.le_of_ble_eq_true rfl) (by omega) rfl rfl (a_W.imp w ?_)
  rintro _ ⟨v6, s4, l5, rfl, w⟩
  refine ⟨some (iv v6), _, rfl, ?_⟩
  show a_W _ 57 108 [.ref 38, iv x1, iv x2, iv x3, iv x4, iv x5] [iv v6, .ref 38] (mkH B s4 l5) _
  refine w_il (p := 110) (q57 108) rfl rfl ?_
  refine w_call (st := []) (as := [.ref 38, iv v6, iv x5]) (as' := [iv x5, iv v6, .ref 38]) (p := 113) (q57 110) rfl m105 (by decide) (a_ok_i rfl (r38 hB) rfl) rfl rfl (Nat.le_of_ble_eq_true rfl) (by omega) rfl rfl ?_
  refine w_aln (p := 1) (q105 0) rfl rfl ?_
  refine w_gI (p := 4) (j := 8) (v := (zz s4 38 8)) (q105 1) rfl (r38 hB) (by decide) (iv_zz s4 38 8) ?_
  refine w_sp (p := 7) (q105 4) rfl (by decide) ?_
  by_cases c7 : 3001 ≤ (zz s4 38 8)
  · replace w := w.1 c7
    refine w_i2t (q105 7) (inR_zz _ _ _) (by decide) c7 ?_
    refine w_rv (q105 40) rfl ⟨_, _, rfl, ?_⟩
    show a_W _ 57 113 [.ref 38, iv x1, iv x2, iv x3, iv x4, iv x5] [] _ _
    refine w_aln (p := 114) (q57 113) rfl rfl ?_
    refine w_gR (p := 117) (j := 0) (v := 1) (q57 114) rfl (r38 hB) (by decide) (f38_0 hB) ?_
    refine w_call (st := []) (as := [.ref 1]) (as' := [.ref 1]) (p := 120) (q57 117) rfl m24 (by decide) (a_ok_i rfl (r1 hB) rfl) rfl rfl (Nat.le_of_ble_eq_true rfl) (by omega) rfl rfl (a_W.imp w ?_)
    rintro _ ⟨s8, l9, rfl, w⟩
    refine ⟨none, _, rfl, ?_⟩
    show a_W _ 57 120 [.ref 38, iv x1, iv x2, iv x3, iv x4, iv x5] [] (mkH B s8 l9) _
    refine w_aln (p := 121) (q57 120) rfl rfl ?_
    refine w_iln (p := 122) (q57 121) rfl rfl ?_
    refine w_call (st := []) (as := [.ref 38, iv x1]) (as' := [iv x1, .ref 38]) (p := 125) (q57 122) rfl m58 (by decide) (a_ok_i rfl (r38 hB) rfl) rfl rfl (Nat.le_of_ble_eq_true rfl) (by omega) rfl rfl (a_W.imp w ?_)
    rintro _ ⟨v12, s10, l11, rfl, w⟩
    refine ⟨some (iv v12), _, rfl, ?_⟩
    show a_W _ 57 125 [.ref 38, iv x1, iv x2, iv x3, iv x4, iv x5] [iv v12] (mkH B s10 l11) _
    refine w_isn (p := 126) (ls' := [.ref 38, iv x1, iv x2, iv v12, iv x4, iv x5]) (q57 125) rfl (Nat.le_of_ble_eq_true rfl) rfl ?_
    refine w_inc (p := 129) (ls' := [.ref 38, iv x1, iv x2, iv v12, iv (x4 + 1), iv x5]) (q57 126) rfl rfl rfl ?_
    refine w_goto (q57 129) ?_
    exact w
  · replace w := w.2 (Int.not_le.mp c7)
    refine w_i2f (p := 10) (q105 7) rfl (inR_zz _ _ _) (by decide) c7 ?_
    refine w_aln (p := 11) (q105 10) rfl rfl ?_
    refine w_gR (p := 14) (j := 6) (v := 43) (q105 11) rfl (r38 hB) (by decide) (f38_6 hB) ?_
    refine w_aln (p := 15) (q105 14) rfl rfl ?_
    refine w_gI (p := 18) (j := 8) (v := (zz s4 38 8)) (q105 15) rfl (r38 hB) (by decide) (iv_zz s4 38 8) ?_
    refine w_iln (p := 19) (q105 18) rfl rfl ?_
    obtain ⟨o13, w⟩ := w
    refine w_ias (p := 20) (q105 19) rfl (r43 hB) (by decide) o13 ?_
    refine w_aln (p := 21) (q105 20) rfl rfl ?_
    refine w_gR (p := 24) (j := 7) (v := 44) (q105 21) rfl (r38 hB) (by decide) (f38_7 hB) ?_
    refine w_aln (p := 25) (q105 24) rfl rfl ?_
    refine w_gI (p := 28) (j := 8) (v := (zz s4 38 8)) (q105 25) rfl (r38 hB) (by decide) (iv_zz s4 38 8) ?_
    refine w_iln (p := 29) (q105 28) rfl rfl ?_
    refine w_ias (p := 30) (q105 29) rfl (r44 hB) (by decide) o13 ?_
    refine w_aln (p := 31) (q105 30) rfl rfl ?_
    refine w_dupr (p := 32) (q105 31) rfl ?_
    refine w_gI (p := 35) (j := 8) (v := (zz s4 38 8)) (q105 32) rfl (r38 hB) (by decide) (iv_zz s4 38 8) ?_
    refine w_ic (p := 36) (q105 35) rfl ?_
    refine w_add (p := 37) (q105 36) rfl ?_
    refine w_pI (p := 40) (j := 8) (q105 37) rfl (r38 hB) (by decide) rfl ?_
    refine w_rv (q105 40) rfl ⟨_, _, rfl, ?_⟩
    show a_W _ 57 113 [.ref 38, iv x1, iv x2, iv x3, iv x4, iv x5] [] _ _
    refine w_aln (p := 114) (q57 113) rfl rfl ?_
    refine w_gR (p := 117) (j := 0) (v := 1) (q57 114) rfl (r38 hB) (by decide) (f38_0 hB) ?_
    refine w_call (st := []) (as := [.ref 1]) (as' := [.ref 1]) (p := 120) (q57 117) rfl m24 (by decide) (a_ok_i rfl (r1 hB) rfl) rfl rfl (Nat.le_of_ble_eq_true rfl) (by omega) rfl rfl (a_W.imp w ?_)
    rintro _ ⟨s14, l15, rfl, w⟩
    refine ⟨none, _, rfl, ?_⟩
    show a_W _ 57 120 [.ref 38, iv x1, iv x2, iv x3, iv x4, iv x5] [] (mkH B s14 l15) _
    refine w_aln (p := 121) (q57 120) rfl rfl ?_
    refine w_iln (p := 122) (q57 121) rfl rfl ?_
    refine w_call (st := []) (as := [.ref 38, iv x1]) (as' := [iv x1, .ref 38]) (p := 125) (q57 122) rfl m58 (by decide) (a_ok_i rfl (r38 hB) rfl) rfl rfl (Nat.le_of_ble_eq_true rfl) (by omega) rfl rfl (a_W.imp w ?_)
    rintro _ ⟨v18, s16, l17, rfl, w⟩
    refine ⟨some (iv v18), _, rfl, ?_⟩
    show a_W _ 57 125 [.ref 38, iv x1, iv x2, iv x3, iv x4, iv x5] [iv v18] (mkH B s16 l17) _
    refine w_isn (p := 126) (ls' := [.ref 38, iv x1, iv x2, iv v18, iv x4, iv x5]) (q57 125) rfl (Nat.le_of_ble_eq_true rfl) rfl ?_
    refine w_inc (p := 129) (ls' := [.ref 38, iv x1, iv x2, iv v18, iv (x4 + 1), iv x5]) (q57 126) rfl rfl rfl ?_
    refine w_goto (q57 129) ?_
    exact w
theorem w57_132 {d : Nat} {B : aH} {Q : aR → Prop} (hB : a_Can B) (hd : 1 ≤ d) (x1 x2 x3 x4 : Int) (u5 : Value) (s : Nat → Nat → Int32) (l : Nat → Nat → Int64) (w : a_W (d - 1) 103 0 [.ref 38, iv x2, iv 0, iv x3, .retAddr 0] [] (mkH B s l) (fun r => ∃ (v3 : Int) (s1 : Nat → Nat → Int32) (l2 : Nat → Nat → Int64), r = (.inl (some (iv v3)), mkH B s1 l2) ∧ Q (.inl (some (iv v3)), (mkH B s1 l2)))) : a_W d 57 132 [.ref 38, iv x1, iv x2, iv x3, iv x4, u5] [] (mkH B s l) Q := by
  refine w_aln (p := 133) (q57 132) rfl rfl ?_
  refine w_iln (p := 134) (q57 133) rfl rfl ?_
  refine w_ic (p := 135) (q57 134) rfl ?_
  refine w_iln (p := 136) (q57 135) rfl rfl ?_
  refine w_call (st := []) (as := [.ref 38, iv x2, iv 0, iv x3]) (as' := [iv x3, iv 0, iv x2, .ref 38]) (p := 139) (q57 136) rfl m103 (by decide) (a_ok_i rfl (r38 hB) rfl) rfl rfl (Nat.le_of_ble_eq_true rfl) (by omega) rfl rfl (a_W.imp w ?_)
  rintro _ ⟨v3, s1, l2, rfl, w⟩
  refine ⟨some (iv v3), _, rfl, ?_⟩
  show a_W _ 57 139 [.ref 38, iv x1, iv x2, iv x3, iv x4, u5] [iv v3] (mkH B s1 l2) _
  exact w_ret (q57 139) rfl w
theorem w58_0 {d : Nat} {B : aH} {Q : aR → Prop} (hB : a_Can B) (x1 : Int) (s : Nat → Nat → Int32) (l : Nat → Nat → Int64) (w : a_W d 58 2 [.ref 38, iv x1, iv 0, .retAddr 0, .retAddr 0] [] (mkH B s l) Q) : a_W d 58 0 [.ref 38, iv x1, .retAddr 0, .retAddr 0, .retAddr 0] [] (mkH B s l) Q := by
  refine w_ic (p := 1) (q58 0) rfl ?_
  refine w_isn (p := 2) (ls' := [.ref 38, iv x1, iv 0, .retAddr 0, .retAddr 0]) (q58 1) rfl (Nat.le_of_ble_eq_true rfl) rfl ?_
  exact w
theorem w58_2 {d : Nat} {B : aH} {Q : aR → Prop} (hB : a_Can B) (hd : 1 ≤ d) (x1 x2 : Int) (s : Nat → Nat → Int32) (l : Nat → Nat → Int64) (w : (inR x2 ∧ ((6000 ≤ x2 → a_W d 58 34 [.ref 38, iv x1, iv x2, .retAddr 0, .retAddr 0] [] (mkH B s l) Q) ∧ (x2 < 6000 → (((zz s 1 6) ≠ 13 → a_W d 58 34 [.ref 38, iv x1, iv x2, .retAddr 0, .retAddr 0] [] (mkH B s l) Q) ∧ ((zz s 1 6) = 13 → a_W (d - 1) 24 0 [.ref 1, .retAddr 0] [] (mkH B s l) (fun r => ∃ (s4 : Nat → Nat → Int32) (l5 : Nat → Nat → Int64), r = (.inl none, mkH B s4 l5) ∧ a_W d 58 2 [.ref 38, iv x1, iv (x2 + 1), .retAddr 0, .retAddr 0] [] (mkH B s4 l5) Q))))))) : a_W d 58 2 [.ref 38, iv x1, iv x2, .retAddr 0, .retAddr 0] [] (mkH B s l) Q := by
  refine w_iln (p := 3) (q58 2) rfl rfl ?_
  refine w_sp (p := 6) (q58 3) rfl (by decide) ?_
  obtain ⟨h1, w⟩ := w
  by_cases c2 : 6000 ≤ x2
  · replace w := w.1 c2
    refine w_i2t (q58 6) h1 (by decide) c2 ?_
    exact w
  · replace w := w.2 (Int.not_le.mp c2)
    refine w_i2f (p := 9) (q58 6) rfl h1 (by decide) c2 ?_
    refine w_aln (p := 10) (q58 9) rfl rfl ?_
    refine w_gR (p := 13) (j := 0) (v := 1) (q58 10) rfl (r38 hB) (by decide) (f38_0 hB) ?_
    refine w_gI (p := 16) (j := 6) (v := (zz s 1 6)) (q58 13) rfl (r1 hB) (by decide) (iv_zz s 1 6) ?_
    refine w_bp (p := 18) (q58 16) rfl (by decide) ?_
    by_cases c3 : (zz s 1 6) ≠ 13
    · replace w := w.1 c3
      refine w_i2t (q58 18) (inR_zz _ _ _) (by decide) c3 ?_
      exact w
    · replace w := w.2 (Decidable.not_not.mp c3)
      refine w_i2f (p := 21) (q58 18) rfl (inR_zz _ _ _) (by decide) c3 ?_
      refine w_inc (p := 24) (ls' := [.ref 38, iv x1, iv (x2 + 1), .retAddr 0, .retAddr 0]) (q58 21) rfl rfl rfl ?_
      refine w_aln (p := 25) (q58 24) rfl rfl ?_
      refine w_gR (p := 28) (j := 0) (v := 1) (q58 25) rfl (r38 hB) (by decide) (f38_0 hB) ?_
      refine w_call (st := []) (as := [.ref 1]) (as' := [.ref 1]) (p := 31) (q58 28) rfl m24 (by decide) (a_ok_i rfl (r1 hB) rfl) rfl rfl (Nat.le_of_ble_eq_true rfl) (by omega) rfl rfl (a_W.imp w ?_)
      rintro _ ⟨s4, l5, rfl, w⟩
      refine ⟨none, _, rfl, ?_⟩
      show a_W _ 58 31 [.ref 38, iv x1, iv (x2 + 1), .retAddr 0, .retAddr 0] [] (mkH B s4 l5) _
      refine w_goto (q58 31) ?_
      exact w
theorem w58_34 {d : Nat} {B : aH} {Q : aR → Prop} (hB : a_Can B) (hd : 1 ≤ d) (x1 x2 : Int) (s : Nat → Nat → Int32) (l : Nat → Nat → Int64) (w : (((z59 (zz s 1 6)) = 0 → a_W (d - 1) 92 0 [.ref 38, iv x1, .retAddr 0, .retAddr 0] [] (mkH B s l) (fun r => ∃ (v4 : Int) (s2 : Nat → Nat → Int32) (l3 : Nat → Nat → Int64), r = (.inl (some (iv v4)), mkH B s2 l3) ∧ a_W d 58 64 [.ref 38, iv x1, iv x2, iv v4, iv 0] [] (mkH B s2 l3) Q)) ∧ ((z59 (zz s 1 6)) ≠ 0 → a_W (d - 1) 60 0 [.ref 38, iv x1, .retAddr 0, .retAddr 0, .retAddr 0] [] (mkH B s l) (fun r => ∃ (v7 : Int) (s5 : Nat → Nat → Int32) (l6 : Nat → Nat → Int64), r = (.inl (some (iv v7)), mkH B s5 l6) ∧ a_W d 58 64 [.ref 38, iv x1, iv x2, iv v7, iv 0] [] (mkH B s5 l6) Q)))) : a_W d 58 34 [.ref 38, iv x1, iv x2, .retAddr 0, .retAddr 0] [] (mkH B s l) Q := by
  refine w_aln (p := 35) (q58 34) rfl rfl ?_
  refine w_gR (p := 38) (j := 0) (v := 1) (q58 35) rfl (r38 hB) (by decide) (f38_0 hB) ?_
  refine w_gI (p := 41) (j := 6) (v := (zz s 1 6)) (q58 38) rfl (r1 hB) (by decide) (iv_zz s 1 6) ?_
  refine w_call (st := []) (as := [iv (zz s 1 6)]) (as' := [iv (zz s 1 6)]) (p := 44) (q58 41) rfl m59 (by decide) (a_ok_s rfl rfl) rfl rfl (Nat.le_of_ble_eq_true rfl) (by omega) rfl rfl (a_W.imp (p59 hB (zz s 1 6) _ _ (inR_zz _ _ _)) ?_)
  rintro _ rfl
  refine ⟨_, _, rfl, ?_⟩
  show a_W _ 58 44 [.ref 38, iv x1, iv x2, .retAddr 0, .retAddr 0] [iv (z59 (zz s 1 6))] _ _
  by_cases c1 : (z59 (zz s 1 6)) = 0
  · replace w := w.1 c1
    refine w_i1t (q58 44) (inR_z59 _) c1 ?_
    refine w_aln (p := 56) (q58 55) rfl rfl ?_
    refine w_iln (p := 57) (q58 56) rfl rfl ?_
    refine w_call (st := []) (as := [.ref 38, iv x1]) (as' := [iv x1, .ref 38]) (p := 60) (q58 57) rfl m92 (by decide) (a_ok_i rfl (r38 hB) rfl) rfl rfl (Nat.le_of_ble_eq_true rfl) (by omega) rfl rfl (a_W.imp w ?_)
    rintro _ ⟨v4, s2, l3, rfl, w⟩
    refine ⟨some (iv v4), _, rfl, ?_⟩
    show a_W _ 58 60 [.ref 38, iv x1, iv x2, .retAddr 0, .retAddr 0] [iv v4] (mkH B s2 l3) _
    refine w_isn (p := 61) (ls' := [.ref 38, iv x1, iv x2, iv v4, .retAddr 0]) (q58 60) rfl (Nat.le_of_ble_eq_true rfl) rfl ?_
    refine w_ic (p := 62) (q58 61) rfl ?_
    refine w_is (p := 64) (ls' := [.ref 38, iv x1, iv x2, iv v4, iv 0]) (q58 62) rfl (Nat.le_of_ble_eq_true rfl) rfl ?_
    exact w
  · replace w := w.2 c1
    refine w_i1f (p := 47) (q58 44) rfl (inR_z59 _) c1 ?_
    refine w_aln (p := 48) (q58 47) rfl rfl ?_
    refine w_iln (p := 49) (q58 48) rfl rfl ?_
    refine w_call (st := []) (as := [.ref 38, iv x1]) (as' := [iv x1, .ref 38]) (p := 52) (q58 49) rfl m60 (by decide) (a_ok_i rfl (r38 hB) rfl) rfl rfl (Nat.le_of_ble_eq_true rfl) (by omega) rfl rfl (a_W.imp w ?_)
    rintro _ ⟨v7, s5, l6, rfl, w⟩
    refine ⟨some (iv v7), _, rfl, ?_⟩
    show a_W _ 58 52 [.ref 38, iv x1, iv x2, .retAddr 0, .retAddr 0] [iv v7] (mkH B s5 l6) _
    refine w_goto (q58 52) ?_
    refine w_isn (p := 61) (ls' := [.ref 38, iv x1, iv x2, iv v7, .retAddr 0]) (q58 60) rfl (Nat.le_of_ble_eq_true rfl) rfl ?_
    refine w_ic (p := 62) (q58 61) rfl ?_
    refine w_is (p := 64) (ls' := [.ref 38, iv x1, iv x2, iv v7, iv 0]) (q58 62) rfl (Nat.le_of_ble_eq_true rfl) rfl ?_
    exact w
theorem w58_64 {d : Nat} {B : aH} {Q : aR → Prop} (hB : a_Can B) (hd : 1 ≤ d) (x1 x2 x3 x4 : Int) (s : Nat → Nat → Int32) (l : Nat → Nat → Int64) (w : (inR x4 ∧ inR x2 ∧ ((x2 ≤ x4 → Q (.inl (some (iv x3)), (mkH B s l))) ∧ (x4 < x2 → a_W (d - 1) 82 0 [.ref 38, iv 3] [] (mkH B s l) (fun r => ∃ (v6 : Int) (s4 : Nat → Nat → Int32) (l5 : Nat → Nat → Int64), r = (.inl (some (iv v6)), mkH B s4 l5) ∧ a_W (d - 1) 87 0 [.ref 45, iv v6, iv x3, .retAddr 0] [] (mkH B s4 l5) (fun r => ∃ (v9 : Int) (s7 : Nat → Nat → Int32) (l8 : Nat → Nat → Int64), r = (.inl (some (iv v9)), mkH B s7 l8) ∧ a_W d 58 64 [.ref 38, iv x1, iv x2, iv v9, iv (x4 + 1)] [] (mkH B s7 l8) Q)))))) : a_W d 58 64 [.ref 38, iv x1, iv x2, iv x3, iv x4] [] (mkH B s l) Q := by
  refine w_il (p := 66) (q58 64) rfl rfl ?_
  refine w_iln (p := 67) (q58 66) rfl rfl ?_
  obtain ⟨h1, w⟩ := w
  obtain ⟨h2, w⟩ := w
  by_cases c3 : x2 ≤ x4
  · replace w := w.1 c3
    refine w_i2t (q58 67) h1 h2 c3 ?_
    refine w_iln (p := 91) (q58 90) rfl rfl ?_
    exact w_ret (q58 91) rfl w
  · replace w := w.2 (Int.not_le.mp c3)
    refine w_i2f (p := 70) (q58 67) rfl h1 h2 c3 ?_
    refine w_aln (p := 71) (q58 70) rfl rfl ?_
    refine w_gR (p := 74) (j := 5) (v := 45) (q58 71) rfl (r38 hB) (by decide) (f38_5 hB) ?_
    refine w_aln (p := 75) (q58 74) rfl rfl ?_
    refine w_ic (p := 76) (q58 75) rfl ?_
    refine w_call (st := [.ref 45]) (as := [.ref 38, iv 3]) (as' := [iv 3, .ref 38]) (p := 79) (q58 76) rfl m82 (by decide) (a_ok_i rfl (r38 hB) rfl) rfl rfl (Nat.le_of_ble_eq_true rfl) (by omega) rfl rfl (a_W.imp w ?_)
    rintro _ ⟨v6, s4, l5, rfl, w⟩
    refine ⟨some (iv v6), _, rfl, ?_⟩
    show a_W _ 58 79 [.ref 38, iv x1, iv x2, iv x3, iv x4] [iv v6, .ref 45] (mkH B s4 l5) _
    refine w_iln (p := 80) (q58 79) rfl rfl ?_
    refine w_call (st := []) (as := [.ref 45, iv v6, iv x3]) (as' := [iv x3, iv v6, .ref 45]) (p := 83) (q58 80) rfl m87 (by decide) (a_ok_i rfl (r45 hB) rfl) rfl rfl (Nat.le_of_ble_eq_true rfl) (by omega) rfl rfl (a_W.imp w ?_)
    rintro _ ⟨v9, s7, l8, rfl, w⟩
    refine ⟨some (iv v9), _, rfl, ?_⟩
    show a_W _ 58 83 [.ref 38, iv x1, iv x2, iv x3, iv x4] [iv v9] (mkH B s7 l8) _
    refine w_isn (p := 84) (ls' := [.ref 38, iv x1, iv x2, iv v9, iv x4]) (q58 83) rfl (Nat.le_of_ble_eq_true rfl) rfl ?_
    refine w_inc (p := 87) (ls' := [.ref 38, iv x1, iv x2, iv v9, iv (x4 + 1)]) (q58 84) rfl rfl rfl ?_
    refine w_goto (q58 87) ?_
    exact w
theorem w92_0 {d : Nat} {B : aH} {Q : aR → Prop} (hB : a_Can B) (hd : 1 ≤ d) (x1 : Int) (s : Nat → Nat → Int32) (l : Nat → Nat → Int64) (w : a_W (d - 1) 93 0 [.ref 38, iv x1, .retAddr 0] [] (mkH B s l) (fun r => ∃ (v3 : Int) (s1 : Nat → Nat → Int32) (l2 : Nat → Nat → Int64), r = (.inl (some (iv v3)), mkH B s1 l2) ∧ a_W d 92 8 [.ref 38, iv x1, iv v3, iv 0] [] (mkH B s1 l2) Q)) : a_W d 92 0 [.ref 38, iv x1, .retAddr 0, .retAddr 0] [] (mkH B s l) Q := by
  refine w_aln (p := 1) (q92 0) rfl rfl ?_
  refine w_iln (p := 2) (q92 1) rfl rfl ?_
  refine w_call (st := []) (as := [.ref 38, iv x1]) (as' := [iv x1, .ref 38]) (p := 5) (q92 2) rfl m93 (by decide) (a_ok_i rfl (r38 hB) rfl) rfl rfl (Nat.le_of_ble_eq_true rfl) (by omega) rfl rfl (a_W.imp w ?_)
  rintro _ ⟨v3, s1, l2, rfl, w⟩
  refine ⟨some (iv v3), _, rfl, ?_⟩
  show a_W _ 92 5 [.ref 38, iv x1, .retAddr 0, .retAddr 0] [iv v3] (mkH B s1 l2) _
  refine w_isn (p := 6) (ls' := [.ref 38, iv x1, iv v3, .retAddr 0]) (q92 5) rfl (Nat.le_of_ble_eq_true rfl) rfl ?_
  refine w_ic (p := 7) (q92 6) rfl ?_
  refine w_isn (p := 8) (ls' := [.ref 38, iv x1, iv v3, iv 0]) (q92 7) rfl (Nat.le_of_ble_eq_true rfl) rfl ?_
  exact w
theorem w92_8 {d : Nat} {B : aH} {Q : aR → Prop} (hB : a_Can B) (hd : 1 ≤ d) (x1 x2 x3 : Int) (s : Nat → Nat → Int32) (l : Nat → Nat → Int64) (w : (inR x3 ∧ ((6000 ≤ x3 → a_W d 92 48 [.ref 38, iv x1, iv x2, iv x3] [] (mkH B s l) Q) ∧ (x3 < 6000 → (((z102 (zz s 1 6)) = 0 → a_W d 92 48 [.ref 38, iv x1, iv x2, iv x3] [] (mkH B s l) Q) ∧ ((z102 (zz s 1 6)) ≠ 0 → a_W (d - 1) 93 0 [.ref 38, iv x1, .retAddr 0] [] (mkH B s l) (fun r => ∃ (v6 : Int) (s4 : Nat → Nat → Int32) (l5 : Nat → Nat → Int64), r = (.inl (some (iv v6)), mkH B s4 l5) ∧ a_W (d - 1) 87 0 [.ref 45, iv x2, iv v6, .retAddr 0] [] (mkH B s4 l5) (fun r => ∃ (v9 : Int) (s7 : Nat → Nat → Int32) (l8 : Nat → Nat → Int64), r = (.inl (some (iv v9)), mkH B s7 l8) ∧ a_W d 92 8 [.ref 38, iv x1, iv v9, iv (x3 + 1)] [] (mkH B s7 l8) Q)))))))) : a_W d 92 8 [.ref 38, iv x1, iv x2, iv x3] [] (mkH B s l) Q := by
  refine w_iln (p := 9) (q92 8) rfl rfl ?_
  refine w_sp (p := 12) (q92 9) rfl (by decide) ?_
  obtain ⟨h1, w⟩ := w
  by_cases c2 : 6000 ≤ x3
  · replace w := w.1 c2
    refine w_i2t (q92 12) h1 (by decide) c2 ?_
    exact w
  · replace w := w.2 (Int.not_le.mp c2)
    refine w_i2f (p := 15) (q92 12) rfl h1 (by decide) c2 ?_
    refine w_aln (p := 16) (q92 15) rfl rfl ?_
    refine w_gR (p := 19) (j := 0) (v := 1) (q92 16) rfl (r38 hB) (by decide) (f38_0 hB) ?_
    refine w_gI (p := 22) (j := 6) (v := (zz s 1 6)) (q92 19) rfl (r1 hB) (by decide) (iv_zz s 1 6) ?_
    refine w_call (st := []) (as := [iv (zz s 1 6)]) (as' := [iv (zz s 1 6)]) (p := 25) (q92 22) rfl m102 (by decide) (a_ok_s rfl rfl) rfl rfl (Nat.le_of_ble_eq_true rfl) (by omega) rfl rfl (a_W.imp (p102 hB (zz s 1 6) _ _ (inR_zz _ _ _)) ?_)
    rintro _ rfl
    refine ⟨_, _, rfl, ?_⟩
    show a_W _ 92 25 [.ref 38, iv x1, iv x2, iv x3] [iv (z102 (zz s 1 6))] _ _
    by_cases c3 : (z102 (zz s 1 6)) = 0
    · replace w := w.1 c3
      refine w_i1t (q92 25) (inR_z102 _) c3 ?_
      exact w
    · replace w := w.2 c3
      refine w_i1f (p := 28) (q92 25) rfl (inR_z102 _) c3 ?_
      refine w_aln (p := 29) (q92 28) rfl rfl ?_
      refine w_gR (p := 32) (j := 5) (v := 45) (q92 29) rfl (r38 hB) (by decide) (f38_5 hB) ?_
      refine w_iln (p := 33) (q92 32) rfl rfl ?_
      refine w_aln (p := 34) (q92 33) rfl rfl ?_
      refine w_iln (p := 35) (q92 34) rfl rfl ?_
      refine w_call (st := [iv x2, .ref 45]) (as := [.ref 38, iv x1]) (as' := [iv x1, .ref 38]) (p := 38) (q92 35) rfl m93 (by decide) (a_ok_i rfl (r38 hB) rfl) rfl rfl (Nat.le_of_ble_eq_true rfl) (by omega) rfl rfl (a_W.imp w ?_)
      rintro _ ⟨v6, s4, l5, rfl, w⟩
      refine ⟨some (iv v6), _, rfl, ?_⟩
      show a_W _ 92 38 [.ref 38, iv x1, iv x2, iv x3] [iv v6, iv x2, .ref 45] (mkH B s4 l5) _
      refine w_call (st := []) (as := [.ref 45, iv x2, iv v6]) (as' := [iv v6, iv x2, .ref 45]) (p := 41) (q92 38) rfl m87 (by decide) (a_ok_i rfl (r45 hB) rfl) rfl rfl (Nat.le_of_ble_eq_true rfl) (by omega) rfl rfl (a_W.imp w ?_)
      rintro _ ⟨v9, s7, l8, rfl, w⟩
      refine ⟨some (iv v9), _, rfl, ?_⟩
      show a_W _ 92 41 [.ref 38, iv x1, iv x2, iv x3] [iv v9] (mkH B s7 l8) _
      refine w_isn (p := 42) (ls' := [.ref 38, iv x1, iv v9, iv x3]) (q92 41) rfl (Nat.le_of_ble_eq_true rfl) rfl ?_
      refine w_inc (p := 45) (ls' := [.ref 38, iv x1, iv v9, iv (x3 + 1)]) (q92 42) rfl rfl rfl ?_
      refine w_goto (q92 45) ?_
      exact w
theorem w92_48 {d : Nat} {B : aH} {Q : aR → Prop} (hB : a_Can B) (x1 x2 x3 : Int) (s : Nat → Nat → Int32) (l : Nat → Nat → Int64) (w : Q (.inl (some (iv x2)), (mkH B s l))) : a_W d 92 48 [.ref 38, iv x1, iv x2, iv x3] [] (mkH B s l) Q := by
  refine w_iln (p := 49) (q92 48) rfl rfl ?_
  exact w_ret (q92 49) rfl w
theorem w93_0 {d : Nat} {B : aH} {Q : aR → Prop} (hB : a_Can B) (hd : 1 ≤ d) (x1 : Int) (s : Nat → Nat → Int32) (l : Nat → Nat → Int64) (w : (((zz s 1 6) ≠ 4 → (((zz s 1 6) ≠ 3 → (((zz s 1 6) ≠ 1 → a_W (d - 1) 63 0 [.ref 1, iv 1] [] (mkH B s l) (fun r => ∃ (s4 : Nat → Nat → Int32) (l5 : Nat → Nat → Int64), r = (.inl none, mkH B s4 l5) ∧ Q (.inl (some (iv 0)), (mkH B s4 l5)))) ∧ ((zz s 1 6) = 1 → a_W (d - 1) 100 0 [.ref 38, .retAddr 0] [] (mkH B s l) (fun r => ∃ (v8 : Int) (s6 : Nat → Nat → Int32) (l7 : Nat → Nat → Int64), r = (.inl (some (iv v8)), mkH B s6 l7) ∧ a_W (d - 1) 63 0 [.ref 1, iv 1] [] (mkH B s6 l7) (fun r => ∃ (s9 : Nat → Nat → Int32) (l10 : Nat → Nat → Int64), r = (.inl none, mkH B s9 l10) ∧ Q (.inl (some (iv v8)), (mkH B s9 l10))))))) ∧ ((zz s 1 6) = 3 → a_W (d - 1) 99 0 [.ref 38, iv (zz s 1 9), .retAddr 0, .retAddr 0] [] (mkH B s l) (fun r => ∃ (v13 : Int) (s11 : Nat → Nat → Int32) (l12 : Nat → Nat → Int64), r = (.inl (some (iv v13)), mkH B s11 l12) ∧ a_W (d - 1) 24 0 [.ref 1, .retAddr 0] [] (mkH B s11 l12) (fun r => ∃ (s14 : Nat → Nat → Int32) (l15 : Nat → Nat → Int64), r = (.inl none, mkH B s14 l15) ∧ Q (.inl (some (iv v13)), (mkH B s14 l15))))))) ∧ ((zz s 1 6) = 4 → a_W (d - 1) 94 0 [.ref 38, iv x1, .retAddr 0, .retAddr 0] [] (mkH B s l) (fun r => ∃ (v18 : Int) (s16 : Nat → Nat → Int32) (l17 : Nat → Nat → Int64), r = (.inl (some (iv v18)), mkH B s16 l17) ∧ Q (.inl (some (iv v18)), (mkH B s16 l17)))))) : a_W d 93 0 [.ref 38, iv x1, .retAddr 0] [] (mkH B s l) Q := by
  refine w_aln (p := 1) (q93 0) rfl rfl ?_
  refine w_gR (p := 4) (j := 0) (v := 1) (q93 1) rfl (r38 hB) (by decide) (f38_0 hB) ?_
  refine w_gI (p := 7) (j := 6) (v := (zz s 1 6)) (q93 4) rfl (r1 hB) (by decide) (iv_zz s 1 6) ?_
  refine w_ic (p := 8) (q93 7) rfl ?_
  by_cases c1 : (zz s 1 6) ≠ 4
  · replace w := w.1 c1
    refine w_i2t (q93 8) (inR_zz _ _ _) (by decide) c1 ?_
    refine w_aln (p := 18) (q93 17) rfl rfl ?_
    refine w_gR (p := 21) (j := 0) (v := 1) (q93 18) rfl (r38 hB) (by decide) (f38_0 hB) ?_
    refine w_gI (p := 24) (j := 6) (v := (zz s 1 6)) (q93 21) rfl (r1 hB) (by decide) (iv_zz s 1 6) ?_
    refine w_ic (p := 25) (q93 24) rfl ?_
    by_cases c2 : (zz s 1 6) ≠ 3
    · replace w := w.1 c2
      refine w_i2t (q93 25) (inR_zz _ _ _) (by decide) c2 ?_
      refine w_aln (p := 50) (q93 49) rfl rfl ?_
      refine w_gR (p := 53) (j := 0) (v := 1) (q93 50) rfl (r38 hB) (by decide) (f38_0 hB) ?_
      refine w_gI (p := 56) (j := 6) (v := (zz s 1 6)) (q93 53) rfl (r1 hB) (by decide) (iv_zz s 1 6) ?_
      refine w_ic (p := 57) (q93 56) rfl ?_
      by_cases c3 : (zz s 1 6) ≠ 1
      · replace w := w.1 c3
        refine w_i2t (q93 57) (inR_zz _ _ _) (by decide) c3 ?_
        refine w_ic (p := 68) (q93 67) rfl ?_
        refine w_isn (p := 69) (ls' := [.ref 38, iv x1, iv 0]) (q93 68) rfl (Nat.le_of_ble_eq_true rfl) rfl ?_
        refine w_aln (p := 70) (q93 69) rfl rfl ?_
        refine w_gR (p := 73) (j := 0) (v := 1) (q93 70) rfl (r38 hB) (by decide) (f38_0 hB) ?_
        refine w_ic (p := 74) (q93 73) rfl ?_
        refine w_call (st := []) (as := [.ref 1, iv 1]) (as' := [iv 1, .ref 1]) (p := 77) (q93 74) rfl m63 (by decide) (a_ok_i rfl (r1 hB) rfl) rfl rfl (Nat.le_of_ble_eq_true rfl) (by omega) rfl rfl (a_W.imp w ?_)
        rintro _ ⟨s4, l5, rfl, w⟩
        refine ⟨none, _, rfl, ?_⟩
        show a_W _ 93 77 [.ref 38, iv x1, iv 0] [] (mkH B s4 l5) _
        refine w_iln (p := 78) (q93 77) rfl rfl ?_
        exact w_ret (q93 78) rfl w
      · replace w := w.2 (Decidable.not_not.mp c3)
        refine w_i2f (p := 60) (q93 57) rfl (inR_zz _ _ _) (by decide) c3 ?_
        refine w_aln (p := 61) (q93 60) rfl rfl ?_
        refine w_call (st := []) (as := [.ref 38]) (as' := [.ref 38]) (p := 64) (q93 61) rfl m100 (by decide) (a_ok_i rfl (r38 hB) rfl) rfl rfl (Nat.le_of_ble_eq_true rfl) (by omega) rfl rfl (a_W.imp w ?_)
        rintro _ ⟨v8, s6, l7, rfl, w⟩
        refine ⟨some (iv v8), _, rfl, ?_⟩
        show a_W _ 93 64 [.ref 38, iv x1, .retAddr 0] [iv v8] (mkH B s6 l7) _
        refine w_goto (q93 64) ?_
        refine w_isn (p := 69) (ls' := [.ref 38, iv x1, iv v8]) (q93 68) rfl (Nat.le_of_ble_eq_true rfl) rfl ?_
        refine w_aln (p := 70) (q93 69) rfl rfl ?_
        refine w_gR (p := 73) (j := 0) (v := 1) (q93 70) rfl (r38 hB) (by decide) (f38_0 hB) ?_
        refine w_ic (p := 74) (q93 73) rfl ?_
        refine w_call (st := []) (as := [.ref 1, iv 1]) (as' := [iv 1, .ref 1]) (p := 77) (q93 74) rfl m63 (by decide) (a_ok_i rfl (r1 hB) rfl) rfl rfl (Nat.le_of_ble_eq_true rfl) (by omega) rfl rfl (a_W.imp w ?_)
        rintro _ ⟨s9, l10, rfl, w⟩
        refine ⟨none, _, rfl, ?_⟩
        show a_W _ 93 77 [.ref 38, iv x1, iv v8] [] (mkH B s9 l10) _
        refine w_iln (p := 78) (q93 77) rfl rfl ?_
        exact w_ret (q93 78) rfl w
    · replace w := w.2 (Decidable.not_not.mp c2)
      refine w_i2f (p := 28) (q93 25) rfl (inR_zz _ _ _) (by decide) c2 ?_
      refine w_aln (p := 29) (q93 28) rfl rfl ?_
      refine w_aln (p := 30) (q93 29) rfl rfl ?_
      refine w_gR (p := 33) (j := 0) (v := 1) (q93 30) rfl (r38 hB) (by decide) (f38_0 hB) ?_
      refine w_gI (p := 36) (j := 9) (v := (zz s 1 9)) (q93 33) rfl (r1 hB) (by decide) (iv_zz s 1 9) ?_
      refine w_call (st := []) (as := [.ref 38, iv (zz s 1 9)]) (as' := [iv (zz s 1 9), .ref 38]) (p := 39) (q93 36) rfl m99 (by decide) (a_ok_i rfl (r38 hB) rfl) rfl rfl (Nat.le_of_ble_eq_true rfl) (by omega) rfl rfl (a_W.imp w ?_)
      rintro _ ⟨v13, s11, l12, rfl, w⟩
      refine ⟨some (iv v13), _, rfl, ?_⟩
      show a_W _ 93 39 [.ref 38, iv x1, .retAddr 0] [iv v13] (mkH B s11 l12) _
      refine w_isn (p := 40) (ls' := [.ref 38, iv x1, iv v13]) (q93 39) rfl (Nat.le_of_ble_eq_true rfl) rfl ?_
      refine w_aln (p := 41) (q93 40) rfl rfl ?_
      refine w_gR (p := 44) (j := 0) (v := 1) (q93 41) rfl (r38 hB) (by decide) (f38_0 hB) ?_
      refine w_call (st := []) (as := [.ref 1]) (as' := [.ref 1]) (p := 47) (q93 44) rfl m24 (by decide) (a_ok_i rfl (r1 hB) rfl) rfl rfl (Nat.le_of_ble_eq_true rfl) (by omega) rfl rfl (a_W.imp w ?_)
      rintro _ ⟨s14, l15, rfl, w⟩
      refine ⟨none, _, rfl, ?_⟩
      show a_W _ 93 47 [.ref 38, iv x1, iv v13] [] (mkH B s14 l15) _
      refine w_iln (p := 48) (q93 47) rfl rfl ?_
      exact w_ret (q93 48) rfl w
  · replace w := w.2 (Decidable.not_not.mp c1)
    refine w_i2f (p := 11) (q93 8) rfl (inR_zz _ _ _) (by decide) c1 ?_
    refine w_aln (p := 12) (q93 11) rfl rfl ?_
    refine w_iln (p := 13) (q93 12) rfl rfl ?_
    refine w_call (st := []) (as := [.ref 38, iv x1]) (as' := [iv x1, .ref 38]) (p := 16) (q93 13) rfl m94 (by decide) (a_ok_i rfl (r38 hB) rfl) rfl rfl (Nat.le_of_ble_eq_true rfl) (by omega) rfl rfl (a_W.imp w ?_)
    rintro _ ⟨v18, s16, l17, rfl, w⟩
    refine ⟨some (iv v18), _, rfl, ?_⟩
    show a_W _ 93 16 [.ref 38, iv x1, .retAddr 0] [iv v18] (mkH B s16 l17) _
    exact w_ret (q93 16) rfl w
theorem w94_0 {d : Nat} {B : aH} {Q : aR → Prop} (hB : a_Can B) (hd : 1 ≤ d) (x1 : Int) (s : Nat → Nat → Int32) (l : Nat → Nat → Int64) (w : a_W (d - 1) 24 0 [.ref 1, .retAddr 0] [] (mkH B s l) (fun r => ∃ (s1 : Nat → Nat → Int32) (l2 : Nat → Nat → Int64), r = (.inl none, mkH B s1 l2) ∧ a_W (d - 1) 95 0 [.ref 38, .retAddr 0] [] (mkH B s1 l2) (fun r => ∃ (v5 : Int) (s3 : Nat → Nat → Int32) (l4 : Nat → Nat → Int64), r = (.inl (some (iv v5)), mkH B s3 l4) ∧ (inR v5 ∧ ((v5 = 0 → a_W (d - 1) 61 0 [.ref 1, iv x1] [] (mkH B s3 l4) (fun r => ∃ (v10 : Int) (s8 : Nat → Nat → Int32) (l9 : Nat → Nat → Int64), r = (.inl (some (iv v10)), mkH B s8 l9) ∧ (inR v10 ∧ ((v10 = 0 → a_W (d - 1) 57 0 [.ref 38, iv (x1 + 1), .retAddr 0, .retAddr 0, .retAddr 0, .retAddr 0] [] (mkH B s8 l9) (fun r => ∃ (v15 : Int) (s13 : Nat → Nat → Int32) (l14 : Nat → Nat → Int64), r = (.inl (some (iv v15)), mkH B s13 l14) ∧ (((zz s13 1 6) ≠ 6 → a_W d 94 104 [.ref 38, iv x1, iv v15, .retAddr 0] [] (mkH B s13 l14) Q) ∧ ((zz s13 1 6) = 6 → a_W (d - 1) 24 0 [.ref 1, .retAddr 0] [] (mkH B s13 l14) (fun r => ∃ (s17 : Nat → Nat → Int32) (l18 : Nat → Nat → Int64), r = (.inl none, mkH B s17 l18) ∧ a_W (d - 1) 65 0 [.ref 36, iv (x1 + 1), .retAddr 0, .retAddr 0, .retAddr 0] [] (mkH B s17 l18) (fun r => ∃ (v21 : Int) (s19 : Nat → Nat → Int32) (l20 : Nat → Nat → Int64), r = (.inl (some (iv v21)), mkH B s19 l20) ∧ ((0 ≤ v15 ∧ v15 < 501) ∧ a_W (d - 1) 89 0 [.ref 17, iv (zz s19 49 v15.toNat), iv v21, .retAddr 0, .retAddr 0, .retAddr 0] [] (mkH B s19 l20) (fun r => ∃ (s23 : Nat → Nat → Int32) (l24 : Nat → Nat → Int64), r = (.inl none, mkH B s23 l24) ∧ a_W d 94 104 [.ref 38, iv x1, iv v15, iv v21] [] (mkH B s23 l24) Q)))))))) ∧ (v10 ≠ 0 → Q (.inl (some (iv 0)), (mkH B s8 l9))))))) ∧ (v5 ≠ 0 → a_W (d - 1) 98 0 [.ref 38, .retAddr 0] [] (mkH B s3 l4) (fun r => ∃ (v27 : Int) (s25 : Nat → Nat → Int32) (l26 : Nat → Nat → Int64), r = (.inl (some (iv v27)), mkH B s25 l26) ∧ a_W (d - 1) 24 0 [.ref 1, .retAddr 0] [] (mkH B s25 l26) (fun r => ∃ (s28 : Nat → Nat → Int32) (l29 : Nat → Nat → Int64), r = (.inl none, mkH B s28 l29) ∧ a_W (d - 1) 63 0 [.ref 1, iv 5] [] (mkH B s28 l29) (fun r => ∃ (s30 : Nat → Nat → Int32) (l31 : Nat → Nat → Int64), r = (.inl none, mkH B s30 l31) ∧ Q (.inl (some (iv v27)), (mkH B s30 l31))))))))))) : a_W d 94 0 [.ref 38, iv x1, .retAddr 0, .retAddr 0] [] (mkH B s l) Q := by
  refine w_aln (p := 1) (q94 0) rfl rfl ?_
  refine w_gR (p := 4) (j := 0) (v := 1) (q94 1) rfl (r38 hB) (by decide) (f38_0 hB) ?_
  refine w_call (st := []) (as := [.ref 1]) (as' := [.ref 1]) (p := 7) (q94 4) rfl m24 (by decide) (a_ok_i rfl (r1 hB) rfl) rfl rfl (Nat.le_of_ble_eq_true rfl) (by omega) rfl rfl (a_W.imp w ?_)
  rintro _ ⟨s1, l2, rfl, w⟩
  refine ⟨none, _, rfl, ?_⟩
  show a_W _ 94 7 [.ref 38, iv x1, .retAddr 0, .retAddr 0] [] (mkH B s1 l2) _
  refine w_aln (p := 8) (q94 7) rfl rfl ?_
  refine w_call (st := []) (as := [.ref 38]) (as' := [.ref 38]) (p := 11) (q94 8) rfl m95 (by decide) (a_ok_i rfl (r38 hB) rfl) rfl rfl (Nat.le_of_ble_eq_true rfl) (by omega) rfl rfl (a_W.imp w ?_)
  rintro _ ⟨v5, s3, l4, rfl, w⟩
  refine ⟨some (iv v5), _, rfl, ?_⟩
  show a_W _ 94 11 [.ref 38, iv x1, .retAddr 0, .retAddr 0] [iv v5] (mkH B s3 l4) _
  obtain ⟨h6, w⟩ := w
  by_cases c7 : v5 = 0
  · replace w := w.1 c7
    refine w_i1t (q94 11) h6 c7 ?_
    refine w_aln (p := 37) (q94 36) rfl rfl ?_
    refine w_gR (p := 40) (j := 0) (v := 1) (q94 37) rfl (r38 hB) (by decide) (f38_0 hB) ?_
    refine w_iln (p := 41) (q94 40) rfl rfl ?_
    refine w_call (st := []) (as := [.ref 1, iv x1]) (as' := [iv x1, .ref 1]) (p := 44) (q94 41) rfl m61 (by decide) (a_ok_i rfl (r1 hB) rfl) rfl rfl (Nat.le_of_ble_eq_true rfl) (by omega) rfl rfl (a_W.imp w ?_)
    rintro _ ⟨v10, s8, l9, rfl, w⟩
    refine ⟨some (iv v10), _, rfl, ?_⟩
    show a_W _ 94 44 [.ref 38, iv x1, .retAddr 0, .retAddr 0] [iv v10] (mkH B s8 l9) _
    obtain ⟨h11, w⟩ := w
    by_cases c12 : v10 = 0
    · replace w := w.1 c12
      refine w_i1t (q94 44) h11 c12 ?_
      refine w_aln (p := 50) (q94 49) rfl rfl ?_
      refine w_iln (p := 51) (q94 50) rfl rfl ?_
      refine w_ic (p := 52) (q94 51) rfl ?_
      refine w_add (p := 53) (q94 52) rfl ?_
      refine w_call (st := []) (as := [.ref 38, iv (x1 + 1)]) (as' := [iv (x1 + 1), .ref 38]) (p := 56) (q94 53) rfl m57 (by decide) (a_ok_i rfl (r38 hB) rfl) rfl rfl (Nat.le_of_ble_eq_true rfl) (by omega) rfl rfl (a_W.imp w ?_)
      rintro _ ⟨v15, s13, l14, rfl, w⟩
      refine ⟨some (iv v15), _, rfl, ?_⟩
      show a_W _ 94 56 [.ref 38, iv x1, .retAddr 0, .retAddr 0] [iv v15] (mkH B s13 l14) _
      refine w_isn (p := 57) (ls' := [.ref 38, iv x1, iv v15, .retAddr 0]) (q94 56) rfl (Nat.le_of_ble_eq_true rfl) rfl ?_
      refine w_aln (p := 58) (q94 57) rfl rfl ?_
      refine w_gR (p := 61) (j := 0) (v := 1) (q94 58) rfl (r38 hB) (by decide) (f38_0 hB) ?_
      refine w_gI (p := 64) (j := 6) (v := (zz s13 1 6)) (q94 61) rfl (r1 hB) (by decide) (iv_zz s13 1 6) ?_
      refine w_bp (p := 66) (q94 64) rfl (by decide) ?_
      by_cases c16 : (zz s13 1 6) ≠ 6
      · replace w := w.1 c16
        refine w_i2t (q94 66) (inR_zz _ _ _) (by decide) c16 ?_
        exact w
      · replace w := w.2 (Decidable.not_not.mp c16)
        refine w_i2f (p := 69) (q94 66) rfl (inR_zz _ _ _) (by decide) c16 ?_
        refine w_aln (p := 70) (q94 69) rfl rfl ?_
        refine w_gR (p := 73) (j := 0) (v := 1) (q94 70) rfl (r38 hB) (by decide) (f38_0 hB) ?_
        refine w_call (st := []) (as := [.ref 1]) (as' := [.ref 1]) (p := 76) (q94 73) rfl m24 (by decide) (a_ok_i rfl (r1 hB) rfl) rfl rfl (Nat.le_of_ble_eq_true rfl) (by omega) rfl rfl (a_W.imp w ?_)
        rintro _ ⟨s17, l18, rfl, w⟩
        refine ⟨none, _, rfl, ?_⟩
        show a_W _ 94 76 [.ref 38, iv x1, iv v15, .retAddr 0] [] (mkH B s17 l18) _
        refine w_aln (p := 77) (q94 76) rfl rfl ?_
        refine w_gR (p := 80) (j := 3) (v := 36) (q94 77) rfl (r38 hB) (by decide) (f38_3 hB) ?_
        refine w_iln (p := 81) (q94 80) rfl rfl ?_
        refine w_ic (p := 82) (q94 81) rfl ?_
        refine w_add (p := 83) (q94 82) rfl ?_
        refine w_call (st := []) (as := [.ref 36, iv (x1 + 1)]) (as' := [iv (x1 + 1), .ref 36]) (p := 86) (q94 83) rfl m65 (by decide) (a_ok_i rfl (r36 hB) rfl) rfl rfl (Nat.le_of_ble_eq_true rfl) (by omega) rfl rfl (a_W.imp w ?_)
        rintro _ ⟨v21, s19, l20, rfl, w⟩
        refine ⟨some (iv v21), _, rfl, ?_⟩
        show a_W _ 94 86 [.ref 38, iv x1, iv v15, .retAddr 0] [iv v21] (mkH B s19 l20) _
        refine w_isn (p := 87) (ls' := [.ref 38, iv x1, iv v15, iv v21]) (q94 86) rfl (Nat.le_of_ble_eq_true rfl) rfl ?_
        refine w_aln (p := 88) (q94 87) rfl rfl ?_
        refine w_gR (p := 91) (j := 2) (v := 17) (q94 88) rfl (r38 hB) (by decide) (f38_2 hB) ?_
        refine w_aln (p := 92) (q94 91) rfl rfl ?_
        refine w_gR (p := 95) (j := 5) (v := 45) (q94 92) rfl (r38 hB) (by decide) (f38_5 hB) ?_
        refine w_gR (p := 98) (j := 3) (v := 49) (q94 95) rfl (r45 hB) (by decide) (f45_3 hB) ?_
        refine w_iln (p := 99) (q94 98) rfl rfl ?_
        obtain ⟨o22, w⟩ := w
        refine w_ia (p := 100) (v := (zz s19 49 v15.toNat)) (q94 99) rfl (r49 hB) (by decide) o22 (iv_zz s19 49 v15.toNat) ?_
        refine w_iln (p := 101) (q94 100) rfl rfl ?_
        refine w_call (st := []) (as := [.ref 17, iv (zz s19 49 v15.toNat), iv v21]) (as' := [iv v21, iv (zz s19 49 v15.toNat), .ref 17]) (p := 104) (q94 101) rfl m89 (by decide) (a_ok_i rfl (r17 hB) rfl) rfl rfl (Nat.le_of_ble_eq_true rfl) (by omega) rfl rfl (a_W.imp w ?_)
        rintro _ ⟨s23, l24, rfl, w⟩
        refine ⟨none, _, rfl, ?_⟩
        show a_W _ 94 104 [.ref 38, iv x1, iv v15, iv v21] [] (mkH B s23 l24) _
        exact w
    · replace w := w.2 c12
      refine w_i1f (p := 47) (q94 44) rfl h11 c12 ?_
      refine w_ic (p := 48) (q94 47) rfl ?_
      exact w_ret (q94 48) rfl w
  · replace w := w.2 c7
    refine w_i1f (p := 14) (q94 11) rfl h6 c7 ?_
    refine w_aln (p := 15) (q94 14) rfl rfl ?_
    refine w_call (st := []) (as := [.ref 38]) (as' := [.ref 38]) (p := 18) (q94 15) rfl m98 (by decide) (a_ok_i rfl (r38 hB) rfl) rfl rfl (Nat.le_of_ble_eq_true rfl) (by omega) rfl rfl (a_W.imp w ?_)
    rintro _ ⟨v27, s25, l26, rfl, w⟩
    refine ⟨some (iv v27), _, rfl, ?_⟩
    show a_W _ 94 18 [.ref 38, iv x1, .retAddr 0, .retAddr 0] [iv v27] (mkH B s25 l26) _
    refine w_isn (p := 19) (ls' := [.ref 38, iv x1, iv v27, .retAddr 0]) (q94 18) rfl (Nat.le_of_ble_eq_true rfl) rfl ?_
    refine w_aln (p := 20) (q94 19) rfl rfl ?_
    refine w_gR (p := 23) (j := 0) (v := 1) (q94 20) rfl (r38 hB) (by decide) (f38_0 hB) ?_
    refine w_call (st := []) (as := [.ref 1]) (as' := [.ref 1]) (p := 26) (q94 23) rfl m24 (by decide) (a_ok_i rfl (r1 hB) rfl) rfl rfl (Nat.le_of_ble_eq_true rfl) (by omega) rfl rfl (a_W.imp w ?_)
    rintro _ ⟨s28, l29, rfl, w⟩
    refine ⟨none, _, rfl, ?_⟩
    show a_W _ 94 26 [.ref 38, iv x1, iv v27, .retAddr 0] [] (mkH B s28 l29) _
    refine w_aln (p := 27) (q94 26) rfl rfl ?_
    refine w_gR (p := 30) (j := 0) (v := 1) (q94 27) rfl (r38 hB) (by decide) (f38_0 hB) ?_
    refine w_ic (p := 31) (q94 30) rfl ?_
    refine w_call (st := []) (as := [.ref 1, iv 5]) (as' := [iv 5, .ref 1]) (p := 34) (q94 31) rfl m63 (by decide) (a_ok_i rfl (r1 hB) rfl) rfl rfl (Nat.le_of_ble_eq_true rfl) (by omega) rfl rfl (a_W.imp w ?_)
    rintro _ ⟨s30, l31, rfl, w⟩
    refine ⟨none, _, rfl, ?_⟩
    show a_W _ 94 34 [.ref 38, iv x1, iv v27, .retAddr 0] [] (mkH B s30 l31) _
    refine w_iln (p := 35) (q94 34) rfl rfl ?_
    exact w_ret (q94 35) rfl w
theorem w94_104 {d : Nat} {B : aH} {Q : aR → Prop} (hB : a_Can B) (hd : 1 ≤ d) (x1 x2 : Int) (u3 : Value) (s : Nat → Nat → Int32) (l : Nat → Nat → Int64) (w : a_W (d - 1) 63 0 [.ref 1, iv 5] [] (mkH B s l) (fun r => ∃ (s1 : Nat → Nat → Int32) (l2 : Nat → Nat → Int64), r = (.inl none, mkH B s1 l2) ∧ Q (.inl (some (iv x2)), (mkH B s1 l2)))) : a_W d 94 104 [.ref 38, iv x1, iv x2, u3] [] (mkH B s l) Q := by
  refine w_aln (p := 105) (q94 104) rfl rfl ?_
  refine w_gR (p := 108) (j := 0) (v := 1) (q94 105) rfl (r38 hB) (by decide) (f38_0 hB) ?_
  refine w_ic (p := 109) (q94 108) rfl ?_
  refine w_call (st := []) (as := [.ref 1, iv 5]) (as' := [iv 5, .ref 1]) (p := 112) (q94 109) rfl m63 (by decide) (a_ok_i rfl (r1 hB) rfl) rfl rfl (Nat.le_of_ble_eq_true rfl) (by omega) rfl rfl (a_W.imp w ?_)
  rintro _ ⟨s1, l2, rfl, w⟩
  refine ⟨none, _, rfl, ?_⟩
  show a_W _ 94 112 [.ref 38, iv x1, iv x2, u3] [] (mkH B s1 l2) _
  refine w_iln (p := 113) (q94 112) rfl rfl ?_
  exact w_ret (q94 113) rfl w
theorem w95_0 {d : Nat} {B : aH} {Q : aR → Prop} (hB : a_Can B) (hd : 1 ≤ d) (s : Nat → Nat → Int32) (l : Nat → Nat → Int64) (w : (((z96 (zz s 1 6)) ≤ 0 → (((zz s 1 6) = 13 → a_W d 95 52 [.ref 38, .retAddr 0] [] (mkH B s l) Q) ∧ ((zz s 1 6) ≠ 13 → (((z59 (zz s 1 6)) = 0 → a_W d 95 56 [.ref 38, .retAddr 0] [] (mkH B s l) Q) ∧ ((z59 (zz s 1 6)) ≠ 0 → (((zz s 1 6) = 9 → a_W d 95 56 [.ref 38, .retAddr 0] [] (mkH B s l) Q) ∧ ((zz s 1 6) ≠ 9 → a_W d 95 52 [.ref 38, .retAddr 0] [] (mkH B s l) Q))))))) ∧ (0 < (z96 (zz s 1 6)) → Q (.inl (some (iv 1)), (mkH B s l))))) : a_W d 95 0 [.ref 38, .retAddr 0] [] (mkH B s l) Q := by
  refine w_aln (p := 1) (q95 0) rfl rfl ?_
  refine w_gR (p := 4) (j := 0) (v := 1) (q95 1) rfl (r38 hB) (by decide) (f38_0 hB) ?_
  refine w_gI (p := 7) (j := 6) (v := (zz s 1 6)) (q95 4) rfl (r1 hB) (by decide) (iv_zz s 1 6) ?_
  refine w_call (st := []) (as := [iv (zz s 1 6)]) (as' := [iv (zz s 1 6)]) (p := 10) (q95 7) rfl m96 (by decide) (a_ok_s rfl rfl) rfl rfl (Nat.le_of_ble_eq_true rfl) (by omega) rfl rfl (a_W.imp (p96 hB (zz s 1 6) _ _ (inR_zz _ _ _)) ?_)
  rintro _ rfl
  refine ⟨_, _, rfl, ?_⟩
  show a_W _ 95 10 [.ref 38, .retAddr 0] [iv (z96 (zz s 1 6))] _ _
  by_cases c1 : (z96 (zz s 1 6)) ≤ 0
  · replace w := w.1 c1
    refine w_i1t (q95 10) (inR_z96 _) c1 ?_
    refine w_aln (p := 16) (q95 15) rfl rfl ?_
    refine w_gR (p := 19) (j := 0) (v := 1) (q95 16) rfl (r38 hB) (by decide) (f38_0 hB) ?_
    refine w_gI (p := 22) (j := 6) (v := (zz s 1 6)) (q95 19) rfl (r1 hB) (by decide) (iv_zz s 1 6) ?_
    refine w_bp (p := 24) (q95 22) rfl (by decide) ?_
    by_cases c2 : (zz s 1 6) = 13
    · replace w := w.1 c2
      refine w_i2t (q95 24) (inR_zz _ _ _) (by decide) c2 ?_
      exact w
    · replace w := w.2 c2
      refine w_i2f (p := 27) (q95 24) rfl (inR_zz _ _ _) (by decide) c2 ?_
      refine w_aln (p := 28) (q95 27) rfl rfl ?_
      refine w_gR (p := 31) (j := 0) (v := 1) (q95 28) rfl (r38 hB) (by decide) (f38_0 hB) ?_
      refine w_gI (p := 34) (j := 6) (v := (zz s 1 6)) (q95 31) rfl (r1 hB) (by decide) (iv_zz s 1 6) ?_
      refine w_call (st := []) (as := [iv (zz s 1 6)]) (as' := [iv (zz s 1 6)]) (p := 37) (q95 34) rfl m59 (by decide) (a_ok_s rfl rfl) rfl rfl (Nat.le_of_ble_eq_true rfl) (by omega) rfl rfl (a_W.imp (p59 hB (zz s 1 6) _ _ (inR_zz _ _ _)) ?_)
      rintro _ rfl
      refine ⟨_, _, rfl, ?_⟩
      show a_W _ 95 37 [.ref 38, .retAddr 0] [iv (z59 (zz s 1 6))] _ _
      by_cases c3 : (z59 (zz s 1 6)) = 0
      · replace w := w.1 c3
        refine w_i1t (q95 37) (inR_z59 _) c3 ?_
        exact w
      · replace w := w.2 c3
        refine w_i1f (p := 40) (q95 37) rfl (inR_z59 _) c3 ?_
        refine w_aln (p := 41) (q95 40) rfl rfl ?_
        refine w_gR (p := 44) (j := 0) (v := 1) (q95 41) rfl (r38 hB) (by decide) (f38_0 hB) ?_
        refine w_gI (p := 47) (j := 6) (v := (zz s 1 6)) (q95 44) rfl (r1 hB) (by decide) (iv_zz s 1 6) ?_
        refine w_bp (p := 49) (q95 47) rfl (by decide) ?_
        by_cases c4 : (zz s 1 6) = 9
        · replace w := w.1 c4
          refine w_i2t (q95 49) (inR_zz _ _ _) (by decide) c4 ?_
          exact w
        · replace w := w.2 c4
          refine w_i2f (p := 52) (q95 49) rfl (inR_zz _ _ _) (by decide) c4 ?_
          exact w
  · replace w := w.2 (Int.not_le.mp c1)
    refine w_i1f (p := 13) (q95 10) rfl (inR_z96 _) c1 ?_
    refine w_ic (p := 14) (q95 13) rfl ?_
    exact w_ret (q95 14) rfl w
theorem w95_52 {d : Nat} {B : aH} {Q : aR → Prop} (hB : a_Can B) (hd : 1 ≤ d) (s : Nat → Nat → Int32) (l : Nat → Nat → Int64) (w : a_W (d - 1) 97 0 [.ref 1, .retAddr 0] [] (mkH B s l) (fun r => ∃ (v3 : Int) (s1 : Nat → Nat → Int32) (l2 : Nat → Nat → Int64), r = (.inl (some (iv v3)), mkH B s1 l2) ∧ (inR v3 ∧ ((v3 = 0 → a_W d 95 76 [.ref 38, iv 1] [] (mkH B s1 l2) Q) ∧ (v3 ≠ 0 → Q (.inl (some (iv 1)), (mkH B s1 l2))))))) : a_W d 95 52 [.ref 38, .retAddr 0] [] (mkH B s l) Q := by
  refine w_ic (p := 53) (q95 52) rfl ?_
  refine w_goto (q95 53) ?_
  refine w_isn (p := 58) (ls' := [.ref 38, iv 1]) (q95 57) rfl (Nat.le_of_ble_eq_true rfl) rfl ?_
  refine w_iln (p := 59) (q95 58) rfl rfl ?_
  refine w_i1f (p := 62) (q95 59) rfl (by decide) (show ¬ zc _ _ _ by unfold zc; omega) ?_
  refine w_aln (p := 63) (q95 62) rfl rfl ?_
  refine w_gR (p := 66) (j := 0) (v := 1) (q95 63) rfl (r38 hB) (by decide) (f38_0 hB) ?_
  refine w_call (st := []) (as := [.ref 1]) (as' := [.ref 1]) (p := 69) (q95 66) rfl m97 (by decide) (a_ok_i rfl (r1 hB) rfl) rfl rfl (Nat.le_of_ble_eq_true rfl) (by omega) rfl rfl (a_W.imp w ?_)
  rintro _ ⟨v3, s1, l2, rfl, w⟩
  refine ⟨some (iv v3), _, rfl, ?_⟩
  show a_W _ 95 69 [.ref 38, iv 1] [iv v3] (mkH B s1 l2) _
  obtain ⟨h4, w⟩ := w
  by_cases c5 : v3 = 0
  · replace w := w.1 c5
    refine w_i1t (q95 69) h4 c5 ?_
    exact w
  · replace w := w.2 c5
    refine w_i1f (p := 72) (q95 69) rfl h4 c5 ?_
    refine w_ic (p := 73) (q95 72) rfl ?_
    refine w_goto (q95 73) ?_
    exact w_ret (q95 77) rfl w
theorem w95_56 {d : Nat} {B : aH} {Q : aR → Prop} (hB : a_Can B) (s : Nat → Nat → Int32) (l : Nat → Nat → Int64) (w : a_W d 95 76 [.ref 38, iv 0] [] (mkH B s l) Q) : a_W d 95 56 [.ref 38, .retAddr 0] [] (mkH B s l) Q := by
  refine w_ic (p := 57) (q95 56) rfl ?_
  refine w_isn (p := 58) (ls' := [.ref 38, iv 0]) (q95 57) rfl (Nat.le_of_ble_eq_true rfl) rfl ?_
  refine w_iln (p := 59) (q95 58) rfl rfl ?_
  refine w_i1t (q95 59) (by decide) (show zc _ _ _ by unfold zc; omega) ?_
  exact w
theorem w95_76 {d : Nat} {B : aH} {Q : aR → Prop} (hB : a_Can B) (x1 : Int) (s : Nat → Nat → Int32) (l : Nat → Nat → Int64) (w : Q (.inl (some (iv 0)), (mkH B s l))) : a_W d 95 76 [.ref 38, iv x1] [] (mkH B s l) Q := by
  refine w_ic (p := 77) (q95 76) rfl ?_
  exact w_ret (q95 77) rfl w
theorem w60_0 {d : Nat} {B : aH} {Q : aR → Prop} (hB : a_Can B) (hd : 3 ≤ d) (x1 : Int) (s : Nat → Nat → Int32) (l : Nat → Nat → Int64) (w : a_W (d - 1) 39 0 [.ref 26, .ref 2, iv (zz s 1 7), iv (zz s 1 8), .retAddr 0, .retAddr 0] [] (mkH B s l) (fun r => ∃ (v3 : Int) (s1 : Nat → Nat → Int32) (l2 : Nat → Nat → Int64), r = (.inl (some (iv v3)), mkH B s1 l2) ∧ a_W (d - 1) 24 0 [.ref 1, .retAddr 0] [] (mkH B s1 l2) (fun r => ∃ (s4 : Nat → Nat → Int32) (l5 : Nat → Nat → Int64), r = (.inl none, mkH B s4 l5) ∧ (inR x1 ∧ ((x1 < 40 → a_W (d - 1) 38 0 [.ref 38, iv (x1 + 1), .retAddr 0, .retAddr 0, .retAddr 0, .retAddr 0] [] (mkH B s4 l5) (fun r => ∃ (v10 : Int) (s8 : Nat → Nat → Int32) (l9 : Nat → Nat → Int64), r = (.inl (some (iv v10)), mkH B s8 l9) ∧ a_W (d - 1) 78 0 [.ref 38, iv (zz s4 39 3), iv v3, iv v10, .retAddr 0] [] (mkH B s8 l9) (fun r => ∃ (v13 : Int) (s11 : Nat → Nat → Int32) (l12 : Nat → Nat → Int64), r = (.inl (some (iv v13)), mkH B s11 l12) ∧ Q (.inl (some (iv v13)), (mkH B s11 l12))))) ∧ (40 ≤ x1 → (((zz s4 1 10) ≠ 0 → Q (.inl (some (iv 0)), (mkH B s4 l5))) ∧ ((zz s4 1 10) = 0 → Q (.inl (some (iv 0)), (mkH B (zu (zu (zu s4 1 10 8) 1 11 (zz s4 1 7)) 1 6 0) l5)))))))))) : a_W d 60 0 [.ref 38, iv x1, .retAddr 0, .retAddr 0, .retAddr 0] [] (mkH B s l) Q := by
  refine w_aln (p := 1) (q60 0) rfl rfl ?_
  refine w_gR (p := 4) (j := 1) (v := 25) (q60 1) rfl (r38 hB) (by decide) (f38_1 hB) ?_
  refine w_gR (p := 7) (j := 0) (v := 26) (q60 4) rfl (r25 hB) (by decide) (f25_0 hB) ?_
  refine w_aln (p := 8) (q60 7) rfl rfl ?_
  refine w_gR (p := 11) (j := 0) (v := 1) (q60 8) rfl (r38 hB) (by decide) (f38_0 hB) ?_
  refine w_gR (p := 14) (j := 0) (v := 2) (q60 11) rfl (r1 hB) (by decide) (f1_0 hB) ?_
  refine w_aln (p := 15) (q60 14) rfl rfl ?_
  refine w_gR (p := 18) (j := 0) (v := 1) (q60 15) rfl (r38 hB) (by decide) (f38_0 hB) ?_
  refine w_gI (p := 21) (j := 7) (v := (zz s 1 7)) (q60 18) rfl (r1 hB) (by decide) (iv_zz s 1 7) ?_
  refine w_aln (p := 22) (q60 21) rfl rfl ?_
  refine w_gR (p := 25) (j := 0) (v := 1) (q60 22) rfl (r38 hB) (by decide) (f38_0 hB) ?_
  refine w_gI (p := 28) (j := 8) (v := (zz s 1 8)) (q60 25) rfl (r1 hB) (by decide) (iv_zz s 1 8) ?_
  refine w_call (st := []) (as := [.ref 26, .ref 2, iv (zz s 1 7), iv (zz s 1 8)]) (as' := [iv (zz s 1 8), iv (zz s 1 7), .ref 2, .ref 26]) (p := 31) (q60 28) rfl m39 (by decide) (a_ok_i rfl (r26 hB) rfl) rfl rfl (Nat.le_of_ble_eq_true rfl) (by omega) rfl rfl (a_W.imp w ?_)
  rintro _ ⟨v3, s1, l2, rfl, w⟩
  refine ⟨some (iv v3), _, rfl, ?_⟩
  show a_W _ 60 31 [.ref 38, iv x1, .retAddr 0, .retAddr 0, .retAddr 0] [iv v3] (mkH B s1 l2) _
  refine w_isn (p := 32) (ls' := [.ref 38, iv x1, iv v3, .retAddr 0, .retAddr 0]) (q60 31) rfl (Nat.le_of_ble_eq_true rfl) rfl ?_
  refine w_aln (p := 33) (q60 32) rfl rfl ?_
  refine w_gR (p := 36) (j := 0) (v := 1) (q60 33) rfl (r38 hB) (by decide) (f38_0 hB) ?_
  refine w_call (st := []) (as := [.ref 1]) (as' := [.ref 1]) (p := 39) (q60 36) rfl m24 (by decide) (a_ok_i rfl (r1 hB) rfl) rfl rfl (Nat.le_of_ble_eq_true rfl) (by omega) rfl rfl (a_W.imp w ?_)
  rintro _ ⟨s4, l5, rfl, w⟩
  refine ⟨none, _, rfl, ?_⟩
  show a_W _ 60 39 [.ref 38, iv x1, iv v3, .retAddr 0, .retAddr 0] [] (mkH B s4 l5) _
  refine w_aln (p := 40) (q60 39) rfl rfl ?_
  refine w_gR (p := 43) (j := 0) (v := 1) (q60 40) rfl (r38 hB) (by decide) (f38_0 hB) ?_
  refine w_iln (p := 44) (q60 43) rfl rfl ?_
  refine w_call (st := []) (as := [.ref 1, iv x1]) (as' := [iv x1, .ref 1]) (p := 47) (q60 44) rfl m61 (by decide) (a_ok_i rfl (r1 hB) rfl) rfl rfl (Nat.le_of_ble_eq_true rfl) (by omega) rfl rfl ?_
  refine w_iln (p := 1) (q61 0) rfl rfl ?_
  refine w_bp (p := 3) (q61 1) rfl (by decide) ?_
  obtain ⟨h6, w⟩ := w
  by_cases c7 : x1 < 40
  · replace w := w.1 c7
    refine w_i2t (q61 3) h6 (by decide) c7 ?_
    refine w_ic (p := 15) (q61 14) rfl ?_
    refine w_ret (q61 15) rfl ⟨_, _, rfl, ?_⟩
    show a_W _ 60 47 [.ref 38, iv x1, iv v3, .retAddr 0, .retAddr 0] [iv 0] _ _
    refine w_i1t (q60 47) (by decide) (show zc _ _ _ by unfold zc; omega) ?_
    refine w_aln (p := 53) (q60 52) rfl rfl ?_
    refine w_gR (p := 56) (j := 4) (v := 39) (q60 53) rfl (r38 hB) (by decide) (f38_4 hB) ?_
    refine w_gI (p := 59) (j := 3) (v := (zz s4 39 3)) (q60 56) rfl (r39 hB) (by decide) (iv_zz s4 39 3) ?_
    refine w_isn (p := 60) (ls' := [.ref 38, iv x1, iv v3, iv (zz s4 39 3), .retAddr 0]) (q60 59) rfl (Nat.le_of_ble_eq_true rfl) rfl ?_
    refine w_aln (p := 61) (q60 60) rfl rfl ?_
    refine w_iln (p := 62) (q60 61) rfl rfl ?_
    refine w_ic (p := 63) (q60 62) rfl ?_
    refine w_add (p := 64) (q60 63) rfl ?_
    refine w_call (st := []) (as := [.ref 38, iv (x1 + 1)]) (as' := [iv (x1 + 1), .ref 38]) (p := 67) (q60 64) rfl m38 (by decide) (a_ok_i rfl (r38 hB) rfl) rfl rfl (Nat.le_of_ble_eq_true rfl) (by omega) rfl rfl (a_W.imp w ?_)
    rintro _ ⟨v10, s8, l9, rfl, w⟩
    refine ⟨some (iv v10), _, rfl, ?_⟩
    show a_W _ 60 67 [.ref 38, iv x1, iv v3, iv (zz s4 39 3), .retAddr 0] [iv v10] (mkH B s8 l9) _
    refine w_is (p := 69) (ls' := [.ref 38, iv x1, iv v3, iv (zz s4 39 3), iv v10]) (q60 67) rfl (Nat.le_of_ble_eq_true rfl) rfl ?_
    refine w_aln (p := 70) (q60 69) rfl rfl ?_
    refine w_iln (p := 71) (q60 70) rfl rfl ?_
    refine w_iln (p := 72) (q60 71) rfl rfl ?_
    refine w_il (p := 74) (q60 72) rfl rfl ?_
    refine w_call (st := []) (as := [.ref 38, iv (zz s4 39 3), iv v3, iv v10]) (as' := [iv v10, iv v3, iv (zz s4 39 3), .ref 38]) (p := 77) (q60 74) rfl m78 (by decide) (a_ok_i rfl (r38 hB) rfl) rfl rfl (Nat.le_of_ble_eq_true rfl) (by omega) rfl rfl (a_W.imp w ?_)
    rintro _ ⟨v13, s11, l12, rfl, w⟩
    refine ⟨some (iv v13), _, rfl, ?_⟩
    show a_W _ 60 77 [.ref 38, iv x1, iv v3, iv (zz s4 39 3), iv v10] [iv v13] (mkH B s11 l12) _
    exact w_ret (q60 77) rfl w
  · replace w := w.2 (Int.not_lt.mp c7)
    refine w_i2f (p := 6) (q61 3) rfl h6 (by decide) c7 ?_
    refine w_aln (p := 7) (q61 6) rfl rfl ?_
    refine w_bp (p := 9) (q61 7) rfl (by decide) ?_
    refine w_call (st := []) (as := [.ref 1, iv 8]) (as' := [iv 8, .ref 1]) (p := 12) (q61 9) rfl m28 (by decide) (a_ok_i rfl (r1 hB) rfl) rfl rfl (Nat.le_of_ble_eq_true rfl) (by omega) rfl rfl ?_
    refine w_aln (p := 1) (q28 0) rfl rfl ?_
    refine w_iln (p := 2) (q28 1) rfl rfl ?_
    refine w_aln (p := 3) (q28 2) rfl rfl ?_
    refine w_gI (p := 6) (j := 7) (v := (zz s4 1 7)) (q28 3) rfl (r1 hB) (by decide) (iv_zz s4 1 7) ?_
    refine w_call (st := []) (as := [.ref 1, iv 8, iv (zz s4 1 7)]) (as' := [iv (zz s4 1 7), iv 8, .ref 1]) (p := 9) (q28 6) rfl m29 (by decide) (a_ok_i rfl (r1 hB) rfl) rfl rfl (Nat.le_of_ble_eq_true rfl) (by omega) rfl rfl ?_
    refine w_aln (p := 1) (q29 0) rfl rfl ?_
    refine w_gI (p := 4) (j := 10) (v := (zz s4 1 10)) (q29 1) rfl (r1 hB) (by decide) (iv_zz s4 1 10) ?_
    by_cases c14 : (zz s4 1 10) ≠ 0
    · replace w := w.1 c14
      refine w_i1t (q29 4) (inR_zz _ _ _) c14 ?_
      refine w_rv (q29 22) rfl ⟨_, _, rfl, ?_⟩
      show a_W _ 28 9 [.ref 1, iv 8] [] _ _
      refine w_rv (q28 9) rfl ⟨_, _, rfl, ?_⟩
      show a_W _ 61 12 [.ref 1, iv x1] [] _ _
      refine w_ic (p := 13) (q61 12) rfl ?_
      refine w_ret (q61 13) rfl ⟨_, _, rfl, ?_⟩
      show a_W _ 60 47 [.ref 38, iv x1, iv v3, .retAddr 0, .retAddr 0] [iv 1] _ _
      refine w_i1f (p := 50) (q60 47) rfl (by decide) (show ¬ zc _ _ _ by unfold zc; omega) ?_
      refine w_ic (p := 51) (q60 50) rfl ?_
      exact w_ret (q60 51) rfl w
    · replace w := w.2 (Decidable.not_not.mp c14)
      refine w_i1f (p := 7) (q29 4) rfl (inR_zz _ _ _) c14 ?_
      refine w_aln (p := 8) (q29 7) rfl rfl ?_
      refine w_iln (p := 9) (q29 8) rfl rfl ?_
      refine w_pI (p := 12) (j := 10) (q29 9) rfl (r1 hB) (by decide) rfl ?_
      refine w_aln (p := 13) (q29 12) rfl rfl ?_
      refine w_iln (p := 14) (q29 13) rfl rfl ?_
      refine w_pI (p := 17) (j := 11) (q29 14) rfl (r1 hB) (by decide) rfl ?_
      refine w_aln (p := 18) (q29 17) rfl rfl ?_
      refine w_ic (p := 19) (q29 18) rfl ?_
      refine w_pI (p := 22) (j := 6) (q29 19) rfl (r1 hB) (by decide) rfl ?_
      refine w_rv (q29 22) rfl ⟨_, _, rfl, ?_⟩
      show a_W _ 28 9 [.ref 1, iv 8] [] _ _
      refine w_rv (q28 9) rfl ⟨_, _, rfl, ?_⟩
      show a_W _ 61 12 [.ref 1, iv x1] [] _ _
      refine w_ic (p := 13) (q61 12) rfl ?_
      refine w_ret (q61 13) rfl ⟨_, _, rfl, ?_⟩
      show a_W _ 60 47 [.ref 38, iv x1, iv v3, .retAddr 0, .retAddr 0] [iv 1] _ _
      refine w_i1f (p := 50) (q60 47) rfl (by decide) (show ¬ zc _ _ _ by unfold zc; omega) ?_
      refine w_ic (p := 51) (q60 50) rfl ?_
      exact w_ret (q60 51) rfl w
theorem w78_0 {d : Nat} {B : aH} {Q : aR → Prop} (hB : a_Can B) (x1 x2 x3 : Int) (s : Nat → Nat → Int32) (l : Nat → Nat → Int64) (w : a_W d 78 3 [.ref 38, iv x1, iv x2, iv x3, iv x3] [] (mkH B s l) Q) : a_W d 78 0 [.ref 38, iv x1, iv x2, iv x3, .retAddr 0] [] (mkH B s l) Q := by
  refine w_iln (p := 1) (q78 0) rfl rfl ?_
  refine w_is (p := 3) (ls' := [.ref 38, iv x1, iv x2, iv x3, iv x3]) (q78 1) rfl (Nat.le_of_ble_eq_true rfl) rfl ?_
  exact w
theorem w78_3 {d : Nat} {B : aH} {Q : aR → Prop} (hB : a_Can B) (hd : 1 ≤ d) (x1 x2 x3 x4 : Int) (s : Nat → Nat → Int32) (l : Nat → Nat → Int64) (w : (inR x1 ∧ (((zz s 39 3) ≤ x1 → Q (.inl (some (iv x4)), (mkH B s l))) ∧ (x1 < (zz s 39 3) → ((0 ≤ ((zz s 39 3) - 1) ∧ ((zz s 39 3) - 1) < 500) ∧ a_W (d - 1) 80 0 [.ref 45, iv (zz s 42 ((zz s 39 3) - 1).toNat), iv x4] [] (mkH B (zu s 39 3 ((zz s 39 3) - 1)) l) (fun r => ∃ (v6 : Int) (s4 : Nat → Nat → Int32) (l5 : Nat → Nat → Int64), r = (.inl (some (iv v6)), mkH B s4 l5) ∧ (inR x2 ∧ ((x2 < 0 → a_W d 78 3 [.ref 38, iv x1, iv x2, iv x3, iv v6] [] (mkH B s4 l5) Q) ∧ (0 ≤ x2 → a_W (d - 1) 82 0 [.ref 38, iv x2] [] (mkH B s4 l5) (fun r => ∃ (v11 : Int) (s9 : Nat → Nat → Int32) (l10 : Nat → Nat → Int64), r = (.inl (some (iv v11)), mkH B s9 l10) ∧ a_W (d - 1) 87 0 [.ref 45, iv v11, iv v6, .retAddr 0] [] (mkH B s9 l10) (fun r => ∃ (v14 : Int) (s12 : Nat → Nat → Int32) (l13 : Nat → Nat → Int64), r = (.inl (some (iv v14)), mkH B s12 l13) ∧ a_W d 78 3 [.ref 38, iv x1, iv x2, iv x3, iv v14] [] (mkH B s12 l13) Q))))))))))) : a_W d 78 3 [.ref 38, iv x1, iv x2, iv x3, iv x4] [] (mkH B s l) Q := by
  refine w_aln (p := 4) (q78 3) rfl rfl ?_
  refine w_gR (p := 7) (j := 4) (v := 39) (q78 4) rfl (r38 hB) (by decide) (f38_4 hB) ?_
  refine w_gI (p := 10) (j := 3) (v := (zz s 39 3)) (q78 7) rfl (r39 hB) (by decide) (iv_zz s 39 3) ?_
  refine w_iln (p := 11) (q78 10) rfl rfl ?_
  obtain ⟨h1, w⟩ := w
  by_cases c2 : (zz s 39 3) ≤ x1
  · replace w := w.1 c2
    refine w_i2t (q78 11) (inR_zz _ _ _) h1 c2 ?_
    refine w_il (p := 77) (q78 75) rfl rfl ?_
    exact w_ret (q78 77) rfl w
  · replace w := w.2 (Int.not_le.mp c2)
    refine w_i2f (p := 14) (q78 11) rfl (inR_zz _ _ _) h1 c2 ?_
    refine w_aln (p := 15) (q78 14) rfl rfl ?_
    refine w_gR (p := 18) (j := 4) (v := 39) (q78 15) rfl (r38 hB) (by decide) (f38_4 hB) ?_
    refine w_dupr (p := 19) (q78 18) rfl ?_
    refine w_gI (p := 22) (j := 3) (v := (zz s 39 3)) (q78 19) rfl (r39 hB) (by decide) (iv_zz s 39 3) ?_
    refine w_ic (p := 23) (q78 22) rfl ?_
    refine w_sub (p := 24) (q78 23) rfl ?_
    refine w_pI (p := 27) (j := 3) (q78 24) rfl (r39 hB) (by decide) rfl ?_
    refine w_aln (p := 28) (q78 27) rfl rfl ?_
    refine w_gR (p := 31) (j := 5) (v := 45) (q78 28) rfl (r38 hB) (by decide) (f38_5 hB) ?_
    refine w_aln (p := 32) (q78 31) rfl rfl ?_
    refine w_gR (p := 35) (j := 4) (v := 39) (q78 32) rfl (r38 hB) (by decide) (f38_4 hB) ?_
    refine w_aln (p := 36) (q78 35) rfl rfl ?_
    refine w_gR (p := 39) (j := 4) (v := 39) (q78 36) rfl (r38 hB) (by decide) (f38_4 hB) ?_
    refine w_gI (p := 42) (j := 3) (v := ((zz s 39 3) - 1)) (q78 39) rfl (r39 hB) (by decide) rfl ?_
    refine w_call (st := [.ref 45]) (as := [.ref 39, iv ((zz s 39 3) - 1)]) (as' := [iv ((zz s 39 3) - 1), .ref 39]) (p := 45) (q78 42) rfl m79 (by decide) (a_ok_i rfl (r39 hB) rfl) rfl rfl (Nat.le_of_ble_eq_true rfl) (by omega) rfl rfl ?_
    refine w_aln (p := 1) (q79 0) rfl rfl ?_
    refine w_gR (p := 4) (j := 2) (v := 42) (q79 1) rfl (r39 hB) (by decide) (f39_2 hB) ?_
    refine w_iln (p := 5) (q79 4) rfl rfl ?_
    obtain ⟨o3, w⟩ := w
    refine w_ia (p := 6) (v := (zz s 42 ((zz s 39 3) - 1).toNat)) (q79 5) rfl (r42 hB) (by decide) o3 (iv_zz s 42 ((zz s 39 3) - 1).toNat) ?_
    refine w_ret (q79 6) rfl ⟨_, _, rfl, ?_⟩
    show a_W _ 78 45 [.ref 38, iv x1, iv x2, iv x3, iv x4] [iv (zz s 42 ((zz s 39 3) - 1).toNat), .ref 45] _ _
    refine w_il (p := 47) (q78 45) rfl rfl ?_
    refine w_call (st := []) (as := [.ref 45, iv (zz s 42 ((zz s 39 3) - 1).toNat), iv x4]) (as' := [iv x4, iv (zz s 42 ((zz s 39 3) - 1).toNat), .ref 45]) (p := 50) (q78 47) rfl m80 (by decide) (a_ok_i rfl (r45 hB) rfl) rfl rfl (Nat.le_of_ble_eq_true rfl) (by omega) rfl rfl (a_W.imp w ?_)
    rintro _ ⟨v6, s4, l5, rfl, w⟩
    refine ⟨some (iv v6), _, rfl, ?_⟩
    show a_W _ 78 50 [.ref 38, iv x1, iv x2, iv x3, iv x4] [iv v6] (mkH B s4 l5) _
    refine w_is (p := 52) (ls' := [.ref 38, iv x1, iv x2, iv x3, iv v6]) (q78 50) rfl (Nat.le_of_ble_eq_true rfl) rfl ?_
    refine w_iln (p := 53) (q78 52) rfl rfl ?_
    obtain ⟨h7, w⟩ := w
    by_cases c8 : x2 < 0
    · replace w := w.1 c8
      refine w_i1t (q78 53) h7 c8 ?_
      exact w
    · replace w := w.2 (Int.not_lt.mp c8)
      refine w_i1f (p := 56) (q78 53) rfl h7 c8 ?_
      refine w_aln (p := 57) (q78 56) rfl rfl ?_
      refine w_gR (p := 60) (j := 5) (v := 45) (q78 57) rfl (r38 hB) (by decide) (f38_5 hB) ?_
      refine w_aln (p := 61) (q78 60) rfl rfl ?_
      refine w_iln (p := 62) (q78 61) rfl rfl ?_
      refine w_call (st := [.ref 45]) (as := [.ref 38, iv x2]) (as' := [iv x2, .ref 38]) (p := 65) (q78 62) rfl m82 (by decide) (a_ok_i rfl (r38 hB) rfl) rfl rfl (Nat.le_of_ble_eq_true rfl) (by omega) rfl rfl (a_W.imp w ?_)
      rintro _ ⟨v11, s9, l10, rfl, w⟩
      refine ⟨some (iv v11), _, rfl, ?_⟩
      show a_W _ 78 65 [.ref 38, iv x1, iv x2, iv x3, iv v6] [iv v11, .ref 45] (mkH B s9 l10) _
      refine w_il (p := 67) (q78 65) rfl rfl ?_
      refine w_call (st := []) (as := [.ref 45, iv v11, iv v6]) (as' := [iv v6, iv v11, .ref 45]) (p := 70) (q78 67) rfl m87 (by decide) (a_ok_i rfl (r45 hB) rfl) rfl rfl (Nat.le_of_ble_eq_true rfl) (by omega) rfl rfl (a_W.imp w ?_)
      rintro _ ⟨v14, s12, l13, rfl, w⟩
      refine ⟨some (iv v14), _, rfl, ?_⟩
      show a_W _ 78 70 [.ref 38, iv x1, iv x2, iv x3, iv v6] [iv v14] (mkH B s12 l13) _
      refine w_is (p := 72) (ls' := [.ref 38, iv x1, iv x2, iv x3, iv v14]) (q78 70) rfl (Nat.le_of_ble_eq_true rfl) rfl ?_
      refine w_goto (q78 72) ?_
      exact w
theorem w38_0 {d : Nat} {B : aH} {Q : aR → Prop} (hB : a_Can B) (x1 : Int) (s : Nat → Nat → Int32) (l : Nat → Nat → Int64) (w : a_W d 38 2 [.ref 38, iv x1, iv 0, .retAddr 0, .retAddr 0, .retAddr 0] [] (mkH B s l) Q) : a_W d 38 0 [.ref 38, iv x1, .retAddr 0, .retAddr 0, .retAddr 0, .retAddr 0] [] (mkH B s l) Q := by
  refine w_ic (p := 1) (q38 0) rfl ?_
  refine w_isn (p := 2) (ls' := [.ref 38, iv x1, iv 0, .retAddr 0, .retAddr 0, .retAddr 0]) (q38 1) rfl (Nat.le_of_ble_eq_true rfl) rfl ?_
  exact w
theorem w38_2 {d : Nat} {B : aH} {Q : aR → Prop} (hB : a_Can B) (x1 x2 : Int) (u3 u4 u5 : Value) (s : Nat → Nat → Int32) (l : Nat → Nat → Int64) (w : (inR x2 ∧ ((6000 ≤ x2 → a_W d 38 164 [.ref 38, iv x1, iv x2, u3, u4, u5] [] (mkH B s l) Q) ∧ (x2 < 6000 → ((x2 = 0 → a_W d 38 35 [.ref 38, iv x1, iv x2, u3, u4, u5] [] (mkH B s l) Q) ∧ (x2 ≠ 0 → (((zz s 1 6) = 1 → a_W d 38 35 [.ref 38, iv x1, iv x2, u3, u4, u5] [] (mkH B s l) Q) ∧ ((zz s 1 6) ≠ 1 → (((zz s 1 6) ≠ 4 → a_W d 38 164 [.ref 38, iv x1, iv x2, u3, u4, u5] [] (mkH B s l) Q) ∧ ((zz s 1 6) = 4 → a_W d 38 35 [.ref 38, iv x1, iv x2, u3, u4, u5] [] (mkH B s l) Q)))))))))) : a_W d 38 2 [.ref 38, iv x1, iv x2, u3, u4, u5] [] (mkH B s l) Q := by
  refine w_iln (p := 3) (q38 2) rfl rfl ?_
  refine w_sp (p := 6) (q38 3) rfl (by decide) ?_
  obtain ⟨h1, w⟩ := w
  by_cases c2 : 6000 ≤ x2
  · replace w := w.1 c2
    refine w_i2t (q38 6) h1 (by decide) c2 ?_
    exact w
  · replace w := w.2 (Int.not_le.mp c2)
    refine w_i2f (p := 9) (q38 6) rfl h1 (by decide) c2 ?_
    refine w_iln (p := 10) (q38 9) rfl rfl ?_
    by_cases c3 : x2 = 0
    · replace w := w.1 c3
      refine w_i1t (q38 10) h1 c3 ?_
      exact w
    · replace w := w.2 c3
      refine w_i1f (p := 13) (q38 10) rfl h1 c3 ?_
      refine w_aln (p := 14) (q38 13) rfl rfl ?_
      refine w_gR (p := 17) (j := 0) (v := 1) (q38 14) rfl (r38 hB) (by decide) (f38_0 hB) ?_
      refine w_gI (p := 20) (j := 6) (v := (zz s 1 6)) (q38 17) rfl (r1 hB) (by decide) (iv_zz s 1 6) ?_
      refine w_ic (p := 21) (q38 20) rfl ?_
      by_cases c4 : (zz s 1 6) = 1
      · replace w := w.1 c4
        refine w_i2t (q38 21) (inR_zz _ _ _) (by decide) c4 ?_
        exact w
      · replace w := w.2 c4
        refine w_i2f (p := 24) (q38 21) rfl (inR_zz _ _ _) (by decide) c4 ?_
        refine w_aln (p := 25) (q38 24) rfl rfl ?_
        refine w_gR (p := 28) (j := 0) (v := 1) (q38 25) rfl (r38 hB) (by decide) (f38_0 hB) ?_
        refine w_gI (p := 31) (j := 6) (v := (zz s 1 6)) (q38 28) rfl (r1 hB) (by decide) (iv_zz s 1 6) ?_
        refine w_ic (p := 32) (q38 31) rfl ?_
        by_cases c5 : (zz s 1 6) ≠ 4
        · replace w := w.1 c5
          refine w_i2t (q38 32) (inR_zz _ _ _) (by decide) c5 ?_
          exact w
        · replace w := w.2 (Decidable.not_not.mp c5)
          refine w_i2f (p := 35) (q38 32) rfl (inR_zz _ _ _) (by decide) c5 ?_
          exact w
theorem w38_35 {d : Nat} {B : aH} {Q : aR → Prop} (hB : a_Can B) (hd : 1 ≤ d) (x1 x2 : Int) (u3 u4 u5 : Value) (s : Nat → Nat → Int32) (l : Nat → Nat → Int64) (w : (((zz s 1 6) ≠ 4 → a_W d 38 63 [.ref 38, iv x1, iv x2, iv 0, u4, u5] [] (mkH B s l) Q) ∧ ((zz s 1 6) = 4 → a_W (d - 1) 24 0 [.ref 1, .retAddr 0] [] (mkH B s l) (fun r => ∃ (s2 : Nat → Nat → Int32) (l3 : Nat → Nat → Int64), r = (.inl none, mkH B s2 l3) ∧ a_W d 38 63 [.ref 38, iv x1, iv x2, iv 1, u4, u5] [] (mkH B s2 l3) Q)))) : a_W d 38 35 [.ref 38, iv x1, iv x2, u3, u4, u5] [] (mkH B s l) Q := by
  refine w_aln (p := 36) (q38 35) rfl rfl ?_
  refine w_gR (p := 39) (j := 0) (v := 1) (q38 36) rfl (r38 hB) (by decide) (f38_0 hB) ?_
  refine w_gI (p := 42) (j := 6) (v := (zz s 1 6)) (q38 39) rfl (r1 hB) (by decide) (iv_zz s 1 6) ?_
  refine w_ic (p := 43) (q38 42) rfl ?_
  by_cases c1 : (zz s 1 6) ≠ 4
  · replace w := w.1 c1
    refine w_i2t (q38 43) (inR_zz _ _ _) (by decide) c1 ?_
    refine w_ic (p := 51) (q38 50) rfl ?_
    refine w_isn (p := 52) (ls' := [.ref 38, iv x1, iv x2, iv 0, u4, u5]) (q38 51) rfl (Nat.le_of_ble_eq_true rfl) rfl ?_
    refine w_iln (p := 53) (q38 52) rfl rfl ?_
    refine w_i1t (q38 53) (by decide) (show zc _ _ _ by unfold zc; omega) ?_
    exact w
  · replace w := w.2 (Decidable.not_not.mp c1)
    refine w_i2f (p := 46) (q38 43) rfl (inR_zz _ _ _) (by decide) c1 ?_
    refine w_ic (p := 47) (q38 46) rfl ?_
    refine w_goto (q38 47) ?_
    refine w_isn (p := 52) (ls' := [.ref 38, iv x1, iv x2, iv 1, u4, u5]) (q38 51) rfl (Nat.le_of_ble_eq_true rfl) rfl ?_
    refine w_iln (p := 53) (q38 52) rfl rfl ?_
    refine w_i1f (p := 56) (q38 53) rfl (by decide) (show ¬ zc _ _ _ by unfold zc; omega) ?_
    refine w_aln (p := 57) (q38 56) rfl rfl ?_
    refine w_gR (p := 60) (j := 0) (v := 1) (q38 57) rfl (r38 hB) (by decide) (f38_0 hB) ?_
    refine w_call (st := []) (as := [.ref 1]) (as' := [.ref 1]) (p := 63) (q38 60) rfl m24 (by decide) (a_ok_i rfl (r1 hB) rfl) rfl rfl (Nat.le_of_ble_eq_true rfl) (by omega) rfl rfl (a_W.imp w ?_)
    rintro _ ⟨s2, l3, rfl, w⟩
    refine ⟨none, _, rfl, ?_⟩
    show a_W _ 38 63 [.ref 38, iv x1, iv x2, iv 1, u4, u5] [] (mkH B s2 l3) _
    exact w
theorem w38_63 {d : Nat} {B : aH} {Q : aR → Prop} (hB : a_Can B) (hd : 2 ≤ d) (x1 x2 x3 : Int) (u4 u5 : Value) (s : Nat → Nat → Int32) (l : Nat → Nat → Int64) (w : a_W (d - 1) 63 0 [.ref 1, iv 1] [] (mkH B s l) (fun r => ∃ (s1 : Nat → Nat → Int32) (l2 : Nat → Nat → Int64), r = (.inl none, mkH B s1 l2) ∧ (inR x3 ∧ ((x3 = 0 → (((zz s1 45 7) = 0 → a_W (d - 1) 47 0 [.ref 17] [] (mkH B s1 l2) (fun r => ∃ (v8 : Int) (s6 : Nat → Nat → Int32) (l7 : Nat → Nat → Int64), r = (.inl (some (iv v8)), mkH B s6 l7) ∧ (((zz s6 39 3) < 500 → ((0 ≤ (zz s6 39 3) ∧ (zz s6 39 3) < 500) ∧ a_W d 38 158 [.ref 38, iv x1, iv x2, iv x3, iv (zz s 1 7), iv (zz s 1 8)] [] (mkH B (zu (zu (zu (zu s6 40 (zz s6 39 3).toNat (zz s 1 7)) 41 (zz s6 39 3).toNat (zz s 1 8)) 42 (zz s6 39 3).toNat v8) 39 3 ((zz s6 39 3) + 1)) l7) Q)) ∧ (500 ≤ (zz s6 39 3) → a_W d 38 158 [.ref 38, iv x1, iv x2, iv x3, iv (zz s 1 7), iv (zz s 1 8)] [] (mkH B (zu s6 45 7 1) l7) Q)))) ∧ ((zz s1 45 7) ≠ 0 → (((zz s1 39 3) < 500 → ((0 ≤ (zz s1 39 3) ∧ (zz s1 39 3) < 500) ∧ a_W d 38 158 [.ref 38, iv x1, iv x2, iv x3, iv (zz s 1 7), iv (zz s 1 8)] [] (mkH B (zu (zu (zu (zu s1 40 (zz s1 39 3).toNat (zz s 1 7)) 41 (zz s1 39 3).toNat (zz s 1 8)) 42 (zz s1 39 3).toNat 0) 39 3 ((zz s1 39 3) + 1)) l2) Q)) ∧ (500 ≤ (zz s1 39 3) → a_W d 38 158 [.ref 38, iv x1, iv x2, iv x3, iv (zz s 1 7), iv (zz s 1 8)] [] (mkH B (zu s1 45 7 1) l2) Q))))) ∧ (x3 ≠ 0 → a_W (d - 1) 63 0 [.ref 1, iv 6] [] (mkH B s1 l2) (fun r => ∃ (s13 : Nat → Nat → Int32) (l14 : Nat → Nat → Int64), r = (.inl none, mkH B s13 l14) ∧ a_W (d - 1) 65 0 [.ref 36, iv x1, .retAddr 0, .retAddr 0, .retAddr 0] [] (mkH B s13 l14) (fun r => ∃ (v17 : Int) (s15 : Nat → Nat → Int32) (l16 : Nat → Nat → Int64), r = (.inl (some (iv v17)), mkH B s15 l16) ∧ (((zz s15 39 3) < 500 → ((0 ≤ (zz s15 39 3) ∧ (zz s15 39 3) < 500) ∧ a_W (d - 1) 63 0 [.ref 1, iv 5] [] (mkH B (zu (zu (zu (zu s15 40 (zz s15 39 3).toNat (zz s 1 7)) 41 (zz s15 39 3).toNat (zz s 1 8)) 42 (zz s15 39 3).toNat v17) 39 3 ((zz s15 39 3) + 1)) l16) (fun r => ∃ (s20 : Nat → Nat → Int32) (l21 : Nat → Nat → Int64), r = (.inl none, mkH B s20 l21) ∧ a_W d 38 158 [.ref 38, iv x1, iv x2, iv x3, iv (zz s 1 7), iv (zz s 1 8)] [] (mkH B s20 l21) Q))) ∧ (500 ≤ (zz s15 39 3) → a_W (d - 1) 63 0 [.ref 1, iv 5] [] (mkH B (zu s15 45 7 1) l16) (fun r => ∃ (s22 : Nat → Nat → Int32) (l23 : Nat → Nat → Int64), r = (.inl none, mkH B s22 l23) ∧ a_W d 38 158 [.ref 38, iv x1, iv x2, iv x3, iv (zz s 1 7), iv (zz s 1 8)] [] (mkH B s22 l23) Q)))))))))) : a_W d 38 63 [.ref 38, iv x1, iv x2, iv x3, u4, u5] [] (mkH B s l) Q := by
  refine w_aln (p := 64) (q38 63) rfl rfl ?_
  refine w_gR (p := 67) (j := 0) (v := 1) (q38 64) rfl (r38 hB) (by decide) (f38_0 hB) ?_
  refine w_gI (p := 70) (j := 7) (v := (zz s 1 7)) (q38 67) rfl (r1 hB) (by decide) (iv_zz s 1 7) ?_
  refine w_is (p := 72) (ls' := [.ref 38, iv x1, iv x2, iv x3, iv (zz s 1 7), u5]) (q38 70) rfl (Nat.le_of_ble_eq_true rfl) rfl ?_
  refine w_aln (p := 73) (q38 72) rfl rfl ?_
  refine w_gR (p := 76) (j := 0) (v := 1) (q38 73) rfl (r38 hB) (by decide) (f38_0 hB) ?_
  refine w_gI (p := 79) (j := 8) (v := (zz s 1 8)) (q38 76) rfl (r1 hB) (by decide) (iv_zz s 1 8) ?_
  refine w_is (p := 81) (ls' := [.ref 38, iv x1, iv x2, iv x3, iv (zz s 1 7), iv (zz s 1 8)]) (q38 79) rfl (Nat.le_of_ble_eq_true rfl) rfl ?_
  refine w_aln (p := 82) (q38 81) rfl rfl ?_
  refine w_gR (p := 85) (j := 0) (v := 1) (q38 82) rfl (r38 hB) (by decide) (f38_0 hB) ?_
  refine w_ic (p := 86) (q38 85) rfl ?_
  refine w_call (st := []) (as := [.ref 1, iv 1]) (as' := [iv 1, .ref 1]) (p := 89) (q38 86) rfl m63 (by decide) (a_ok_i rfl (r1 hB) rfl) rfl rfl (Nat.le_of_ble_eq_true rfl) (by omega) rfl rfl (a_W.imp w ?_)
  rintro _ ⟨s1, l2, rfl, w⟩
  refine ⟨none, _, rfl, ?_⟩
  show a_W _ 38 89 [.ref 38, iv x1, iv x2, iv x3, iv (zz s 1 7), iv (zz s 1 8)] [] (mkH B s1 l2) _
  refine w_iln (p := 90) (q38 89) rfl rfl ?_
  obtain ⟨h3, w⟩ := w
  by_cases c4 : x3 = 0
  · replace w := w.1 c4
    refine w_i1t (q38 90) h3 c4 ?_
    refine w_aln (p := 130) (q38 129) rfl rfl ?_
    refine w_il (p := 132) (q38 130) rfl rfl ?_
    refine w_il (p := 134) (q38 132) rfl rfl ?_
    refine w_aln (p := 135) (q38 134) rfl rfl ?_
    refine w_gR (p := 138) (j := 5) (v := 45) (q38 135) rfl (r38 hB) (by decide) (f38_5 hB) ?_
    refine w_gI (p := 141) (j := 7) (v := (zz s1 45 7)) (q38 138) rfl (r45 hB) (by decide) (iv_zz s1 45 7) ?_
    by_cases c5 : (zz s1 45 7) = 0
    · replace w := w.1 c5
      refine w_i1t (q38 141) (inR_zz _ _ _) c5 ?_
      refine w_aln (p := 149) (q38 148) rfl rfl ?_
      refine w_gR (p := 152) (j := 2) (v := 17) (q38 149) rfl (r38 hB) (by decide) (f38_2 hB) ?_
      refine w_call (st := [iv (zz s 1 8), iv (zz s 1 7), .ref 38]) (as := [.ref 17]) (as' := [.ref 17]) (p := 155) (q38 152) rfl m47 (by decide) (a_ok_i rfl (r17 hB) rfl) rfl rfl (Nat.le_of_ble_eq_true rfl) (by omega) rfl rfl (a_W.imp w ?_)
      rintro _ ⟨v8, s6, l7, rfl, w⟩
      refine ⟨some (iv v8), _, rfl, ?_⟩
      show a_W _ 38 155 [.ref 38, iv x1, iv x2, iv x3, iv (zz s 1 7), iv (zz s 1 8)] [iv v8, iv (zz s 1 8), iv (zz s 1 7), .ref 38] (mkH B s6 l7) _
      refine w_call (st := []) (as := [.ref 38, iv (zz s 1 7), iv (zz s 1 8), iv v8]) (as' := [iv v8, iv (zz s 1 8), iv (zz s 1 7), .ref 38]) (p := 158) (q38 155) rfl m62 (by decide) (a_ok_i rfl (r38 hB) rfl) rfl rfl (Nat.le_of_ble_eq_true rfl) (by omega) rfl rfl ?_
      refine w_aln (p := 1) (q62 0) rfl rfl ?_
      refine w_gR (p := 4) (j := 4) (v := 39) (q62 1) rfl (r38 hB) (by decide) (f38_4 hB) ?_
      refine w_call (st := []) (as := [.ref 39]) (as' := [.ref 39]) (p := 7) (q62 4) rfl m76 (by decide) (a_ok_i rfl (r39 hB) rfl) rfl rfl (Nat.le_of_ble_eq_true rfl) (by omega) rfl rfl ?_
      refine w_aln (p := 1) (q76 0) rfl rfl ?_
      refine w_gI (p := 4) (j := 3) (v := (zz s6 39 3)) (q76 1) rfl (r39 hB) (by decide) (iv_zz s6 39 3) ?_
      refine w_sp (p := 7) (q76 4) rfl (by decide) ?_
      by_cases c9 : (zz s6 39 3) < 500
      · replace w := w.1 c9
        refine w_i2t (q76 7) (inR_zz _ _ _) (by decide) c9 ?_
        refine w_ic (p := 15) (q76 14) rfl ?_
        refine w_ret (q76 15) rfl ⟨_, _, rfl, ?_⟩
        show a_W _ 62 7 [.ref 38, iv (zz s 1 7), iv (zz s 1 8), iv v8] [iv 0] _ _
        refine w_i1t (q62 7) (by decide) (show zc _ _ _ by unfold zc; omega) ?_
        refine w_aln (p := 22) (q62 21) rfl rfl ?_
        refine w_gR (p := 25) (j := 4) (v := 39) (q62 22) rfl (r38 hB) (by decide) (f38_4 hB) ?_
        refine w_iln (p := 26) (q62 25) rfl rfl ?_
        refine w_iln (p := 27) (q62 26) rfl rfl ?_
        refine w_iln (p := 28) (q62 27) rfl rfl ?_
        refine w_call (st := []) (as := [.ref 39, iv (zz s 1 7), iv (zz s 1 8), iv v8]) (as' := [iv v8, iv (zz s 1 8), iv (zz s 1 7), .ref 39]) (p := 31) (q62 28) rfl m77 (by decide) (a_ok_i rfl (r39 hB) rfl) rfl rfl (Nat.le_of_ble_eq_true rfl) (by omega) rfl rfl ?_
        refine w_aln (p := 1) (q77 0) rfl rfl ?_
        refine w_gR (p := 4) (j := 0) (v := 40) (q77 1) rfl (r39 hB) (by decide) (f39_0 hB) ?_
        refine w_aln (p := 5) (q77 4) rfl rfl ?_
        refine w_gI (p := 8) (j := 3) (v := (zz s6 39 3)) (q77 5) rfl (r39 hB) (by decide) (iv_zz s6 39 3) ?_
        refine w_iln (p := 9) (q77 8) rfl rfl ?_
        obtain ⟨o10, w⟩ := w
        refine w_ias (p := 10) (q77 9) rfl (r40 hB) (by decide) o10 ?_
        refine w_aln (p := 11) (q77 10) rfl rfl ?_
        refine w_gR (p := 14) (j := 1) (v := 41) (q77 11) rfl (r39 hB) (by decide) (f39_1 hB) ?_
        refine w_aln (p := 15) (q77 14) rfl rfl ?_
        refine w_gI (p := 18) (j := 3) (v := (zz s6 39 3)) (q77 15) rfl (r39 hB) (by decide) (iv_zz s6 39 3) ?_
        refine w_iln (p := 19) (q77 18) rfl rfl ?_
        refine w_ias (p := 20) (q77 19) rfl (r41 hB) (by decide) o10 ?_
        refine w_aln (p := 21) (q77 20) rfl rfl ?_
        refine w_gR (p := 24) (j := 2) (v := 42) (q77 21) rfl (r39 hB) (by decide) (f39_2 hB) ?_
        refine w_aln (p := 25) (q77 24) rfl rfl ?_
        refine w_gI (p := 28) (j := 3) (v := (zz s6 39 3)) (q77 25) rfl (r39 hB) (by decide) (iv_zz s6 39 3) ?_
        refine w_iln (p := 29) (q77 28) rfl rfl ?_
        refine w_ias (p := 30) (q77 29) rfl (r42 hB) (by decide) o10 ?_
        refine w_aln (p := 31) (q77 30) rfl rfl ?_
        refine w_dupr (p := 32) (q77 31) rfl ?_
        refine w_gI (p := 35) (j := 3) (v := (zz s6 39 3)) (q77 32) rfl (r39 hB) (by decide) (iv_zz s6 39 3) ?_
        refine w_ic (p := 36) (q77 35) rfl ?_
        refine w_add (p := 37) (q77 36) rfl ?_
        refine w_pI (p := 40) (j := 3) (q77 37) rfl (r39 hB) (by decide) rfl ?_
        refine w_rv (q77 40) rfl ⟨_, _, rfl, ?_⟩
        show a_W _ 62 31 [.ref 38, iv (zz s 1 7), iv (zz s 1 8), iv v8] [] _ _
        refine w_rv (q62 31) rfl ⟨_, _, rfl, ?_⟩
        show a_W _ 38 158 [.ref 38, iv x1, iv x2, iv x3, iv (zz s 1 7), iv (zz s 1 8)] [] _ _
        exact w
      · replace w := w.2 (Int.not_lt.mp c9)
        refine w_i2f (p := 10) (q76 7) rfl (inR_zz _ _ _) (by decide) c9 ?_
        refine w_ic (p := 11) (q76 10) rfl ?_
        refine w_goto (q76 11) ?_
        refine w_ret (q76 15) rfl ⟨_, _, rfl, ?_⟩
        show a_W _ 62 7 [.ref 38, iv (zz s 1 7), iv (zz s 1 8), iv v8] [iv 1] _ _
        refine w_i1f (p := 10) (q62 7) rfl (by decide) (show ¬ zc _ _ _ by unfold zc; omega) ?_
        refine w_aln (p := 11) (q62 10) rfl rfl ?_
        refine w_gR (p := 14) (j := 5) (v := 45) (q62 11) rfl (r38 hB) (by decide) (f38_5 hB) ?_
        refine w_ic (p := 15) (q62 14) rfl ?_
        refine w_pI (p := 18) (j := 7) (q62 15) rfl (r45 hB) (by decide) rfl ?_
        refine w_goto (q62 18) ?_
        refine w_rv (q62 31) rfl ⟨_, _, rfl, ?_⟩
        show a_W _ 38 158 [.ref 38, iv x1, iv x2, iv x3, iv (zz s 1 7), iv (zz s 1 8)] [] _ _
        exact w
    · replace w := w.2 c5
      refine w_i1f (p := 144) (q38 141) rfl (inR_zz _ _ _) c5 ?_
      refine w_ic (p := 145) (q38 144) rfl ?_
      refine w_goto (q38 145) ?_
      refine w_call (st := []) (as := [.ref 38, iv (zz s 1 7), iv (zz s 1 8), iv 0]) (as' := [iv 0, iv (zz s 1 8), iv (zz s 1 7), .ref 38]) (p := 158) (q38 155) rfl m62 (by decide) (a_ok_i rfl (r38 hB) rfl) rfl rfl (Nat.le_of_ble_eq_true rfl) (by omega) rfl rfl ?_
      refine w_aln (p := 1) (q62 0) rfl rfl ?_
      refine w_gR (p := 4) (j := 4) (v := 39) (q62 1) rfl (r38 hB) (by decide) (f38_4 hB) ?_
      refine w_call (st := []) (as := [.ref 39]) (as' := [.ref 39]) (p := 7) (q62 4) rfl m76 (by decide) (a_ok_i rfl (r39 hB) rfl) rfl rfl (Nat.le_of_ble_eq_true rfl) (by omega) rfl rfl ?_
      refine w_aln (p := 1) (q76 0) rfl rfl ?_
      refine w_gI (p := 4) (j := 3) (v := (zz s1 39 3)) (q76 1) rfl (r39 hB) (by decide) (iv_zz s1 39 3) ?_
      refine w_sp (p := 7) (q76 4) rfl (by decide) ?_
      by_cases c11 : (zz s1 39 3) < 500
      · replace w := w.1 c11
        refine w_i2t (q76 7) (inR_zz _ _ _) (by decide) c11 ?_
        refine w_ic (p := 15) (q76 14) rfl ?_
        refine w_ret (q76 15) rfl ⟨_, _, rfl, ?_⟩
        show a_W _ 62 7 [.ref 38, iv (zz s 1 7), iv (zz s 1 8), iv 0] [iv 0] _ _
        refine w_i1t (q62 7) (by decide) (show zc _ _ _ by unfold zc; omega) ?_
        refine w_aln (p := 22) (q62 21) rfl rfl ?_
        refine w_gR (p := 25) (j := 4) (v := 39) (q62 22) rfl (r38 hB) (by decide) (f38_4 hB) ?_
        refine w_iln (p := 26) (q62 25) rfl rfl ?_
        refine w_iln (p := 27) (q62 26) rfl rfl ?_
        refine w_iln (p := 28) (q62 27) rfl rfl ?_
        refine w_call (st := []) (as := [.ref 39, iv (zz s 1 7), iv (zz s 1 8), iv 0]) (as' := [iv 0, iv (zz s 1 8), iv (zz s 1 7), .ref 39]) (p := 31) (q62 28) rfl m77 (by decide) (a_ok_i rfl (r39 hB) rfl) rfl rfl (Nat.le_of_ble_eq_true rfl) (by omega) rfl rfl ?_
        refine w_aln (p := 1) (q77 0) rfl rfl ?_
        refine w_gR (p := 4) (j := 0) (v := 40) (q77 1) rfl (r39 hB) (by decide) (f39_0 hB) ?_
        refine w_aln (p := 5) (q77 4) rfl rfl ?_
        refine w_gI (p := 8) (j := 3) (v := (zz s1 39 3)) (q77 5) rfl (r39 hB) (by decide) (iv_zz s1 39 3) ?_
        refine w_iln (p := 9) (q77 8) rfl rfl ?_
        obtain ⟨o12, w⟩ := w
        refine w_ias (p := 10) (q77 9) rfl (r40 hB) (by decide) o12 ?_
        refine w_aln (p := 11) (q77 10) rfl rfl ?_
        refine w_gR (p := 14) (j := 1) (v := 41) (q77 11) rfl (r39 hB) (by decide) (f39_1 hB) ?_
        refine w_aln (p := 15) (q77 14) rfl rfl ?_
        refine w_gI (p := 18) (j := 3) (v := (zz s1 39 3)) (q77 15) rfl (r39 hB) (by decide) (iv_zz s1 39 3) ?_
        refine w_iln (p := 19) (q77 18) rfl rfl ?_
        refine w_ias (p := 20) (q77 19) rfl (r41 hB) (by decide) o12 ?_
        refine w_aln (p := 21) (q77 20) rfl rfl ?_
        refine w_gR (p := 24) (j := 2) (v := 42) (q77 21) rfl (r39 hB) (by decide) (f39_2 hB) ?_
        refine w_aln (p := 25) (q77 24) rfl rfl ?_
        refine w_gI (p := 28) (j := 3) (v := (zz s1 39 3)) (q77 25) rfl (r39 hB) (by decide) (iv_zz s1 39 3) ?_
        refine w_iln (p := 29) (q77 28) rfl rfl ?_
        refine w_ias (p := 30) (q77 29) rfl (r42 hB) (by decide) o12 ?_
        refine w_aln (p := 31) (q77 30) rfl rfl ?_
        refine w_dupr (p := 32) (q77 31) rfl ?_
        refine w_gI (p := 35) (j := 3) (v := (zz s1 39 3)) (q77 32) rfl (r39 hB) (by decide) (iv_zz s1 39 3) ?_
        refine w_ic (p := 36) (q77 35) rfl ?_
        refine w_add (p := 37) (q77 36) rfl ?_
        refine w_pI (p := 40) (j := 3) (q77 37) rfl (r39 hB) (by decide) rfl ?_
        refine w_rv (q77 40) rfl ⟨_, _, rfl, ?_⟩
        show a_W _ 62 31 [.ref 38, iv (zz s 1 7), iv (zz s 1 8), iv 0] [] _ _
        refine w_rv (q62 31) rfl ⟨_, _, rfl, ?_⟩
        show a_W _ 38 158 [.ref 38, iv x1, iv x2, iv x3, iv (zz s 1 7), iv (zz s 1 8)] [] _ _
        exact w
      · replace w := w.2 (Int.not_lt.mp c11)
        refine w_i2f (p := 10) (q76 7) rfl (inR_zz _ _ _) (by decide) c11 ?_
        refine w_ic (p := 11) (q76 10) rfl ?_
        refine w_goto (q76 11) ?_
        refine w_ret (q76 15) rfl ⟨_, _, rfl, ?_⟩
        show a_W _ 62 7 [.ref 38, iv (zz s 1 7), iv (zz s 1 8), iv 0] [iv 1] _ _
        refine w_i1f (p := 10) (q62 7) rfl (by decide) (show ¬ zc _ _ _ by unfold zc; omega) ?_
        refine w_aln (p := 11) (q62 10) rfl rfl ?_
        refine w_gR (p := 14) (j := 5) (v := 45) (q62 11) rfl (r38 hB) (by decide) (f38_5 hB) ?_
        refine w_ic (p := 15) (q62 14) rfl ?_
        refine w_pI (p := 18) (j := 7) (q62 15) rfl (r45 hB) (by decide) rfl ?_
        refine w_goto (q62 18) ?_
        refine w_rv (q62 31) rfl ⟨_, _, rfl, ?_⟩
        show a_W _ 38 158 [.ref 38, iv x1, iv x2, iv x3, iv (zz s 1 7), iv (zz s 1 8)] [] _ _
        exact w
  · replace w := w.2 c4
    refine w_i1f (p := 93) (q38 90) rfl h3 c4 ?_
    refine w_aln (p := 94) (q38 93) rfl rfl ?_
    refine w_gR (p := 97) (j := 0) (v := 1) (q38 94) rfl (r38 hB) (by decide) (f38_0 hB) ?_
    refine w_bp (p := 99) (q38 97) rfl (by decide) ?_
    refine w_call (st := []) (as := [.ref 1, iv 6]) (as' := [iv 6, .ref 1]) (p := 102) (q38 99) rfl m63 (by decide) (a_ok_i rfl (r1 hB) rfl) rfl rfl (Nat.le_of_ble_eq_true rfl) (by omega) rfl rfl (a_W.imp w ?_)
    rintro _ ⟨s13, l14, rfl, w⟩
    refine ⟨none, _, rfl, ?_⟩
    show a_W _ 38 102 [.ref 38, iv x1, iv x2, iv x3, iv (zz s 1 7), iv (zz s 1 8)] [] (mkH B s13 l14) _
    refine w_aln (p := 103) (q38 102) rfl rfl ?_
    refine w_il (p := 105) (q38 103) rfl rfl ?_
    refine w_il (p := 107) (q38 105) rfl rfl ?_
    refine w_aln (p := 108) (q38 107) rfl rfl ?_
    refine w_gR (p := 111) (j := 3) (v := 36) (q38 108) rfl (r38 hB) (by decide) (f38_3 hB) ?_
    refine w_iln (p := 112) (q38 111) rfl rfl ?_
    refine w_call (st := [iv (zz s 1 8), iv (zz s 1 7), .ref 38]) (as := [.ref 36, iv x1]) (as' := [iv x1, .ref 36]) (p := 115) (q38 112) rfl m65 (by decide) (a_ok_i rfl (r36 hB) rfl) rfl rfl (Nat.le_of_ble_eq_true rfl) (by omega) rfl rfl (a_W.imp w ?_)
    rintro _ ⟨v17, s15, l16, rfl, w⟩
    refine ⟨some (iv v17), _, rfl, ?_⟩
    show a_W _ 38 115 [.ref 38, iv x1, iv x2, iv x3, iv (zz s 1 7), iv (zz s 1 8)] [iv v17, iv (zz s 1 8), iv (zz s 1 7), .ref 38] (mkH B s15 l16) _
    refine w_call (st := []) (as := [.ref 38, iv (zz s 1 7), iv (zz s 1 8), iv v17]) (as' := [iv v17, iv (zz s 1 8), iv (zz s 1 7), .ref 38]) (p := 118) (q38 115) rfl m62 (by decide) (a_ok_i rfl (r38 hB) rfl) rfl rfl (Nat.le_of_ble_eq_true rfl) (by omega) rfl rfl ?_
    refine w_aln (p := 1) (q62 0) rfl rfl ?_
    refine w_gR (p := 4) (j := 4) (v := 39) (q62 1) rfl (r38 hB) (by decide) (f38_4 hB) ?_
    refine w_call (st := []) (as := [.ref 39]) (as' := [.ref 39]) (p := 7) (q62 4) rfl m76 (by decide) (a_ok_i rfl (r39 hB) rfl) rfl rfl (Nat.le_of_ble_eq_true rfl) (by omega) rfl rfl ?_
    refine w_aln (p := 1) (q76 0) rfl rfl ?_
    refine w_gI (p := 4) (j := 3) (v := (zz s15 39 3)) (q76 1) rfl (r39 hB) (by decide) (iv_zz s15 39 3) ?_
    refine w_sp (p := 7) (q76 4) rfl (by decide) ?_
    by_cases c18 : (zz s15 39 3) < 500
    · replace w := w.1 c18
      refine w_i2t (q76 7) (inR_zz _ _ _) (by decide) c18 ?_
      refine w_ic (p := 15) (q76 14) rfl ?_
      refine w_ret (q76 15) rfl ⟨_, _, rfl, ?_⟩
      show a_W _ 62 7 [.ref 38, iv (zz s 1 7), iv (zz s 1 8), iv v17] [iv 0] _ _
      refine w_i1t (q62 7) (by decide) (show zc _ _ _ by unfold zc; omega) ?_
      refine w_aln (p := 22) (q62 21) rfl rfl ?_
      refine w_gR (p := 25) (j := 4) (v := 39) (q62 22) rfl (r38 hB) (by decide) (f38_4 hB) ?_
      refine w_iln (p := 26) (q62 25) rfl rfl ?_
      refine w_iln (p := 27) (q62 26) rfl rfl ?_
      refine w_iln (p := 28) (q62 27) rfl rfl ?_
      refine w_call (st := []) (as := [.ref 39, iv (zz s 1 7), iv (zz s 1 8), iv v17]) (as' := [iv v17, iv (zz s 1 8), iv (zz s 1 7), .ref 39]) (p := 31) (q62 28) rfl m77 (by decide) (a_ok_i rfl (r39 hB) rfl) rfl rfl (Nat.le_of_ble_eq_true rfl) (by omega) rfl rfl ?_
      refine w_aln (p := 1) (q77 0) rfl rfl ?_
      refine w_gR (p := 4) (j := 0) (v := 40) (q77 1) rfl (r39 hB) (by decide) (f39_0 hB) ?_
      refine w_aln (p := 5) (q77 4) rfl rfl ?_
      refine w_gI (p := 8) (j := 3) (v := (zz s15 39 3)) (q77 5) rfl (r39 hB) (by decide) (iv_zz s15 39 3) ?_
      refine w_iln (p := 9) (q77 8) rfl rfl ?_
      obtain ⟨o19, w⟩ := w
      refine w_ias (p := 10) (q77 9) rfl (r40 hB) (by decide) o19 ?_
      refine w_aln (p := 11) (q77 10) rfl rfl ?_
      refine w_gR (p := 14) (j := 1) (v := 41) (q77 11) rfl (r39 hB) (by decide) (f39_1 hB) ?_
      refine w_aln (p := 15) (q77 14) rfl rfl ?_
      refine w_gI (p := 18) (j := 3) (v := (zz s15 39 3)) (q77 15) rfl (r39 hB) (by decide) (iv_zz s15 39 3) ?_
      refine w_iln (p := 19) (q77 18) rfl rfl ?_
      refine w_ias (p := 20) (q77 19) rfl (r41 hB) (by decide) o19 ?_
      refine w_aln (p := 21) (q77 20) rfl rfl ?_
      refine w_gR (p := 24) (j := 2) (v := 42) (q77 21) rfl (r39 hB) (by decide) (f39_2 hB) ?_
      refine w_aln (p := 25) (q77 24) rfl rfl ?_
      refine w_gI (p := 28) (j := 3) (v := (zz s15 39 3)) (q77 25) rfl (r39 hB) (by decide) (iv_zz s15 39 3) ?_
      refine w_iln (p := 29) (q77 28) rfl rfl ?_
      refine w_ias (p := 30) (q77 29) rfl (r42 hB) (by decide) o19 ?_
      refine w_aln (p := 31) (q77 30) rfl rfl ?_
      refine w_dupr (p := 32) (q77 31) rfl ?_
      refine w_gI (p := 35) (j := 3) (v := (zz s15 39 3)) (q77 32) rfl (r39 hB) (by decide) (iv_zz s15 39 3) ?_
      refine w_ic (p := 36) (q77 35) rfl ?_
      refine w_add (p := 37) (q77 36) rfl ?_
      refine w_pI (p := 40) (j := 3) (q77 37) rfl (r39 hB) (by decide) rfl ?_
      refine w_rv (q77 40) rfl ⟨_, _, rfl, ?_⟩
      show a_W _ 62 31 [.ref 38, iv (zz s 1 7), iv (zz s 1 8), iv v17] [] _ _
      refine w_rv (q62 31) rfl ⟨_, _, rfl, ?_⟩
      show a_W _ 38 118 [.ref 38, iv x1, iv x2, iv x3, iv (zz s 1 7), iv (zz s 1 8)] [] _ _
      refine w_aln (p := 119) (q38 118) rfl rfl ?_
      refine w_gR (p := 122) (j := 0) (v := 1) (q38 119) rfl (r38 hB) (by decide) (f38_0 hB) ?_
      refine w_ic (p := 123) (q38 122) rfl ?_
      refine w_call (st := []) (as := [.ref 1, iv 5]) (as' := [iv 5, .ref 1]) (p := 126) (q38 123) rfl m63 (by decide) (a_ok_i rfl (r1 hB) rfl) rfl rfl (Nat.le_of_ble_eq_true rfl) (by omega) rfl rfl (a_W.imp w ?_)
      rintro _ ⟨s20, l21, rfl, w⟩
      refine ⟨none, _, rfl, ?_⟩
      show a_W _ 38 126 [.ref 38, iv x1, iv x2, iv x3, iv (zz s 1 7), iv (zz s 1 8)] [] (mkH B s20 l21) _
      refine w_goto (q38 126) ?_
      exact w
    · replace w := w.2 (Int.not_lt.mp c18)
      refine w_i2f (p := 10) (q76 7) rfl (inR_zz _ _ _) (by decide) c18 ?_
      refine w_ic (p := 11) (q76 10) rfl ?_
      refine w_goto (q76 11) ?_
      refine w_ret (q76 15) rfl ⟨_, _, rfl, ?_⟩
      show a_W _ 62 7 [.ref 38, iv (zz s 1 7), iv (zz s 1 8), iv v17] [iv 1] _ _
      refine w_i1f (p := 10) (q62 7) rfl (by decide) (show ¬ zc _ _ _ by unfold zc; omega) ?_
      refine w_aln (p := 11) (q62 10) rfl rfl ?_
      refine w_gR (p := 14) (j := 5) (v := 45) (q62 11) rfl (r38 hB) (by decide) (f38_5 hB) ?_
      refine w_ic (p := 15) (q62 14) rfl ?_
      refine w_pI (p := 18) (j := 7) (q62 15) rfl (r45 hB) (by decide) rfl ?_
      refine w_goto (q62 18) ?_
      refine w_rv (q62 31) rfl ⟨_, _, rfl, ?_⟩
      show a_W _ 38 118 [.ref 38, iv x1, iv x2, iv x3, iv (zz s 1 7), iv (zz s 1 8)] [] _ _
      refine w_aln (p := 119) (q38 118) rfl rfl ?_
      refine w_gR (p := 122) (j := 0) (v := 1) (q38 119) rfl (r38 hB) (by decide) (f38_0 hB) ?_
      refine w_ic (p := 123) (q38 122) rfl ?_
      refine w_call (st := []) (as := [.ref 1, iv 5]) (as' := [iv 5, .ref 1]) (p := 126) (q38 123) rfl m63 (by decide) (a_ok_i rfl (r1 hB) rfl) rfl rfl (Nat.le_of_ble_eq_true rfl) (by omega) rfl rfl (a_W.imp w ?_)
      rintro _ ⟨s22, l23, rfl, w⟩
      refine ⟨none, _, rfl, ?_⟩
      show a_W _ 38 126 [.ref 38, iv x1, iv x2, iv x3, iv (zz s 1 7), iv (zz s 1 8)] [] (mkH B s22 l23) _
      refine w_goto (q38 126) ?_
      exact w
theorem w38_158 {d : Nat} {B : aH} {Q : aR → Prop} (hB : a_Can B) (x1 x2 x3 x4 x5 : Int) (s : Nat → Nat → Int32) (l : Nat → Nat → Int64) (w : a_W d 38 2 [.ref 38, iv x1, iv (x2 + 1), iv x3, iv x4, iv x5] [] (mkH B s l) Q) : a_W d 38 158 [.ref 38, iv x1, iv x2, iv x3, iv x4, iv x5] [] (mkH B s l) Q := by
  refine w_inc (p := 161) (ls' := [.ref 38, iv x1, iv (x2 + 1), iv x3, iv x4, iv x5]) (q38 158) rfl rfl rfl ?_
  refine w_goto (q38 161) ?_
  exact w
theorem w38_164 {d : Nat} {B : aH} {Q : aR → Prop} (hB : a_Can B) (hd : 1 ≤ d) (x1 x2 : Int) (u3 u4 u5 : Value) (s : Nat → Nat → Int32) (l : Nat → Nat → Int64) (w : a_W (d - 1) 63 0 [.ref 1, iv 7] [] (mkH B s l) (fun r => ∃ (s1 : Nat → Nat → Int32) (l2 : Nat → Nat → Int64), r = (.inl none, mkH B s1 l2) ∧ a_W (d - 1) 57 0 [.ref 38, iv x1, .retAddr 0, .retAddr 0, .retAddr 0, .retAddr 0] [] (mkH B s1 l2) (fun r => ∃ (v5 : Int) (s3 : Nat → Nat → Int32) (l4 : Nat → Nat → Int64), r = (.inl (some (iv v5)), mkH B s3 l4) ∧ Q (.inl (some (iv v5)), (mkH B s3 l4))))) : a_W d 38 164 [.ref 38, iv x1, iv x2, u3, u4, u5] [] (mkH B s l) Q := by
  refine w_aln (p := 165) (q38 164) rfl rfl ?_
  refine w_gR (p := 168) (j := 0) (v := 1) (q38 165) rfl (r38 hB) (by decide) (f38_0 hB) ?_
  refine w_bp (p := 170) (q38 168) rfl (by decide) ?_
  refine w_call (st := []) (as := [.ref 1, iv 7]) (as' := [iv 7, .ref 1]) (p := 173) (q38 170) rfl m63 (by decide) (a_ok_i rfl (r1 hB) rfl) rfl rfl (Nat.le_of_ble_eq_true rfl) (by omega) rfl rfl (a_W.imp w ?_)
  rintro _ ⟨s1, l2, rfl, w⟩
  refine ⟨none, _, rfl, ?_⟩
  show a_W _ 38 173 [.ref 38, iv x1, iv x2, u3, u4, u5] [] (mkH B s1 l2) _
  refine w_aln (p := 174) (q38 173) rfl rfl ?_
  refine w_iln (p := 175) (q38 174) rfl rfl ?_
  refine w_call (st := []) (as := [.ref 38, iv x1]) (as' := [iv x1, .ref 38]) (p := 178) (q38 175) rfl m57 (by decide) (a_ok_i rfl (r38 hB) rfl) rfl rfl (Nat.le_of_ble_eq_true rfl) (by omega) rfl rfl (a_W.imp w ?_)
  rintro _ ⟨v5, s3, l4, rfl, w⟩
  refine ⟨some (iv v5), _, rfl, ?_⟩
  show a_W _ 38 178 [.ref 38, iv x1, iv x2, u3, u4, u5] [iv v5] (mkH B s3 l4) _
  exact w_ret (q38 178) rfl w
theorem w101_0 {d : Nat} {B : aH} {Q : aR → Prop} (hB : a_Can B) (s : Nat → Nat → Int32) (l : Nat → Nat → Int64) (w : a_W d 101 17 [.ref 39, .ref 1, iv ((zz s 1 8) - (zz s 1 7)), iv ((zz s 39 3) - 1)] [] (mkH B s l) Q) : a_W d 101 0 [.ref 39, .ref 1, .retAddr 0, .retAddr 0] [] (mkH B s l) Q := by
  refine w_aln (p := 1) (q101 0) rfl rfl ?_
  refine w_gI (p := 4) (j := 8) (v := (zz s 1 8)) (q101 1) rfl (r1 hB) (by decide) (iv_zz s 1 8) ?_
  refine w_aln (p := 5) (q101 4) rfl rfl ?_
  refine w_gI (p := 8) (j := 7) (v := (zz s 1 7)) (q101 5) rfl (r1 hB) (by decide) (iv_zz s 1 7) ?_
  refine w_sub (p := 9) (q101 8) rfl ?_
  refine w_isn (p := 10) (ls' := [.ref 39, .ref 1, iv ((zz s 1 8) - (zz s 1 7)), .retAddr 0]) (q101 9) rfl (Nat.le_of_ble_eq_true rfl) rfl ?_
  refine w_aln (p := 11) (q101 10) rfl rfl ?_
  refine w_gI (p := 14) (j := 3) (v := (zz s 39 3)) (q101 11) rfl (r39 hB) (by decide) (iv_zz s 39 3) ?_
  refine w_ic (p := 15) (q101 14) rfl ?_
  refine w_sub (p := 16) (q101 15) rfl ?_
  refine w_isn (p := 17) (ls' := [.ref 39, .ref 1, iv ((zz s 1 8) - (zz s 1 7)), iv ((zz s 39 3) - 1)]) (q101 16) rfl (Nat.le_of_ble_eq_true rfl) rfl ?_
  exact w
theorem w101_17 {d : Nat} {B : aH} {Q : aR → Prop} (hB : a_Can B) (hd : 1 ≤ d) (x2 x3 : Int) (s : Nat → Nat → Int32) (l : Nat → Nat → Int64) (w : (inR x3 ∧ ((x3 < 0 → Q (.inl (some (iv (-1))), (mkH B s l))) ∧ (0 ≤ x3 → ((0 ≤ x3 ∧ x3 < 500) ∧ (inR ((zz s 41 x3.toNat) - (zz s 40 x3.toNat)) ∧ inR x2 ∧ ((((zz s 41 x3.toNat) - (zz s 40 x3.toNat)) ≠ x2 → a_W d 101 17 [.ref 39, .ref 1, iv x2, iv (x3 + (-1))] [] (mkH B s l) Q) ∧ (((zz s 41 x3.toNat) - (zz s 40 x3.toNat)) = x2 → a_W (d - 1) 40 0 [.ref 2, iv (zz s 40 x3.toNat), iv (zz s 41 x3.toNat), .ref 2, iv (zz s 1 7), .retAddr 0] [] (mkH B s l) (fun r => ∃ (v9 : Int) (s7 : Nat → Nat → Int32) (l8 : Nat → Nat → Int64), r = (.inl (some (iv v9)), mkH B s7 l8) ∧ (inR v9 ∧ ((v9 = 0 → a_W d 101 17 [.ref 39, .ref 1, iv x2, iv (x3 + (-1))] [] (mkH B s7 l8) Q) ∧ (v9 ≠ 0 → Q (.inl (some (iv x3)), (mkH B s7 l8)))))))))))))) : a_W d 101 17 [.ref 39, .ref 1, iv x2, iv x3] [] (mkH B s l) Q := by
  refine w_iln (p := 18) (q101 17) rfl rfl ?_
  obtain ⟨h1, w⟩ := w
  by_cases c2 : x3 < 0
  · replace w := w.1 c2
    refine w_i1t (q101 18) h1 c2 ?_
    refine w_ic (p := 77) (q101 76) rfl ?_
    exact w_ret (q101 77) rfl w
  · replace w := w.2 (Int.not_lt.mp c2)
    refine w_i1f (p := 21) (q101 18) rfl h1 c2 ?_
    refine w_aln (p := 22) (q101 21) rfl rfl ?_
    refine w_gR (p := 25) (j := 1) (v := 41) (q101 22) rfl (r39 hB) (by decide) (f39_1 hB) ?_
    refine w_iln (p := 26) (q101 25) rfl rfl ?_
    obtain ⟨o3, w⟩ := w
    refine w_ia (p := 27) (v := (zz s 41 x3.toNat)) (q101 26) rfl (r41 hB) (by decide) o3 (iv_zz s 41 x3.toNat) ?_
    refine w_aln (p := 28) (q101 27) rfl rfl ?_
    refine w_gR (p := 31) (j := 0) (v := 40) (q101 28) rfl (r39 hB) (by decide) (f39_0 hB) ?_
    refine w_iln (p := 32) (q101 31) rfl rfl ?_
    refine w_ia (p := 33) (v := (zz s 40 x3.toNat)) (q101 32) rfl (r40 hB) (by decide) o3 (iv_zz s 40 x3.toNat) ?_
    refine w_sub (p := 34) (q101 33) rfl ?_
    refine w_iln (p := 35) (q101 34) rfl rfl ?_
    obtain ⟨h4, w⟩ := w
    obtain ⟨h5, w⟩ := w
    by_cases c6 : ((zz s 41 x3.toNat) - (zz s 40 x3.toNat)) ≠ x2
    · replace w := w.1 c6
      refine w_i2t (q101 35) h4 h5 c6 ?_
      refine w_inc (p := 73) (ls' := [.ref 39, .ref 1, iv x2, iv (x3 + (-1))]) (q101 70) rfl rfl rfl ?_
      refine w_goto (q101 73) ?_
      exact w
    · replace w := w.2 (Decidable.not_not.mp c6)
      refine w_i2f (p := 38) (q101 35) rfl h4 h5 c6 ?_
      refine w_aln (p := 39) (q101 38) rfl rfl ?_
      refine w_gR (p := 42) (j := 0) (v := 2) (q101 39) rfl (r1 hB) (by decide) (f1_0 hB) ?_
      refine w_aln (p := 43) (q101 42) rfl rfl ?_
      refine w_gR (p := 46) (j := 0) (v := 40) (q101 43) rfl (r39 hB) (by decide) (f39_0 hB) ?_
      refine w_iln (p := 47) (q101 46) rfl rfl ?_
      refine w_ia (p := 48) (v := (zz s 40 x3.toNat)) (q101 47) rfl (r40 hB) (by decide) o3 (iv_zz s 40 x3.toNat) ?_
      refine w_aln (p := 49) (q101 48) rfl rfl ?_
      refine w_gR (p := 52) (j := 1) (v := 41) (q101 49) rfl (r39 hB) (by decide) (f39_1 hB) ?_
      refine w_iln (p := 53) (q101 52) rfl rfl ?_
      refine w_ia (p := 54) (v := (zz s 41 x3.toNat)) (q101 53) rfl (r41 hB) (by decide) o3 (iv_zz s 41 x3.toNat) ?_
      refine w_aln (p := 55) (q101 54) rfl rfl ?_
      refine w_gR (p := 58) (j := 0) (v := 2) (q101 55) rfl (r1 hB) (by decide) (f1_0 hB) ?_
      refine w_aln (p := 59) (q101 58) rfl rfl ?_
      refine w_gI (p := 62) (j := 7) (v := (zz s 1 7)) (q101 59) rfl (r1 hB) (by decide) (iv_zz s 1 7) ?_
      refine w_call (st := []) (as := [.ref 2, iv (zz s 40 x3.toNat), iv (zz s 41 x3.toNat), .ref 2, iv (zz s 1 7)]) (as' := [iv (zz s 1 7), .ref 2, iv (zz s 41 x3.toNat), iv (zz s 40 x3.toNat), .ref 2]) (p := 65) (q101 62) rfl m40 (by decide) (a_ok_s rfl rfl) rfl rfl (Nat.le_of_ble_eq_true rfl) (by omega) rfl rfl (a_W.imp w ?_)
      rintro _ ⟨v9, s7, l8, rfl, w⟩
      refine ⟨some (iv v9), _, rfl, ?_⟩
      show a_W _ 101 65 [.ref 39, .ref 1, iv x2, iv x3] [iv v9] (mkH B s7 l8) _
      obtain ⟨h10, w⟩ := w
      by_cases c11 : v9 = 0
      · replace w := w.1 c11
        refine w_i1t (q101 65) h10 c11 ?_
        refine w_inc (p := 73) (ls' := [.ref 39, .ref 1, iv x2, iv (x3 + (-1))]) (q101 70) rfl rfl rfl ?_
        refine w_goto (q101 73) ?_
        exact w
      · replace w := w.2 c11
        refine w_i1f (p := 68) (q101 65) rfl h10 c11 ?_
        refine w_iln (p := 69) (q101 68) rfl rfl ?_
        exact w_ret (q101 69) rfl w
