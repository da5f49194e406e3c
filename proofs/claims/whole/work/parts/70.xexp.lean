/-! printed by wip/am/mk70.py: the reader expects; a type is declared -/
theorem w63_0 {d : Nat} {B : aH} {Q : aR → Prop} (hB : a_Can B) (hd : 2 ≤ d) (x1 : Int) (s : Nat → Nat → Int32) (l : Nat → Nat → Int64) (w : (inR x1 ∧ (((zz s 1 6) ≠ x1 → (((zz s 1 10) ≠ 0 → Q (.inl none, (mkH B s l))) ∧ ((zz s 1 10) = 0 → Q (.inl none, (mkH B (zu (zu (zu s 1 10 2) 1 11 (zz s 1 7)) 1 6 0) l))))) ∧ ((zz s 1 6) = x1 → a_W (d - 1) 24 0 [.ref 1, .retAddr 0] [] (mkH B s l) (fun r => ∃ (s4 : Nat → Nat → Int32) (l5 : Nat → Nat → Int64), r = (.inl none, mkH B s4 l5) ∧ Q (.inl none, (mkH B s4 l5))))))) : a_W d 63 0 [.ref 1, iv x1] [] (mkH B s l) Q := by
  refine w_aln (p := 1) (q63 0) rfl rfl ?_
  refine w_gI (p := 4) (j := 6) (v := (zz s 1 6)) (q63 1) rfl (r1 hB) (by decide) (iv_zz s 1 6) ?_
  refine w_iln (p := 5) (q63 4) rfl rfl ?_
  obtain ⟨h1, w⟩ := w
  by_cases c2 : (zz s 1 6) ≠ x1
  · replace w := w.1 c2
    refine w_i2t (q63 5) (inR_zz _ _ _) h1 c2 ?_
    refine w_aln (p := 16) (q63 15) rfl rfl ?_
    refine w_ic (p := 17) (q63 16) rfl ?_
    refine w_call (st := []) (as := [.ref 1, iv 2]) (as' := [iv 2, .ref 1]) (p := 20) (q63 17) rfl m28 (by decide) (a_ok_i rfl (r1 hB) rfl) rfl rfl (Nat.le_of_ble_eq_true rfl) (by omega) rfl rfl ?_
    refine w_aln (p := 1) (q28 0) rfl rfl ?_
    refine w_iln (p := 2) (q28 1) rfl rfl ?_
    refine w_aln (p := 3) (q28 2) rfl rfl ?_
    refine w_gI (p := 6) (j := 7) (v := (zz s 1 7)) (q28 3) rfl (r1 hB) (by decide) (iv_zz s 1 7) ?_
    refine w_call (st := []) (as := [.ref 1, iv 2, iv (zz s 1 7)]) (as' := [iv (zz s 1 7), iv 2, .ref 1]) (p := 9) (q28 6) rfl m29 (by decide) (a_ok_i rfl (r1 hB) rfl) rfl rfl (Nat.le_of_ble_eq_true rfl) (by omega) rfl rfl ?_
    refine w_aln (p := 1) (q29 0) rfl rfl ?_
    refine w_gI (p := 4) (j := 10) (v := (zz s 1 10)) (q29 1) rfl (r1 hB) (by decide) (iv_zz s 1 10) ?_
    by_cases c3 : (zz s 1 10) ≠ 0
    · replace w := w.1 c3
      refine w_i1t (q29 4) (inR_zz _ _ _) c3 ?_
      refine w_rv (q29 22) rfl ⟨_, _, rfl, ?_⟩
      show a_W _ 28 9 [.ref 1, iv 2] [] _ _
      refine w_rv (q28 9) rfl ⟨_, _, rfl, ?_⟩
      show a_W _ 63 20 [.ref 1, iv x1] [] _ _
      exact w_rv (q63 20) rfl w
    · replace w := w.2 (Decidable.not_not.mp c3)
      refine w_i1f (p := 7) (q29 4) rfl (inR_zz _ _ _) c3 ?_
      refine w_aln (p := 8) (q29 7) rfl rfl ?_
      refine w_iln (p := 9) (q29 8) rfl rfl ?_
      refine w_pI (p := 12) (j := 10) (q29 9) rfl (r1 hB) (by decide) rfl ?_
      refine w_aln (p := 13) (q29 12) rfl rfl ?_
      refine w_iln (p := 14) (q29 13) rfl rfl ?_
      refine w_pI (p := 17) (j := 11) (q29 14) rfl (r1 hB) (by decide) rfl ?_
      refine w_aln (p := 18) (q29 17) rfl rfl ?_
      refine w_ic (p := 19) (q29 18) rfl ?_
      refine w_pI (p := 22) (j := 6) (q29 19) rfl (r1 hB) (by decide) rfl ?_
      refine w_rv (q29 22) rfl ⟨_, _, rfl, ?_⟩
      show a_W _ 28 9 [.ref 1, iv 2] [] _ _
      refine w_rv (q28 9) rfl ⟨_, _, rfl, ?_⟩
      show a_W _ 63 20 [.ref 1, iv x1] [] _ _
      exact w_rv (q63 20) rfl w
  · replace w := w.2 (Decidable.not_not.mp c2)
    refine w_i2f (p := 8) (q63 5) rfl (inR_zz _ _ _) h1 c2 ?_
    refine w_aln (p := 9) (q63 8) rfl rfl ?_
    refine w_call (st := []) (as := [.ref 1]) (as' := [.ref 1]) (p := 12) (q63 9) rfl m24 (by decide) (a_ok_i rfl (r1 hB) rfl) rfl rfl (Nat.le_of_ble_eq_true rfl) (by omega) rfl rfl (a_W.imp w ?_)
    rintro _ ⟨s4, l5, rfl, w⟩
    refine ⟨none, _, rfl, ?_⟩
    show a_W _ 63 12 [.ref 1, iv x1] [] (mkH B s4 l5) _
    refine w_goto (q63 12) ?_
    exact w_rv (q63 20) rfl w
theorem w106_0 {d : Nat} {B : aH} {Q : aR → Prop} (hB : a_Can B) (hd : 2 ≤ d) (s : Nat → Nat → Int32) (l : Nat → Nat → Int64) (w : (((zz s 1 6) = 0 → Q (.inl none, (mkH B s l))) ∧ ((zz s 1 6) ≠ 0 → (((zz s 1 10) ≠ 0 → Q (.inl none, (mkH B s l))) ∧ ((zz s 1 10) = 0 → Q (.inl none, (mkH B (zu (zu (zu s 1 10 2) 1 11 (zz s 1 7)) 1 6 0) l))))))) : a_W d 106 0 [.ref 1] [] (mkH B s l) Q := by
  refine w_aln (p := 1) (q106 0) rfl rfl ?_
  refine w_gI (p := 4) (j := 6) (v := (zz s 1 6)) (q106 1) rfl (r1 hB) (by decide) (iv_zz s 1 6) ?_
  by_cases c1 : (zz s 1 6) = 0
  · replace w := w.1 c1
    refine w_i1t (q106 4) (inR_zz _ _ _) c1 ?_
    exact w_rv (q106 12) rfl w
  · replace w := w.2 c1
    refine w_i1f (p := 7) (q106 4) rfl (inR_zz _ _ _) c1 ?_
    refine w_aln (p := 8) (q106 7) rfl rfl ?_
    refine w_ic (p := 9) (q106 8) rfl ?_
    refine w_call (st := []) (as := [.ref 1, iv 2]) (as' := [iv 2, .ref 1]) (p := 12) (q106 9) rfl m28 (by decide) (a_ok_i rfl (r1 hB) rfl) rfl rfl (Nat.le_of_ble_eq_true rfl) (by omega) rfl rfl ?_
    refine w_aln (p := 1) (q28 0) rfl rfl ?_
    refine w_iln (p := 2) (q28 1) rfl rfl ?_
    refine w_aln (p := 3) (q28 2) rfl rfl ?_
    refine w_gI (p := 6) (j := 7) (v := (zz s 1 7)) (q28 3) rfl (r1 hB) (by decide) (iv_zz s 1 7) ?_
    refine w_call (st := []) (as := [.ref 1, iv 2, iv (zz s 1 7)]) (as' := [iv (zz s 1 7), iv 2, .ref 1]) (p := 9) (q28 6) rfl m29 (by decide) (a_ok_i rfl (r1 hB) rfl) rfl rfl (Nat.le_of_ble_eq_true rfl) (by omega) rfl rfl ?_
    refine w_aln (p := 1) (q29 0) rfl rfl ?_
    refine w_gI (p := 4) (j := 10) (v := (zz s 1 10)) (q29 1) rfl (r1 hB) (by decide) (iv_zz s 1 10) ?_
    by_cases c2 : (zz s 1 10) ≠ 0
    · replace w := w.1 c2
      refine w_i1t (q29 4) (inR_zz _ _ _) c2 ?_
      refine w_rv (q29 22) rfl ⟨_, _, rfl, ?_⟩
      show a_W _ 28 9 [.ref 1, iv 2] [] _ _
      refine w_rv (q28 9) rfl ⟨_, _, rfl, ?_⟩
      show a_W _ 106 12 [.ref 1] [] _ _
      exact w_rv (q106 12) rfl w
    · replace w := w.2 (Decidable.not_not.mp c2)
      refine w_i1f (p := 7) (q29 4) rfl (inR_zz _ _ _) c2 ?_
      refine w_aln (p := 8) (q29 7) rfl rfl ?_
      refine w_iln (p := 9) (q29 8) rfl rfl ?_
      refine w_pI (p := 12) (j := 10) (q29 9) rfl (r1 hB) (by decide) rfl ?_
      refine w_aln (p := 13) (q29 12) rfl rfl ?_
      refine w_iln (p := 14) (q29 13) rfl rfl ?_
      refine w_pI (p := 17) (j := 11) (q29 14) rfl (r1 hB) (by decide) rfl ?_
      refine w_aln (p := 18) (q29 17) rfl rfl ?_
      refine w_ic (p := 19) (q29 18) rfl ?_
      refine w_pI (p := 22) (j := 6) (q29 19) rfl (r1 hB) (by decide) rfl ?_
      refine w_rv (q29 22) rfl ⟨_, _, rfl, ?_⟩
      show a_W _ 28 9 [.ref 1, iv 2] [] _ _
      refine w_rv (q28 9) rfl ⟨_, _, rfl, ?_⟩
      show a_W _ 106 12 [.ref 1] [] _ _
      exact w_rv (q106 12) rfl w
theorem w113_0 {d : Nat} {B : aH} {Q : aR → Prop} (hB : a_Can B) (hd : 1 ≤ d) (x1 : Int) (s : Nat → Nat → Int32) (l : Nat → Nat → Int64) (w : (inR x1 ∧ ((x1 = 0 → Q (.inl none, (mkH B s l))) ∧ (x1 ≠ 0 → (((zz s 1 10) ≠ 0 → Q (.inl none, (mkH B s l))) ∧ ((zz s 1 10) = 0 → Q (.inl none, (mkH B (zu (zu (zu s 1 10 x1) 1 11 (zz s 1 5)) 1 6 0) l)))))))) : a_W d 113 0 [.ref 1, iv x1] [] (mkH B s l) Q := by
  refine w_iln (p := 1) (q113 0) rfl rfl ?_
  obtain ⟨h1, w⟩ := w
  by_cases c2 : x1 = 0
  · replace w := w.1 c2
    refine w_i1t (q113 1) h1 c2 ?_
    exact w_rv (q113 13) rfl w
  · replace w := w.2 c2
    refine w_i1f (p := 4) (q113 1) rfl h1 c2 ?_
    refine w_aln (p := 5) (q113 4) rfl rfl ?_
    refine w_iln (p := 6) (q113 5) rfl rfl ?_
    refine w_aln (p := 7) (q113 6) rfl rfl ?_
    refine w_gI (p := 10) (j := 5) (v := (zz s 1 5)) (q113 7) rfl (r1 hB) (by decide) (iv_zz s 1 5) ?_
    refine w_call (st := []) (as := [.ref 1, iv x1, iv (zz s 1 5)]) (as' := [iv (zz s 1 5), iv x1, .ref 1]) (p := 13) (q113 10) rfl m29 (by decide) (a_ok_i rfl (r1 hB) rfl) rfl rfl (Nat.le_of_ble_eq_true rfl) (by omega) rfl rfl ?_
    refine w_aln (p := 1) (q29 0) rfl rfl ?_
    refine w_gI (p := 4) (j := 10) (v := (zz s 1 10)) (q29 1) rfl (r1 hB) (by decide) (iv_zz s 1 10) ?_
    by_cases c3 : (zz s 1 10) ≠ 0
    · replace w := w.1 c3
      refine w_i1t (q29 4) (inR_zz _ _ _) c3 ?_
      refine w_rv (q29 22) rfl ⟨_, _, rfl, ?_⟩
      show a_W _ 113 13 [.ref 1, iv x1] [] _ _
      exact w_rv (q113 13) rfl w
    · replace w := w.2 (Decidable.not_not.mp c3)
      refine w_i1f (p := 7) (q29 4) rfl (inR_zz _ _ _) c3 ?_
      refine w_aln (p := 8) (q29 7) rfl rfl ?_
      refine w_iln (p := 9) (q29 8) rfl rfl ?_
      refine w_pI (p := 12) (j := 10) (q29 9) rfl (r1 hB) (by decide) rfl ?_
      refine w_aln (p := 13) (q29 12) rfl rfl ?_
      refine w_iln (p := 14) (q29 13) rfl rfl ?_
      refine w_pI (p := 17) (j := 11) (q29 14) rfl (r1 hB) (by decide) rfl ?_
      refine w_aln (p := 18) (q29 17) rfl rfl ?_
      refine w_ic (p := 19) (q29 18) rfl ?_
      refine w_pI (p := 22) (j := 6) (q29 19) rfl (r1 hB) (by decide) rfl ?_
      refine w_rv (q29 22) rfl ⟨_, _, rfl, ?_⟩
      show a_W _ 113 13 [.ref 1, iv x1] [] _ _
      exact w_rv (q113 13) rfl w
theorem w61_0 {d : Nat} {B : aH} {Q : aR → Prop} (hB : a_Can B) (hd : 2 ≤ d) (x1 : Int) (s : Nat → Nat → Int32) (l : Nat → Nat → Int64) (w : (inR x1 ∧ ((x1 < 40 → Q (.inl (some (iv 0)), (mkH B s l))) ∧ (40 ≤ x1 → (((zz s 1 10) ≠ 0 → Q (.inl (some (iv 1)), (mkH B s l))) ∧ ((zz s 1 10) = 0 → Q (.inl (some (iv 1)), (mkH B (zu (zu (zu s 1 10 8) 1 11 (zz s 1 7)) 1 6 0) l)))))))) : a_W d 61 0 [.ref 1, iv x1] [] (mkH B s l) Q := by
  refine w_iln (p := 1) (q61 0) rfl rfl ?_
  refine w_bp (p := 3) (q61 1) rfl (by decide) ?_
  obtain ⟨h1, w⟩ := w
  by_cases c2 : x1 < 40
  · replace w := w.1 c2
    refine w_i2t (q61 3) h1 (by decide) c2 ?_
    refine w_ic (p := 15) (q61 14) rfl ?_
    exact w_ret (q61 15) rfl w
  · replace w := w.2 (Int.not_lt.mp c2)
    refine w_i2f (p := 6) (q61 3) rfl h1 (by decide) c2 ?_
    refine w_aln (p := 7) (q61 6) rfl rfl ?_
    refine w_bp (p := 9) (q61 7) rfl (by decide) ?_
    refine w_call (st := []) (as := [.ref 1, iv 8]) (as' := [iv 8, .ref 1]) (p := 12) (q61 9) rfl m28 (by decide) (a_ok_i rfl (r1 hB) rfl) rfl rfl (Nat.le_of_ble_eq_true rfl) (by omega) rfl rfl ?_
    refine w_aln (p := 1) (q28 0) rfl rfl ?_
    refine w_iln (p := 2) (q28 1) rfl rfl ?_
    refine w_aln (p := 3) (q28 2) rfl rfl ?_
    refine w_gI (p := 6) (j := 7) (v := (zz s 1 7)) (q28 3) rfl (r1 hB) (by decide) (iv_zz s 1 7) ?_
    refine w_call (st := []) (as := [.ref 1, iv 8, iv (zz s 1 7)]) (as' := [iv (zz s 1 7), iv 8, .ref 1]) (p := 9) (q28 6) rfl m29 (by decide) (a_ok_i rfl (r1 hB) rfl) rfl rfl (Nat.le_of_ble_eq_true rfl) (by omega) rfl rfl ?_
    refine w_aln (p := 1) (q29 0) rfl rfl ?_
    refine w_gI (p := 4) (j := 10) (v := (zz s 1 10)) (q29 1) rfl (r1 hB) (by decide) (iv_zz s 1 10) ?_
    by_cases c3 : (zz s 1 10) ≠ 0
    · replace w := w.1 c3
      refine w_i1t (q29 4) (inR_zz _ _ _) c3 ?_
      refine w_rv (q29 22) rfl ⟨_, _, rfl, ?_⟩
      show a_W _ 28 9 [.ref 1, iv 8] [] _ _
      refine w_rv (q28 9) rfl ⟨_, _, rfl, ?_⟩
      show a_W _ 61 12 [.ref 1, iv x1] [] _ _
      refine w_ic (p := 13) (q61 12) rfl ?_
      exact w_ret (q61 13) rfl w
    · replace w := w.2 (Decidable.not_not.mp c3)
      refine w_i1f (p := 7) (q29 4) rfl (inR_zz _ _ _) c3 ?_
      refine w_aln (p := 8) (q29 7) rfl rfl ?_
      refine w_iln (p := 9) (q29 8) rfl rfl ?_
      refine w_pI (p := 12) (j := 10) (q29 9) rfl (r1 hB) (by decide) rfl ?_
      refine w_aln (p := 13) (q29 12) rfl rfl ?_
      refine w_iln (p := 14) (q29 13) rfl rfl ?_
      refine w_pI (p := 17) (j := 11) (q29 14) rfl (r1 hB) (by decide) rfl ?_
      refine w_aln (p := 18) (q29 17) rfl rfl ?_
      refine w_ic (p := 19) (q29 18) rfl ?_
      refine w_pI (p := 22) (j := 6) (q29 19) rfl (r1 hB) (by decide) rfl ?_
      refine w_rv (q29 22) rfl ⟨_, _, rfl, ?_⟩
      show a_W _ 28 9 [.ref 1, iv 8] [] _ _
      refine w_rv (q28 9) rfl ⟨_, _, rfl, ?_⟩
      show a_W _ 61 12 [.ref 1, iv x1] [] _ _
      refine w_ic (p := 13) (q61 12) rfl ?_
      exact w_ret (q61 13) rfl w
theorem w97_0 {d : Nat} {B : aH} {Q : aR → Prop} (hB : a_Can B) (hd : 1 ≤ d) (s : Nat → Nat → Int32) (l : Nat → Nat → Int64) (w : a_W (d - 1) 26 0 [.ref 1, iv (zz s 1 8), .retAddr 0, .retAddr 0] [] (mkH B s l) (fun r => ∃ (v3 : Int) (s1 : Nat → Nat → Int32) (l2 : Nat → Nat → Int64), r = (.inl (some (iv v3)), mkH B s1 l2) ∧ (inR v3 ∧ (((zz s1 1 3) ≤ v3 → Q (.inl (some (iv 0)), (mkH B s1 l2))) ∧ (v3 < (zz s1 1 3) → ((0 ≤ v3 ∧ v3 < 8000) ∧ (((zz s1 2 v3.toNat) ≠ 41 → Q (.inl (some (iv 0)), (mkH B s1 l2))) ∧ ((zz s1 2 v3.toNat) = 41 → Q (.inl (some (iv 1)), (mkH B s1 l2)))))))))) : a_W d 97 0 [.ref 1, .retAddr 0] [] (mkH B s l) Q := by
  refine w_aln (p := 1) (q97 0) rfl rfl ?_
  refine w_aln (p := 2) (q97 1) rfl rfl ?_
  refine w_gI (p := 5) (j := 8) (v := (zz s 1 8)) (q97 2) rfl (r1 hB) (by decide) (iv_zz s 1 8) ?_
  refine w_call (st := []) (as := [.ref 1, iv (zz s 1 8)]) (as' := [iv (zz s 1 8), .ref 1]) (p := 8) (q97 5) rfl m26 (by decide) (a_ok_i rfl (r1 hB) rfl) rfl rfl (Nat.le_of_ble_eq_true rfl) (by omega) rfl rfl (a_W.imp w ?_)
  rintro _ ⟨v3, s1, l2, rfl, w⟩
  refine ⟨some (iv v3), _, rfl, ?_⟩
  show a_W _ 97 8 [.ref 1, .retAddr 0] [iv v3] (mkH B s1 l2) _
  refine w_isn (p := 9) (ls' := [.ref 1, iv v3]) (q97 8) rfl (Nat.le_of_ble_eq_true rfl) rfl ?_
  refine w_iln (p := 10) (q97 9) rfl rfl ?_
  refine w_aln (p := 11) (q97 10) rfl rfl ?_
  refine w_gI (p := 14) (j := 3) (v := (zz s1 1 3)) (q97 11) rfl (r1 hB) (by decide) (iv_zz s1 1 3) ?_
  obtain ⟨h4, w⟩ := w
  by_cases c5 : (zz s1 1 3) ≤ v3
  · replace w := w.1 c5
    refine w_i2t (q97 14) h4 (inR_zz _ _ _) c5 ?_
    refine w_ic (p := 33) (q97 32) rfl ?_
    exact w_ret (q97 33) rfl w
  · replace w := w.2 (Int.not_le.mp c5)
    refine w_i2f (p := 17) (q97 14) rfl h4 (inR_zz _ _ _) c5 ?_
    refine w_aln (p := 18) (q97 17) rfl rfl ?_
    refine w_gR (p := 21) (j := 0) (v := 2) (q97 18) rfl (r1 hB) (by decide) (f1_0 hB) ?_
    refine w_iln (p := 22) (q97 21) rfl rfl ?_
    obtain ⟨o6, w⟩ := w
    refine w_ba (p := 23) (v := (zz s1 2 v3.toNat)) (q97 22) rfl (r2 hB) (by decide) o6 (iv_zz s1 2 v3.toNat) ?_
    refine w_bp (p := 25) (q97 23) rfl (by decide) ?_
    by_cases c7 : (zz s1 2 v3.toNat) ≠ 41
    · replace w := w.1 c7
      refine w_i2t (q97 25) (inR_zz _ _ _) (by decide) c7 ?_
      refine w_ic (p := 33) (q97 32) rfl ?_
      exact w_ret (q97 33) rfl w
    · replace w := w.2 (Decidable.not_not.mp c7)
      refine w_i2f (p := 28) (q97 25) rfl (inR_zz _ _ _) (by decide) c7 ?_
      refine w_ic (p := 29) (q97 28) rfl ?_
      refine w_goto (q97 29) ?_
      exact w_ret (q97 33) rfl w
theorem w127_0 {d : Nat} {B : aH} {Q : aR → Prop} (hB : a_Can B) (hd : 1 ≤ d) (s : Nat → Nat → Int32) (l : Nat → Nat → Int64) (w : a_W (d - 1) 63 0 [.ref 1, iv 1] [] (mkH B s l) (fun r => ∃ (s1 : Nat → Nat → Int32) (l2 : Nat → Nat → Int64), r = (.inl none, mkH B s1 l2) ∧ a_W d 127 26 [.ref 0, iv (zz s 1 7), iv (zz s 1 8), iv 0] [] (mkH B s1 l2) Q)) : a_W d 127 0 [.ref 0, .retAddr 0, .retAddr 0, .retAddr 0] [] (mkH B s l) Q := by
  refine w_aln (p := 1) (q127 0) rfl rfl ?_
  refine w_gR (p := 4) (j := 0) (v := 1) (q127 1) rfl (r0 hB) (by decide) (f0_0 hB) ?_
  refine w_gI (p := 7) (j := 7) (v := (zz s 1 7)) (q127 4) rfl (r1 hB) (by decide) (iv_zz s 1 7) ?_
  refine w_isn (p := 8) (ls' := [.ref 0, iv (zz s 1 7), .retAddr 0, .retAddr 0]) (q127 7) rfl (Nat.le_of_ble_eq_true rfl) rfl ?_
  refine w_aln (p := 9) (q127 8) rfl rfl ?_
  refine w_gR (p := 12) (j := 0) (v := 1) (q127 9) rfl (r0 hB) (by decide) (f0_0 hB) ?_
  refine w_gI (p := 15) (j := 8) (v := (zz s 1 8)) (q127 12) rfl (r1 hB) (by decide) (iv_zz s 1 8) ?_
  refine w_isn (p := 16) (ls' := [.ref 0, iv (zz s 1 7), iv (zz s 1 8), .retAddr 0]) (q127 15) rfl (Nat.le_of_ble_eq_true rfl) rfl ?_
  refine w_aln (p := 17) (q127 16) rfl rfl ?_
  refine w_gR (p := 20) (j := 0) (v := 1) (q127 17) rfl (r0 hB) (by decide) (f0_0 hB) ?_
  refine w_ic (p := 21) (q127 20) rfl ?_
  refine w_call (st := []) (as := [.ref 1, iv 1]) (as' := [iv 1, .ref 1]) (p := 24) (q127 21) rfl m63 (by decide) (a_ok_i rfl (r1 hB) rfl) rfl rfl (Nat.le_of_ble_eq_true rfl) (by omega) rfl rfl (a_W.imp w ?_)
  rintro _ ⟨s1, l2, rfl, w⟩
  refine ⟨none, _, rfl, ?_⟩
  show a_W _ 127 24 [.ref 0, iv (zz s 1 7), iv (zz s 1 8), .retAddr 0] [] (mkH B s1 l2) _
  refine w_ic (p := 25) (q127 24) rfl ?_
  refine w_isn (p := 26) (ls' := [.ref 0, iv (zz s 1 7), iv (zz s 1 8), iv 0]) (q127 25) rfl (Nat.le_of_ble_eq_true rfl) rfl ?_
  exact w
theorem w127_26 {d : Nat} {B : aH} {Q : aR → Prop} (hB : a_Can B) (hd : 1 ≤ d) (x1 x2 x3 : Int) (s : Nat → Nat → Int32) (l : Nat → Nat → Int64) (w : (inR x3 ∧ ((2 ≤ x3 → a_W d 127 55 [.ref 0, iv x1, iv x2, iv x3] [] (mkH B s l) Q) ∧ (x3 < 2 → (((zz s 1 6) ≠ 2 → a_W d 127 55 [.ref 0, iv x1, iv x2, iv x3] [] (mkH B s l) Q) ∧ ((zz s 1 6) = 2 → a_W (d - 1) 24 0 [.ref 1, .retAddr 0] [] (mkH B s l) (fun r => ∃ (s4 : Nat → Nat → Int32) (l5 : Nat → Nat → Int64), r = (.inl none, mkH B s4 l5) ∧ a_W d 127 26 [.ref 0, iv x1, iv x2, iv (x3 + 1)] [] (mkH B s4 l5) Q))))))) : a_W d 127 26 [.ref 0, iv x1, iv x2, iv x3] [] (mkH B s l) Q := by
  refine w_iln (p := 27) (q127 26) rfl rfl ?_
  refine w_ic (p := 28) (q127 27) rfl ?_
  obtain ⟨h1, w⟩ := w
  by_cases c2 : 2 ≤ x3
  · replace w := w.1 c2
    refine w_i2t (q127 28) h1 (by decide) c2 ?_
    exact w
  · replace w := w.2 (Int.not_le.mp c2)
    refine w_i2f (p := 31) (q127 28) rfl h1 (by decide) c2 ?_
    refine w_aln (p := 32) (q127 31) rfl rfl ?_
    refine w_gR (p := 35) (j := 0) (v := 1) (q127 32) rfl (r0 hB) (by decide) (f0_0 hB) ?_
    refine w_gI (p := 38) (j := 6) (v := (zz s 1 6)) (q127 35) rfl (r1 hB) (by decide) (iv_zz s 1 6) ?_
    refine w_ic (p := 39) (q127 38) rfl ?_
    by_cases c3 : (zz s 1 6) ≠ 2
    · replace w := w.1 c3
      refine w_i2t (q127 39) (inR_zz _ _ _) (by decide) c3 ?_
      exact w
    · replace w := w.2 (Decidable.not_not.mp c3)
      refine w_i2f (p := 42) (q127 39) rfl (inR_zz _ _ _) (by decide) c3 ?_
      refine w_inc (p := 45) (ls' := [.ref 0, iv x1, iv x2, iv (x3 + 1)]) (q127 42) rfl rfl rfl ?_
      refine w_aln (p := 46) (q127 45) rfl rfl ?_
      refine w_gR (p := 49) (j := 0) (v := 1) (q127 46) rfl (r0 hB) (by decide) (f0_0 hB) ?_
      refine w_call (st := []) (as := [.ref 1]) (as' := [.ref 1]) (p := 52) (q127 49) rfl m24 (by decide) (a_ok_i rfl (r1 hB) rfl) rfl rfl (Nat.le_of_ble_eq_true rfl) (by omega) rfl rfl (a_W.imp w ?_)
      rintro _ ⟨s4, l5, rfl, w⟩
      refine ⟨none, _, rfl, ?_⟩
      show a_W _ 127 52 [.ref 0, iv x1, iv x2, iv (x3 + 1)] [] (mkH B s4 l5) _
      refine w_goto (q127 52) ?_
      exact w
theorem w127_55 {d : Nat} {B : aH} {Q : aR → Prop} (hB : a_Can B) (hd : 3 ≤ d) (x1 x2 x3 : Int) (s : Nat → Nat → Int32) (l : Nat → Nat → Int64) (w : (((zz s 1 6) = 0 → (((zz s 1 10) ≠ 0 → a_W d 127 85 [.ref 0, iv x1, iv x2, iv x3] [] (mkH B s l) Q) ∧ ((zz s 1 10) = 0 → a_W (d - 1) 128 0 [.ref 0, iv x1, iv x2] [] (mkH B s l) (fun r => ∃ (v5 : Int) (s3 : Nat → Nat → Int32) (l4 : Nat → Nat → Int64), r = (.inl (some (iv v5)), mkH B s3 l4) ∧ a_W (d - 1) 113 0 [.ref 1, iv v5] [] (mkH B s3 l4) (fun r => ∃ (s6 : Nat → Nat → Int32) (l7 : Nat → Nat → Int64), r = (.inl none, mkH B s6 l7) ∧ a_W d 127 85 [.ref 0, iv x1, iv x2, iv x3] [] (mkH B s6 l7) Q))))) ∧ ((zz s 1 6) ≠ 0 → (((zz s 1 10) ≠ 0 → a_W d 127 85 [.ref 0, iv x1, iv x2, iv x3] [] (mkH B s l) Q) ∧ ((zz s 1 10) = 0 → a_W d 127 85 [.ref 0, iv x1, iv x2, iv x3] [] (mkH B (zu (zu (zu s 1 10 2) 1 11 (zz s 1 7)) 1 6 0) l) Q))))) : a_W d 127 55 [.ref 0, iv x1, iv x2, iv x3] [] (mkH B s l) Q := by
  refine w_aln (p := 56) (q127 55) rfl rfl ?_
  refine w_gR (p := 59) (j := 0) (v := 1) (q127 56) rfl (r0 hB) (by decide) (f0_0 hB) ?_
  refine w_call (st := []) (as := [.ref 1]) (as' := [.ref 1]) (p := 62) (q127 59) rfl m106 (by decide) (a_ok_i rfl (r1 hB) rfl) rfl rfl (Nat.le_of_ble_eq_true rfl) (by omega) rfl rfl ?_
  refine w_aln (p := 1) (q106 0) rfl rfl ?_
  refine w_gI (p := 4) (j := 6) (v := (zz s 1 6)) (q106 1) rfl (r1 hB) (by decide) (iv_zz s 1 6) ?_
  by_cases c1 : (zz s 1 6) = 0
  · replace w := w.1 c1
    refine w_i1t (q106 4) (inR_zz _ _ _) c1 ?_
    refine w_rv (q106 12) rfl ⟨_, _, rfl, ?_⟩
    show a_W _ 127 62 [.ref 0, iv x1, iv x2, iv x3] [] _ _
    refine w_aln (p := 63) (q127 62) rfl rfl ?_
    refine w_gR (p := 66) (j := 0) (v := 1) (q127 63) rfl (r0 hB) (by decide) (f0_0 hB) ?_
    refine w_call (st := []) (as := [.ref 1]) (as' := [.ref 1]) (p := 69) (q127 66) rfl m25 (by decide) (a_ok_i rfl (r1 hB) rfl) rfl rfl (Nat.le_of_ble_eq_true rfl) (by omega) rfl rfl ?_
    refine w_aln (p := 1) (q25 0) rfl rfl ?_
    refine w_gI (p := 4) (j := 10) (v := (zz s 1 10)) (q25 1) rfl (r1 hB) (by decide) (iv_zz s 1 10) ?_
    by_cases c2 : (zz s 1 10) ≠ 0
    · replace w := w.1 c2
      refine w_i1t (q25 4) (inR_zz _ _ _) c2 ?_
      refine w_ic (p := 12) (q25 11) rfl ?_
      refine w_ret (q25 12) rfl ⟨_, _, rfl, ?_⟩
      show a_W _ 127 69 [.ref 0, iv x1, iv x2, iv x3] [iv 0] _ _
      refine w_i1t (q127 69) (by decide) (show zc _ _ _ by unfold zc; omega) ?_
      exact w
    · replace w := w.2 (Decidable.not_not.mp c2)
      refine w_i1f (p := 7) (q25 4) rfl (inR_zz _ _ _) c2 ?_
      refine w_ic (p := 8) (q25 7) rfl ?_
      refine w_goto (q25 8) ?_
      refine w_ret (q25 12) rfl ⟨_, _, rfl, ?_⟩
      show a_W _ 127 69 [.ref 0, iv x1, iv x2, iv x3] [iv 1] _ _
      refine w_i1f (p := 72) (q127 69) rfl (by decide) (show ¬ zc _ _ _ by unfold zc; omega) ?_
      refine w_aln (p := 73) (q127 72) rfl rfl ?_
      refine w_gR (p := 76) (j := 0) (v := 1) (q127 73) rfl (r0 hB) (by decide) (f0_0 hB) ?_
      refine w_aln (p := 77) (q127 76) rfl rfl ?_
      refine w_iln (p := 78) (q127 77) rfl rfl ?_
      refine w_iln (p := 79) (q127 78) rfl rfl ?_
      refine w_call (st := [.ref 1]) (as := [.ref 0, iv x1, iv x2]) (as' := [iv x2, iv x1, .ref 0]) (p := 82) (q127 79) rfl m128 (by decide) (a_ok_i rfl (r0 hB) rfl) rfl rfl (Nat.le_of_ble_eq_true rfl) (by omega) rfl rfl (a_W.imp w ?_)
      rintro _ ⟨v5, s3, l4, rfl, w⟩
      refine ⟨some (iv v5), _, rfl, ?_⟩
      show a_W _ 127 82 [.ref 0, iv x1, iv x2, iv x3] [iv v5, .ref 1] (mkH B s3 l4) _
      refine w_call (st := []) (as := [.ref 1, iv v5]) (as' := [iv v5, .ref 1]) (p := 85) (q127 82) rfl m113 (by decide) (a_ok_i rfl (r1 hB) rfl) rfl rfl (Nat.le_of_ble_eq_true rfl) (by omega) rfl rfl (a_W.imp w ?_)
      rintro _ ⟨s6, l7, rfl, w⟩
      refine ⟨none, _, rfl, ?_⟩
      show a_W _ 127 85 [.ref 0, iv x1, iv x2, iv x3] [] (mkH B s6 l7) _
      exact w
  · replace w := w.2 c1
    refine w_i1f (p := 7) (q106 4) rfl (inR_zz _ _ _) c1 ?_
    refine w_aln (p := 8) (q106 7) rfl rfl ?_
    refine w_ic (p := 9) (q106 8) rfl ?_
    refine w_call (st := []) (as := [.ref 1, iv 2]) (as' := [iv 2, .ref 1]) (p := 12) (q106 9) rfl m28 (by decide) (a_ok_i rfl (r1 hB) rfl) rfl rfl (Nat.le_of_ble_eq_true rfl) (by omega) rfl rfl ?_
    refine w_aln (p := 1) (q28 0) rfl rfl ?_
    refine w_iln (p := 2) (q28 1) rfl rfl ?_
    refine w_aln (p := 3) (q28 2) rfl rfl ?_
    refine w_gI (p := 6) (j := 7) (v := (zz s 1 7)) (q28 3) rfl (r1 hB) (by decide) (iv_zz s 1 7) ?_
    refine w_call (st := []) (as := [.ref 1, iv 2, iv (zz s 1 7)]) (as' := [iv (zz s 1 7), iv 2, .ref 1]) (p := 9) (q28 6) rfl m29 (by decide) (a_ok_i rfl (r1 hB) rfl) rfl rfl (Nat.le_of_ble_eq_true rfl) (by omega) rfl rfl ?_
    refine w_aln (p := 1) (q29 0) rfl rfl ?_
    refine w_gI (p := 4) (j := 10) (v := (zz s 1 10)) (q29 1) rfl (r1 hB) (by decide) (iv_zz s 1 10) ?_
    by_cases c8 : (zz s 1 10) ≠ 0
    · replace w := w.1 c8
      refine w_i1t (q29 4) (inR_zz _ _ _) c8 ?_
      refine w_rv (q29 22) rfl ⟨_, _, rfl, ?_⟩
      show a_W _ 28 9 [.ref 1, iv 2] [] _ _
      refine w_rv (q28 9) rfl ⟨_, _, rfl, ?_⟩
      show a_W _ 106 12 [.ref 1] [] _ _
      refine w_rv (q106 12) rfl ⟨_, _, rfl, ?_⟩
      show a_W _ 127 62 [.ref 0, iv x1, iv x2, iv x3] [] _ _
      refine w_aln (p := 63) (q127 62) rfl rfl ?_
      refine w_gR (p := 66) (j := 0) (v := 1) (q127 63) rfl (r0 hB) (by decide) (f0_0 hB) ?_
      refine w_call (st := []) (as := [.ref 1]) (as' := [.ref 1]) (p := 69) (q127 66) rfl m25 (by decide) (a_ok_i rfl (r1 hB) rfl) rfl rfl (Nat.le_of_ble_eq_true rfl) (by omega) rfl rfl ?_
      refine w_aln (p := 1) (q25 0) rfl rfl ?_
      refine w_gI (p := 4) (j := 10) (v := (zz s 1 10)) (q25 1) rfl (r1 hB) (by decide) (iv_zz s 1 10) ?_
      refine w_i1t (q25 4) (inR_zz _ _ _) (show zc _ _ _ by unfold zc; omega) ?_
      refine w_ic (p := 12) (q25 11) rfl ?_
      refine w_ret (q25 12) rfl ⟨_, _, rfl, ?_⟩
      show a_W _ 127 69 [.ref 0, iv x1, iv x2, iv x3] [iv 0] _ _
      refine w_i1t (q127 69) (by decide) (show zc _ _ _ by unfold zc; omega) ?_
      exact w
    · replace w := w.2 (Decidable.not_not.mp c8)
      refine w_i1f (p := 7) (q29 4) rfl (inR_zz _ _ _) c8 ?_
      refine w_aln (p := 8) (q29 7) rfl rfl ?_
      refine w_iln (p := 9) (q29 8) rfl rfl ?_
      refine w_pI (p := 12) (j := 10) (q29 9) rfl (r1 hB) (by decide) rfl ?_
      refine w_aln (p := 13) (q29 12) rfl rfl ?_
      refine w_iln (p := 14) (q29 13) rfl rfl ?_
      refine w_pI (p := 17) (j := 11) (q29 14) rfl (r1 hB) (by decide) rfl ?_
      refine w_aln (p := 18) (q29 17) rfl rfl ?_
      refine w_ic (p := 19) (q29 18) rfl ?_
      refine w_pI (p := 22) (j := 6) (q29 19) rfl (r1 hB) (by decide) rfl ?_
      refine w_rv (q29 22) rfl ⟨_, _, rfl, ?_⟩
      show a_W _ 28 9 [.ref 1, iv 2] [] _ _
      refine w_rv (q28 9) rfl ⟨_, _, rfl, ?_⟩
      show a_W _ 106 12 [.ref 1] [] _ _
      refine w_rv (q106 12) rfl ⟨_, _, rfl, ?_⟩
      show a_W _ 127 62 [.ref 0, iv x1, iv x2, iv x3] [] _ _
      refine w_aln (p := 63) (q127 62) rfl rfl ?_
      refine w_gR (p := 66) (j := 0) (v := 1) (q127 63) rfl (r0 hB) (by decide) (f0_0 hB) ?_
      refine w_call (st := []) (as := [.ref 1]) (as' := [.ref 1]) (p := 69) (q127 66) rfl m25 (by decide) (a_ok_i rfl (r1 hB) rfl) rfl rfl (Nat.le_of_ble_eq_true rfl) (by omega) rfl rfl ?_
      refine w_aln (p := 1) (q25 0) rfl rfl ?_
      refine w_gI (p := 4) (j := 10) (v := 2) (q25 1) rfl (r1 hB) (by decide) rfl ?_
      refine w_i1t (q25 4) (by decide) (show zc _ _ _ by unfold zc; omega) ?_
      refine w_ic (p := 12) (q25 11) rfl ?_
      refine w_ret (q25 12) rfl ⟨_, _, rfl, ?_⟩
      show a_W _ 127 69 [.ref 0, iv x1, iv x2, iv x3] [iv 0] _ _
      refine w_i1t (q127 69) (by decide) (show zc _ _ _ by unfold zc; omega) ?_
      exact w
theorem w127_85 {d : Nat} {B : aH} {Q : aR → Prop} (hB : a_Can B) (hd : 1 ≤ d) (x1 x2 x3 : Int) (s : Nat → Nat → Int32) (l : Nat → Nat → Int64) (w : (((zz s 1 10) ≠ 0 → Q (.inl (some (iv (-1))), (mkH B s l))) ∧ ((zz s 1 10) = 0 → a_W (d - 1) 129 0 [.ref 9, .ref 2, iv x1, iv x2, iv x3, .retAddr 0] [] (mkH B s l) (fun r => ∃ (s2 : Nat → Nat → Int32) (l3 : Nat → Nat → Int64), r = (.inl none, mkH B s2 l3) ∧ Q (.inl (some (iv ((zz s2 10 4) - 1))), (mkH B s2 l3)))))) : a_W d 127 85 [.ref 0, iv x1, iv x2, iv x3] [] (mkH B s l) Q := by
  refine w_aln (p := 86) (q127 85) rfl rfl ?_
  refine w_gR (p := 89) (j := 0) (v := 1) (q127 86) rfl (r0 hB) (by decide) (f0_0 hB) ?_
  refine w_call (st := []) (as := [.ref 1]) (as' := [.ref 1]) (p := 92) (q127 89) rfl m25 (by decide) (a_ok_i rfl (r1 hB) rfl) rfl rfl (Nat.le_of_ble_eq_true rfl) (by omega) rfl rfl ?_
  refine w_aln (p := 1) (q25 0) rfl rfl ?_
  refine w_gI (p := 4) (j := 10) (v := (zz s 1 10)) (q25 1) rfl (r1 hB) (by decide) (iv_zz s 1 10) ?_
  by_cases c1 : (zz s 1 10) ≠ 0
  · replace w := w.1 c1
    refine w_i1t (q25 4) (inR_zz _ _ _) c1 ?_
    refine w_ic (p := 12) (q25 11) rfl ?_
    refine w_ret (q25 12) rfl ⟨_, _, rfl, ?_⟩
    show a_W _ 127 92 [.ref 0, iv x1, iv x2, iv x3] [iv 0] _ _
    refine w_i1f (p := 95) (q127 92) rfl (by decide) (show ¬ zc _ _ _ by unfold zc; omega) ?_
    refine w_ic (p := 96) (q127 95) rfl ?_
    exact w_ret (q127 96) rfl w
  · replace w := w.2 (Decidable.not_not.mp c1)
    refine w_i1f (p := 7) (q25 4) rfl (inR_zz _ _ _) c1 ?_
    refine w_ic (p := 8) (q25 7) rfl ?_
    refine w_goto (q25 8) ?_
    refine w_ret (q25 12) rfl ⟨_, _, rfl, ?_⟩
    show a_W _ 127 92 [.ref 0, iv x1, iv x2, iv x3] [iv 1] _ _
    refine w_i1t (q127 92) (by decide) (show zc _ _ _ by unfold zc; omega) ?_
    refine w_aln (p := 98) (q127 97) rfl rfl ?_
    refine w_gR (p := 101) (j := 1) (v := 9) (q127 98) rfl (r0 hB) (by decide) (f0_1 hB) ?_
    refine w_aln (p := 102) (q127 101) rfl rfl ?_
    refine w_gR (p := 105) (j := 0) (v := 1) (q127 102) rfl (r0 hB) (by decide) (f0_0 hB) ?_
    refine w_gR (p := 108) (j := 0) (v := 2) (q127 105) rfl (r1 hB) (by decide) (f1_0 hB) ?_
    refine w_iln (p := 109) (q127 108) rfl rfl ?_
    refine w_iln (p := 110) (q127 109) rfl rfl ?_
    refine w_iln (p := 111) (q127 110) rfl rfl ?_
    refine w_call (st := []) (as := [.ref 9, .ref 2, iv x1, iv x2, iv x3]) (as' := [iv x3, iv x2, iv x1, .ref 2, .ref 9]) (p := 114) (q127 111) rfl m129 (by decide) (a_ok_i rfl (r9 hB) rfl) rfl rfl (Nat.le_of_ble_eq_true rfl) (by omega) rfl rfl (a_W.imp w ?_)
    rintro _ ⟨s2, l3, rfl, w⟩
    refine ⟨none, _, rfl, ?_⟩
    show a_W _ 127 114 [.ref 0, iv x1, iv x2, iv x3] [] (mkH B s2 l3) _
    refine w_aln (p := 115) (q127 114) rfl rfl ?_
    refine w_gR (p := 118) (j := 1) (v := 9) (q127 115) rfl (r0 hB) (by decide) (f0_1 hB) ?_
    refine w_gR (p := 121) (j := 0) (v := 10) (q127 118) rfl (r9 hB) (by decide) (f9_0 hB) ?_
    refine w_gI (p := 124) (j := 4) (v := (zz s2 10 4)) (q127 121) rfl (r10 hB) (by decide) (iv_zz s2 10 4) ?_
    refine w_ic (p := 125) (q127 124) rfl ?_
    refine w_sub (p := 126) (q127 125) rfl ?_
    exact w_ret (q127 126) rfl w
theorem w128_0 {d : Nat} {B : aH} {Q : aR → Prop} (hB : a_Can B) (hd : 1 ≤ d) (x1 x2 : Int) (s : Nat → Nat → Int32) (l : Nat → Nat → Int64) (w : a_W (d - 1) 39 0 [.ref 10, .ref 2, iv x1, iv x2, .retAddr 0, .retAddr 0] [] (mkH B s l) (fun r => ∃ (v3 : Int) (s1 : Nat → Nat → Int32) (l2 : Nat → Nat → Int64), r = (.inl (some (iv v3)), mkH B s1 l2) ∧ (inR v3 ∧ ((v3 < 0 → (((zz s1 10 4) < 34 → Q (.inl (some (iv 0)), (mkH B s1 l2))) ∧ (34 ≤ (zz s1 10 4) → Q (.inl (some (iv 8)), (mkH B s1 l2))))) ∧ (0 ≤ v3 → Q (.inl (some (iv 4)), (mkH B s1 l2))))))) : a_W d 128 0 [.ref 0, iv x1, iv x2] [] (mkH B s l) Q := by
  refine w_aln (p := 1) (q128 0) rfl rfl ?_
  refine w_gR (p := 4) (j := 1) (v := 9) (q128 1) rfl (r0 hB) (by decide) (f0_1 hB) ?_
  refine w_gR (p := 7) (j := 0) (v := 10) (q128 4) rfl (r9 hB) (by decide) (f9_0 hB) ?_
  refine w_aln (p := 8) (q128 7) rfl rfl ?_
  refine w_gR (p := 11) (j := 0) (v := 1) (q128 8) rfl (r0 hB) (by decide) (f0_0 hB) ?_
  refine w_gR (p := 14) (j := 0) (v := 2) (q128 11) rfl (r1 hB) (by decide) (f1_0 hB) ?_
  refine w_iln (p := 15) (q128 14) rfl rfl ?_
  refine w_iln (p := 16) (q128 15) rfl rfl ?_
  refine w_call (st := []) (as := [.ref 10, .ref 2, iv x1, iv x2]) (as' := [iv x2, iv x1, .ref 2, .ref 10]) (p := 19) (q128 16) rfl m39 (by decide) (a_ok_i rfl (r10 hB) rfl) rfl rfl (Nat.le_of_ble_eq_true rfl) (by omega) rfl rfl (a_W.imp w ?_)
  rintro _ ⟨v3, s1, l2, rfl, w⟩
  refine ⟨some (iv v3), _, rfl, ?_⟩
  show a_W _ 128 19 [.ref 0, iv x1, iv x2] [iv v3] (mkH B s1 l2) _
  obtain ⟨h4, w⟩ := w
  by_cases c5 : v3 < 0
  · replace w := w.1 c5
    refine w_i1t (q128 19) h4 c5 ?_
    refine w_aln (p := 25) (q128 24) rfl rfl ?_
    refine w_gR (p := 28) (j := 1) (v := 9) (q128 25) rfl (r0 hB) (by decide) (f0_1 hB) ?_
    refine w_gR (p := 31) (j := 0) (v := 10) (q128 28) rfl (r9 hB) (by decide) (f9_0 hB) ?_
    refine w_gI (p := 34) (j := 4) (v := (zz s1 10 4)) (q128 31) rfl (r10 hB) (by decide) (iv_zz s1 10 4) ?_
    refine w_bp (p := 36) (q128 34) rfl (by decide) ?_
    by_cases c6 : (zz s1 10 4) < 34
    · replace w := w.1 c6
      refine w_i2t (q128 36) (inR_zz _ _ _) (by decide) c6 ?_
      refine w_ic (p := 45) (q128 44) rfl ?_
      exact w_ret (q128 45) rfl w
    · replace w := w.2 (Int.not_lt.mp c6)
      refine w_i2f (p := 39) (q128 36) rfl (inR_zz _ _ _) (by decide) c6 ?_
      refine w_bp (p := 41) (q128 39) rfl (by decide) ?_
      refine w_goto (q128 41) ?_
      exact w_ret (q128 45) rfl w
  · replace w := w.2 (Int.not_lt.mp c5)
    refine w_i1f (p := 22) (q128 19) rfl h4 c5 ?_
    refine w_ic (p := 23) (q128 22) rfl ?_
    exact w_ret (q128 23) rfl w
theorem w129_0 {d : Nat} {B : aH} {Q : aR → Prop} (hB : a_Can B) (hd : 1 ≤ d) (x2 x3 x4 : Int) (s : Nat → Nat → Int32) (l : Nat → Nat → Int64) (w : a_W (d - 1) 5 0 [.ref 10, .ref 2, iv x2, iv x3, .retAddr 0, .retAddr 0] [] (mkH B s l) (fun r => ∃ (v3 : Int) (s1 : Nat → Nat → Int32) (l2 : Nat → Nat → Int64), r = (.inl (some (iv v3)), mkH B s1 l2) ∧ (inR v3 ∧ ((v3 < 0 → Q (.inl none, (mkH B s1 l2))) ∧ (0 ≤ v3 → ((0 ≤ v3 ∧ v3 < 34) ∧ Q (.inl none, (mkH B (zu s1 16 v3.toNat x4) l2)))))))) : a_W d 129 0 [.ref 9, .ref 2, iv x2, iv x3, iv x4, .retAddr 0] [] (mkH B s l) Q := by
  refine w_aln (p := 1) (q129 0) rfl rfl ?_
  refine w_gR (p := 4) (j := 0) (v := 10) (q129 1) rfl (r9 hB) (by decide) (f9_0 hB) ?_
  refine w_aln (p := 5) (q129 4) rfl rfl ?_
  refine w_iln (p := 6) (q129 5) rfl rfl ?_
  refine w_iln (p := 7) (q129 6) rfl rfl ?_
  refine w_call (st := []) (as := [.ref 10, .ref 2, iv x2, iv x3]) (as' := [iv x3, iv x2, .ref 2, .ref 10]) (p := 10) (q129 7) rfl m5 (by decide) (a_ok_i rfl (r10 hB) rfl) rfl rfl (Nat.le_of_ble_eq_true rfl) (by omega) rfl rfl (a_W.imp w ?_)
  rintro _ ⟨v3, s1, l2, rfl, w⟩
  refine ⟨some (iv v3), _, rfl, ?_⟩
  show a_W _ 129 10 [.ref 9, .ref 2, iv x2, iv x3, iv x4, .retAddr 0] [iv v3] (mkH B s1 l2) _
  refine w_is (p := 12) (ls' := [.ref 9, .ref 2, iv x2, iv x3, iv x4, iv v3]) (q129 10) rfl (Nat.le_of_ble_eq_true rfl) rfl ?_
  refine w_il (p := 14) (q129 12) rfl rfl ?_
  obtain ⟨h4, w⟩ := w
  by_cases c5 : v3 < 0
  · replace w := w.1 c5
    refine w_i1t (q129 14) h4 c5 ?_
    exact w_rv (q129 26) rfl w
  · replace w := w.2 (Int.not_lt.mp c5)
    refine w_i1f (p := 17) (q129 14) rfl h4 c5 ?_
    refine w_aln (p := 18) (q129 17) rfl rfl ?_
    refine w_gR (p := 21) (j := 1) (v := 16) (q129 18) rfl (r9 hB) (by decide) (f9_1 hB) ?_
    refine w_il (p := 23) (q129 21) rfl rfl ?_
    refine w_il (p := 25) (q129 23) rfl rfl ?_
    obtain ⟨o6, w⟩ := w
    refine w_ias (p := 26) (q129 25) rfl (r16 hB) (by decide) o6 ?_
    exact w_rv (q129 26) rfl w
/-- a fault at token i -/
def XFt (t : Nat → Int) (n : Nat) (ns : List (List Int)) (f : Int) (i : Nat) (s : aZ) : Prop := XF t n f (stT t n i) (nsT t n ns (i + 1)) s
theorem XC.die {t : Nat → Int} {n : Nat} {ns : List (List Int)} {i : Nat} {s : aZ} (h : XC t n ns i s) (f : Int) (hf : f ≠ 0) (hr : inR f) : XFt t n ns f i (zu (zu (zu s 1 10 f) 1 11 (zz s 1 7)) 1 6 0) ∧ FrX s (zu (zu (zu s 1 10 f) 1 11 (zz s 1 7)) 1 6 0) := by
  obtain ⟨x1, x2, x3, x4, x5, x6, x7, x8, x9, x10⟩ := h
  have f1 : Fr1 [6, 10, 11] s (zu (zu (zu s 1 10 f) 1 11 (zz s 1 7)) 1 6 0) := fl_fr (Fr1.rf _ s) _ _ (by decide) (by decide) (by decide)
  obtain ⟨m1, m2, m3⟩ := fl_bad s f (zz s 1 7) hr (inR_zz _ _ _)
  exact ⟨⟨x1.fr f1 (by decide), hf, m2, m3.trans x4, m1, NT3.fr1 x8 f1⟩, FrX.of1 f1 (by decide)⟩
theorem XAt.f {t : Nat → Int} {n : Nat} {ns : List (List Int)} {i : Nat} {s : aZ} (h : XAt t n ns i s) (h0 : ftT t n i ≠ 0) : XFt t n ns (ftT t n i) i s := h.2 h0
theorem FrX.rf (s : aZ) : FrX s s := ⟨fun _ _ _ _ _ _ _ => rfl, fun _ _ => rfl⟩
/-- the reader goes on if token i is of this kind; else a fault there -/
theorem x_expect {d : Nat} {B : aH} (hB : a_Can B) (hd : 6 ≤ d) {t : Nat → Int} {n : Nat} {ns : List (List Int)} (hcap : XCap t n ns) {s : aZ} (l : aZL) (i : Nat) (k : Int) (hk : 0 < k ∧ k ≤ 23) (h : XAt t n ns i s) : a_W d 63 0 [.ref 1, iv k] [] (mkH B s l) (fun q => ∃ s2, q = (.inl none, mkH B s2 l) ∧ FrX s s2 ∧ ((ftT t n i = 0 ∧ kdT t n i = k ∧ stT t n i < n ∧ XAt t n ns (i + 1) s2) ∨ (ftT t n i = 0 ∧ kdT t n i ≠ k ∧ XFt t n ns 2 i s2) ∨ (ftT t n i ≠ 0 ∧ XFt t n ns (ftT t n i) i s2))) := by
  by_cases h0 : ftT t n i = 0
  · have hC := h.1 h0
    have x6 := hC.2.2.2.2.1
    have x10 := hC.2.1
    have hr := kd_rng h0
    refine w63_0 hB (by omega) k s l ⟨⟨by omega, by omega⟩, fun hne => ⟨fun g => absurd x10 g, fun _ => ?_⟩, fun he => ?_⟩
    · obtain ⟨k1, k2⟩ := hC.die 2 (by decide) (by decide)
      exact ⟨_, rfl, k2, Or.inr (Or.inl ⟨h0, fun e => hne (x6.trans e), k1⟩)⟩
    · have hs : stT t n i < n := by omega
      refine a_W.imp (x_advance hB (by omega) hcap l i h0 hs hC) ?_
      rintro _ ⟨s2, rfl, g1, g2, g3⟩
      exact ⟨s2, l, rfl, s2, rfl, g2, Or.inl ⟨h0, x6.symm.trans he, hs, g1⟩⟩
  · have hF := h.2 h0
    have f3 := hF.2.2.1
    have f5 := hF.2.2.2.2.1
    exact w63_0 hB (by omega) k s l ⟨⟨by omega, by omega⟩, fun _ => ⟨fun _ => ⟨s, rfl, FrX.rf s, Or.inr (Or.inr ⟨h0, hF⟩)⟩, fun g => absurd (f3.symm.trans g) h0⟩, fun he => absurd he (by omega)⟩
theorem x_expect_f {d : Nat} {B : aH} (hB : a_Can B) (hd : 3 ≤ d) {t : Nat → Int} {n : Nat} {ns : List (List Int)} {f : Int} {i : Nat} {s : aZ} (l : aZL) (k : Int) (hk : 0 < k ∧ k ≤ 23) (h : XFt t n ns f i s) : a_W d 63 0 [.ref 1, iv k] [] (mkH B s l) (fun q => q = (.inl none, mkH B s l)) := by
  have f2 := h.2.1
  have f3 := h.2.2.1
  have f5 := h.2.2.2.2.1
  exact w63_0 hB (by omega) k s l ⟨⟨by omega, by omega⟩, fun _ => ⟨fun _ => rfl, fun g => absurd (f3.symm.trans g) f2⟩, fun he => absurd he (by omega)⟩
/-- the type variables behind a type's name, r more at most -/
def tyL (t : Nat → Int) (n : Nat) : Nat → Nat → (Int × Nat) ⊕ Nat
  | 0, i => if ftT t n i ≠ 0 then .inl (ftT t n i, i) else if kdT t n i ≠ 0 then .inl (2, i) else .inr i
  | r + 1, i => if ftT t n i ≠ 0 then .inl (ftT t n i, i) else if kdT t n i = 2 then tyL t n r (i + 1) else if kdT t n i ≠ 0 then .inl (2, i) else .inr i
def tyP (t : Nat → Int) (n : Nat) : (Int × Nat) ⊕ Nat := if ftT t n 0 ≠ 0 then .inl (ftT t n 0, 0) else if kdT t n 0 ≠ 1 then .inl (2, 0) else tyL t n 2 1
theorem x_tyend {d : Nat} {B : aH} (hB : a_Can B) (hd : 4 ≤ d) {t : Nat → Int} {n : Nat} {ns : List (List Int)} (l : aZL) (x1 x2 x3 : Int) (Q : aR → Prop) (i : Nat) (s : aZ) (h : XAt t n ns i s) (h2 : ftT t n i = 0 → kdT t n i = 0 → XC t n ns i s → a_W (d - 1) 128 0 [.ref 0, iv x1, iv x2] [] (mkH B s l) (fun r => ∃ (v5 : Int) (s3 : Nat → Nat → Int32) (l4 : Nat → Nat → Int64), r = (.inl (some (iv v5)), mkH B s3 l4) ∧ a_W (d - 1) 113 0 [.ref 1, iv v5] [] (mkH B s3 l4) (fun r => ∃ (s6 : Nat → Nat → Int32) (l7 : Nat → Nat → Int64), r = (.inl none, mkH B s6 l7) ∧ a_W d 127 85 [.ref 0, iv x1, iv x2, iv x3] [] (mkH B s6 l7) Q))) (h3 : ∀ s2 f, XFt t n ns f i s2 → FrX s s2 → ((ftT t n i ≠ 0 ∧ f = ftT t n i) ∨ (ftT t n i = 0 ∧ kdT t n i ≠ 0 ∧ f = 2)) → a_W d 127 85 [.ref 0, iv x1, iv x2, iv x3] [] (mkH B s2 l) Q) : a_W d 127 55 [.ref 0, iv x1, iv x2, iv x3] [] (mkH B s l) Q := by
  by_cases h0 : ftT t n i = 0
  · have hC := h.1 h0
    have x6 := hC.2.2.2.2.1
    have x10 := hC.2.1
    refine w127_55 hB (by omega) x1 x2 x3 s l ⟨fun g => ⟨fun q => absurd x10 q, fun _ => h2 h0 (x6.symm.trans g) hC⟩, fun g => ⟨fun q => absurd x10 q, fun _ => ?_⟩⟩
    obtain ⟨k1, k2⟩ := hC.die 2 (by decide) (by decide)
    exact h3 _ 2 k1 k2 (Or.inr ⟨h0, fun e => g (x6.trans e), rfl⟩)
  · have hF := h.2 h0
    have f3 := hF.2.2.1
    have f5 := hF.2.2.2.2.1
    have f2 := hF.2.1
    exact w127_55 hB (by omega) x1 x2 x3 s l ⟨fun g => ⟨fun _ => h3 s _ hF (FrX.rf s) (Or.inl ⟨h0, rfl⟩), fun q => absurd (f3.symm.trans q) f2⟩, fun g => absurd f5 g⟩
theorem x_tyloop {d : Nat} {B : aH} (hB : a_Can B) (hd : 6 ≤ d) {t : Nat → Int} {n : Nat} {ns : List (List Int)} (hcap : XCap t n ns) (l : aZL) (x1 x2 : Int) (Q : aR → Prop) (s0 : aZ)
    (h2 : ∀ j s, FrX s0 s → tyL t n 2 1 = .inr j → XC t n ns j s → a_W (d - 1) 128 0 [.ref 0, iv x1, iv x2] [] (mkH B s l) (fun r => ∃ (v5 : Int) (s3 : Nat → Nat → Int32) (l4 : Nat → Nat → Int64), r = (.inl (some (iv v5)), mkH B s3 l4) ∧ a_W (d - 1) 113 0 [.ref 1, iv v5] [] (mkH B s3 l4) (fun r => ∃ (s6 : Nat → Nat → Int32) (l7 : Nat → Nat → Int64), r = (.inl none, mkH B s6 l7) ∧ a_W d 127 85 [.ref 0, iv x1, iv x2, iv ((j : Int) - 1)] [] (mkH B s6 l7) Q)))
    (h3 : ∀ s2 f j x3, XFt t n ns f j s2 → FrX s0 s2 → tyL t n 2 1 = .inl (f, j) → a_W d 127 85 [.ref 0, iv x1, iv x2, iv x3] [] (mkH B s2 l) Q) : ∀ (r i : Nat) (s : aZ), r + i = 3 → 1 ≤ i → XAt t n ns i s → FrX s0 s → tyL t n r i = tyL t n 2 1 → a_W d 127 26 [.ref 0, iv x1, iv x2, iv ((i : Int) - 1)] [] (mkH B s l) Q := by
  intro r
  induction r with
  | zero =>
    intro i s hi h1 hA hf he
    refine w127_26 hB (by omega) x1 x2 _ s l ⟨⟨by omega, by omega⟩, fun _ => ?_, fun h => absurd h (by omega)⟩
    have he2 : (if ftT t n i ≠ 0 then .inl (ftT t n i, i) else if kdT t n i ≠ 0 then .inl (2, i) else .inr i) = tyL t n 2 1 := he
    refine x_tyend hB (by omega) l x1 x2 _ Q i s hA (fun g0 g1 gC => h2 i s hf ?_ gC) (fun s2 f gF gf gc => h3 s2 f i _ gF (hf.tr gf) ?_)
    · rw [← he2, if_neg (fun q => q g0), if_neg (fun q => q g1)]
    · rw [← he2]
      rcases gc with ⟨c1, c2⟩ | ⟨c1, c2, c3⟩
      · rw [if_pos c1, c2]
      · rw [if_neg (fun q => q c1), if_pos c2, c3]
  | succ r ih =>
    intro i s hi h1 hA hf he
    have he2 : (if ftT t n i ≠ 0 then .inl (ftT t n i, i) else if kdT t n i = 2 then tyL t n r (i + 1) else if kdT t n i ≠ 0 then .inl (2, i) else .inr i) = tyL t n 2 1 := he
    have stop : (ftT t n i = 0 → kdT t n i ≠ 2) → a_W d 127 55 [.ref 0, iv x1, iv x2, iv ((i : Int) - 1)] [] (mkH B s l) Q := by
      intro hne
      refine x_tyend hB (by omega) l x1 x2 _ Q i s hA (fun g0 g1 gC => h2 i s hf ?_ gC) (fun s2 f gF gf gc => h3 s2 f i _ gF (hf.tr gf) ?_)
      · rw [← he2, if_neg (fun q => q g0), if_neg (hne g0), if_neg (fun q => q g1)]
      · rw [← he2]
        rcases gc with ⟨c1, c2⟩ | ⟨c1, c2, c3⟩
        · rw [if_pos c1, c2]
        · rw [if_neg (fun q => q c1), if_neg (hne c1), if_pos c2, c3]
    refine w127_26 hB (by omega) x1 x2 _ s l ⟨⟨by omega, by omega⟩, fun h => absurd h (by omega), fun _ => ?_⟩
    by_cases h0 : ftT t n i = 0
    · have hC := hA.1 h0
      have x6 := hC.2.2.2.2.1
      have hr := kd_rng h0
      refine ⟨fun g => stop (fun _ q => g (x6.trans q)), fun g => ?_⟩
      have hk2 : kdT t n i = 2 := x6.symm.trans g
      refine a_W.imp (x_advance hB (by omega) hcap l i h0 (by omega) hC) ?_
      rintro _ ⟨s2, rfl, g1, g2, g3⟩
      refine ⟨s2, l, rfl, ?_⟩
      rw [show (i : Int) - 1 + 1 = ((i + 1 : Nat) : Int) - 1 by omega]
      refine ih (i + 1) s2 (by omega) (by omega) g1 (hf.tr g2) ?_
      rw [← he2, if_neg (fun q => q h0), if_pos hk2]
    · have hF := hA.2 h0
      have f5 := hF.2.2.2.2.1
      exact ⟨fun _ => stop (fun q => absurd q h0), fun g => absurd (f5.symm.trans g) (by decide)⟩
