/-! printed by wip/am/mk96.py: the pool of types; the reader's written types -/
theorem w51_0 {d : Nat} {B : aH} {Q : aR → Prop} (hB : a_Can B) (x1 : Int) (s : Nat → Nat → Int32) (l : Nat → Nat → Int64) (w : a_W d 51 4 [.ref 17, iv x1, iv x1, iv 0] [] (mkH B s l) Q) : a_W d 51 0 [.ref 17, iv x1, .retAddr 0, .retAddr 0] [] (mkH B s l) Q := by
  refine w_iln (p := 1) (q51 0) rfl rfl ?_
  refine w_isn (p := 2) (ls' := [.ref 17, iv x1, iv x1, .retAddr 0]) (q51 1) rfl (Nat.le_of_ble_eq_true rfl) rfl ?_
  refine w_ic (p := 3) (q51 2) rfl ?_
  refine w_isn (p := 4) (ls' := [.ref 17, iv x1, iv x1, iv 0]) (q51 3) rfl (Nat.le_of_ble_eq_true rfl) rfl ?_
  exact w
theorem w51_4 {d : Nat} {B : aH} {Q : aR → Prop} (hB : a_Can B) (x1 x2 x3 : Int) (s : Nat → Nat → Int32) (l : Nat → Nat → Int64) (w : (inR x3 ∧ ((17000 ≤ x3 → Q (.inl (some (iv x2)), (mkH B s l))) ∧ (x3 < 17000 → ((0 ≤ x2 ∧ x2 < 17000) ∧ (inR x2 ∧ (((zz s 21 x2.toNat) = x2 → Q (.inl (some (iv x2)), (mkH B s l))) ∧ ((zz s 21 x2.toNat) ≠ x2 → ((0 ≤ (zz s 21 x2.toNat) ∧ (zz s 21 x2.toNat) < 17000) ∧ a_W d 51 4 [.ref 17, iv x1, iv (zz s 21 (zz s 21 x2.toNat).toNat), iv (x3 + 1)] [] (mkH B (zu s 21 x2.toNat (zz s 21 (zz s 21 x2.toNat).toNat)) l) Q))))))))) : a_W d 51 4 [.ref 17, iv x1, iv x2, iv x3] [] (mkH B s l) Q := by
  refine w_iln (p := 5) (q51 4) rfl rfl ?_
  refine w_sp (p := 8) (q51 5) rfl (by decide) ?_
  obtain ⟨h1, w⟩ := w
  by_cases c2 : 17000 ≤ x3
  · replace w := w.1 c2
    refine w_i2t (q51 8) h1 (by decide) c2 ?_
    refine w_iln (p := 52) (q51 51) rfl rfl ?_
    exact w_ret (q51 52) rfl w
  · replace w := w.2 (Int.not_le.mp c2)
    refine w_i2f (p := 11) (q51 8) rfl h1 (by decide) c2 ?_
    refine w_aln (p := 12) (q51 11) rfl rfl ?_
    refine w_gR (p := 15) (j := 3) (v := 21) (q51 12) rfl (r17 hB) (by decide) (f17_3 hB) ?_
    refine w_iln (p := 16) (q51 15) rfl rfl ?_
    obtain ⟨o3, w⟩ := w
    refine w_ia (p := 17) (v := (zz s 21 x2.toNat)) (q51 16) rfl (r21 hB) (by decide) o3 (iv_zz s 21 x2.toNat) ?_
    refine w_iln (p := 18) (q51 17) rfl rfl ?_
    obtain ⟨h4, w⟩ := w
    by_cases c5 : (zz s 21 x2.toNat) = x2
    · replace w := w.1 c5
      refine w_i2t (q51 18) (inR_zz _ _ _) h4 c5 ?_
      refine w_iln (p := 52) (q51 51) rfl rfl ?_
      exact w_ret (q51 52) rfl w
    · replace w := w.2 c5
      refine w_i2f (p := 21) (q51 18) rfl (inR_zz _ _ _) h4 c5 ?_
      refine w_aln (p := 22) (q51 21) rfl rfl ?_
      refine w_gR (p := 25) (j := 3) (v := 21) (q51 22) rfl (r17 hB) (by decide) (f17_3 hB) ?_
      refine w_iln (p := 26) (q51 25) rfl rfl ?_
      refine w_aln (p := 27) (q51 26) rfl rfl ?_
      refine w_gR (p := 30) (j := 3) (v := 21) (q51 27) rfl (r17 hB) (by decide) (f17_3 hB) ?_
      refine w_aln (p := 31) (q51 30) rfl rfl ?_
      refine w_gR (p := 34) (j := 3) (v := 21) (q51 31) rfl (r17 hB) (by decide) (f17_3 hB) ?_
      refine w_iln (p := 35) (q51 34) rfl rfl ?_
      refine w_ia (p := 36) (v := (zz s 21 x2.toNat)) (q51 35) rfl (r21 hB) (by decide) o3 (iv_zz s 21 x2.toNat) ?_
      obtain ⟨o6, w⟩ := w
      refine w_ia (p := 37) (v := (zz s 21 (zz s 21 x2.toNat).toNat)) (q51 36) rfl (r21 hB) (by decide) o6 (iv_zz s 21 (zz s 21 x2.toNat).toNat) ?_
      refine w_ias (p := 38) (q51 37) rfl (r21 hB) (by decide) o3 ?_
      refine w_aln (p := 39) (q51 38) rfl rfl ?_
      refine w_gR (p := 42) (j := 3) (v := 21) (q51 39) rfl (r17 hB) (by decide) (f17_3 hB) ?_
      refine w_iln (p := 43) (q51 42) rfl rfl ?_
      refine w_ia (p := 44) (v := (zz s 21 (zz s 21 x2.toNat).toNat)) (q51 43) rfl (r21 hB) (by decide) o3 (by unfold zu a_up; simp only [if_true]) ?_
      refine w_isn (p := 45) (ls' := [.ref 17, iv x1, iv (zz s 21 (zz s 21 x2.toNat).toNat), iv x3]) (q51 44) rfl (Nat.le_of_ble_eq_true rfl) rfl ?_
      refine w_inc (p := 48) (ls' := [.ref 17, iv x1, iv (zz s 21 (zz s 21 x2.toNat).toNat), iv (x3 + 1)]) (q51 45) rfl rfl rfl ?_
      refine w_goto (q51 48) ?_
      exact w
theorem w50_0 {d : Nat} {B : aH} {Q : aR → Prop} (hB : a_Can B) (hd : 1 ≤ d) (x1 : Int) (s : Nat → Nat → Int32) (l : Nat → Nat → Int64) (w : a_W (d - 1) 51 0 [.ref 17, iv x1, .retAddr 0, .retAddr 0] [] (mkH B s l) (fun r => ∃ (v3 : Int) (s1 : Nat → Nat → Int32) (l2 : Nat → Nat → Int64), r = (.inl (some (iv v3)), mkH B s1 l2) ∧ ((0 ≤ v3 ∧ v3 < 17000) ∧ Q (.inl (some (iv (zz s1 22 v3.toNat))), (mkH B s1 l2))))) : a_W d 50 0 [.ref 17, iv x1] [] (mkH B s l) Q := by
  refine w_aln (p := 1) (q50 0) rfl rfl ?_
  refine w_gR (p := 4) (j := 4) (v := 22) (q50 1) rfl (r17 hB) (by decide) (f17_4 hB) ?_
  refine w_aln (p := 5) (q50 4) rfl rfl ?_
  refine w_iln (p := 6) (q50 5) rfl rfl ?_
  refine w_call (st := [.ref 22]) (as := [.ref 17, iv x1]) (as' := [iv x1, .ref 17]) (p := 9) (q50 6) rfl m51 (by decide) (a_ok_i rfl (r17 hB) rfl) rfl rfl (Nat.le_of_ble_eq_true rfl) (by omega) rfl rfl (a_W.imp w ?_)
  rintro _ ⟨v3, s1, l2, rfl, w⟩
  refine ⟨some (iv v3), _, rfl, ?_⟩
  show a_W _ 50 9 [.ref 17, iv x1] [iv v3, .ref 22] (mkH B s1 l2) _
  obtain ⟨o4, w⟩ := w
  refine w_ia (p := 10) (v := (zz s1 22 v3.toNat)) (q50 9) rfl (r22 hB) (by decide) o4 (iv_zz s1 22 v3.toNat) ?_
  exact w_ret (q50 10) rfl w
theorem w52_0 {d : Nat} {B : aH} {Q : aR → Prop} (hB : a_Can B) (hd : 1 ≤ d) (x1 : Int) (s : Nat → Nat → Int32) (l : Nat → Nat → Int64) (w : a_W (d - 1) 51 0 [.ref 17, iv x1, .retAddr 0, .retAddr 0] [] (mkH B s l) (fun r => ∃ (v3 : Int) (s1 : Nat → Nat → Int32) (l2 : Nat → Nat → Int64), r = (.inl (some (iv v3)), mkH B s1 l2) ∧ ((0 ≤ v3 ∧ v3 < 17000) ∧ Q (.inl (some (iv (zz s1 23 v3.toNat))), (mkH B s1 l2))))) : a_W d 52 0 [.ref 17, iv x1] [] (mkH B s l) Q := by
  refine w_aln (p := 1) (q52 0) rfl rfl ?_
  refine w_gR (p := 4) (j := 5) (v := 23) (q52 1) rfl (r17 hB) (by decide) (f17_5 hB) ?_
  refine w_aln (p := 5) (q52 4) rfl rfl ?_
  refine w_iln (p := 6) (q52 5) rfl rfl ?_
  refine w_call (st := [.ref 23]) (as := [.ref 17, iv x1]) (as' := [iv x1, .ref 17]) (p := 9) (q52 6) rfl m51 (by decide) (a_ok_i rfl (r17 hB) rfl) rfl rfl (Nat.le_of_ble_eq_true rfl) (by omega) rfl rfl (a_W.imp w ?_)
  rintro _ ⟨v3, s1, l2, rfl, w⟩
  refine ⟨some (iv v3), _, rfl, ?_⟩
  show a_W _ 52 9 [.ref 17, iv x1] [iv v3, .ref 23] (mkH B s1 l2) _
  obtain ⟨o4, w⟩ := w
  refine w_ia (p := 10) (v := (zz s1 23 v3.toNat)) (q52 9) rfl (r23 hB) (by decide) o4 (iv_zz s1 23 v3.toNat) ?_
  exact w_ret (q52 10) rfl w
theorem w53_0 {d : Nat} {B : aH} {Q : aR → Prop} (hB : a_Can B) (x1 x2 x3 : Int) (s : Nat → Nat → Int32) (l : Nat → Nat → Int64) (w : ((0 ≤ x1 ∧ x1 < 17000) ∧ Q (.inl none, (mkH B (zu (zu s 22 x1.toNat x2) 23 x1.toNat x3) l)))) : a_W d 53 0 [.ref 17, iv x1, iv x2, iv x3] [] (mkH B s l) Q := by
  refine w_aln (p := 1) (q53 0) rfl rfl ?_
  refine w_gR (p := 4) (j := 4) (v := 22) (q53 1) rfl (r17 hB) (by decide) (f17_4 hB) ?_
  refine w_iln (p := 5) (q53 4) rfl rfl ?_
  refine w_iln (p := 6) (q53 5) rfl rfl ?_
  obtain ⟨o1, w⟩ := w
  refine w_ias (p := 7) (q53 6) rfl (r22 hB) (by decide) o1 ?_
  refine w_aln (p := 8) (q53 7) rfl rfl ?_
  refine w_gR (p := 11) (j := 5) (v := 23) (q53 8) rfl (r17 hB) (by decide) (f17_5 hB) ?_
  refine w_iln (p := 12) (q53 11) rfl rfl ?_
  refine w_iln (p := 13) (q53 12) rfl rfl ?_
  refine w_ias (p := 14) (q53 13) rfl (r23 hB) (by decide) o1 ?_
  exact w_rv (q53 14) rfl w
theorem w49_0 {d : Nat} {B : aH} {Q : aR → Prop} (hB : a_Can B) (hd : 1 ≤ d) (x1 : Int) (s : Nat → Nat → Int32) (l : Nat → Nat → Int64) (w : ((0 ≤ x1 ∧ x1 < 17000) ∧ (((zz s 19 x1.toNat) < 0 → a_W d 49 37 [.ref 17, iv x1, iv 1, iv 0] [] (mkH B s l) Q) ∧ (0 ≤ (zz s 19 x1.toNat) → a_W (d - 1) 50 0 [.ref 17, iv (zz s 19 x1.toNat)] [] (mkH B s l) (fun r => ∃ (v5 : Int) (s3 : Nat → Nat → Int32) (l4 : Nat → Nat → Int64), r = (.inl (some (iv v5)), mkH B s3 l4) ∧ a_W (d - 1) 52 0 [.ref 17, iv (zz s3 19 x1.toNat)] [] (mkH B s3 l4) (fun r => ∃ (v8 : Int) (s6 : Nat → Nat → Int32) (l7 : Nat → Nat → Int64), r = (.inl (some (iv v8)), mkH B s6 l7) ∧ a_W d 49 37 [.ref 17, iv x1, iv (1 + v5), iv v8] [] (mkH B s6 l7) Q)))))) : a_W d 49 0 [.ref 17, iv x1, .retAddr 0, .retAddr 0] [] (mkH B s l) Q := by
  refine w_ic (p := 1) (q49 0) rfl ?_
  refine w_isn (p := 2) (ls' := [.ref 17, iv x1, iv 1, .retAddr 0]) (q49 1) rfl (Nat.le_of_ble_eq_true rfl) rfl ?_
  refine w_ic (p := 3) (q49 2) rfl ?_
  refine w_isn (p := 4) (ls' := [.ref 17, iv x1, iv 1, iv 0]) (q49 3) rfl (Nat.le_of_ble_eq_true rfl) rfl ?_
  refine w_aln (p := 5) (q49 4) rfl rfl ?_
  refine w_gR (p := 8) (j := 1) (v := 19) (q49 5) rfl (r17 hB) (by decide) (f17_1 hB) ?_
  refine w_iln (p := 9) (q49 8) rfl rfl ?_
  obtain ⟨o1, w⟩ := w
  refine w_ia (p := 10) (v := (zz s 19 x1.toNat)) (q49 9) rfl (r19 hB) (by decide) o1 (iv_zz s 19 x1.toNat) ?_
  by_cases c2 : (zz s 19 x1.toNat) < 0
  · replace w := w.1 c2
    refine w_i1t (q49 10) (inR_zz _ _ _) c2 ?_
    exact w
  · replace w := w.2 (Int.not_lt.mp c2)
    refine w_i1f (p := 13) (q49 10) rfl (inR_zz _ _ _) c2 ?_
    refine w_iln (p := 14) (q49 13) rfl rfl ?_
    refine w_aln (p := 15) (q49 14) rfl rfl ?_
    refine w_aln (p := 16) (q49 15) rfl rfl ?_
    refine w_gR (p := 19) (j := 1) (v := 19) (q49 16) rfl (r17 hB) (by decide) (f17_1 hB) ?_
    refine w_iln (p := 20) (q49 19) rfl rfl ?_
    refine w_ia (p := 21) (v := (zz s 19 x1.toNat)) (q49 20) rfl (r19 hB) (by decide) o1 (iv_zz s 19 x1.toNat) ?_
    refine w_call (st := [iv 1]) (as := [.ref 17, iv (zz s 19 x1.toNat)]) (as' := [iv (zz s 19 x1.toNat), .ref 17]) (p := 24) (q49 21) rfl m50 (by decide) (a_ok_i rfl (r17 hB) rfl) rfl rfl (Nat.le_of_ble_eq_true rfl) (by omega) rfl rfl (a_W.imp w ?_)
    rintro _ ⟨v5, s3, l4, rfl, w⟩
    refine ⟨some (iv v5), _, rfl, ?_⟩
    show a_W _ 49 24 [.ref 17, iv x1, iv 1, iv 0] [iv v5, iv 1] (mkH B s3 l4) _
    refine w_add (p := 25) (q49 24) rfl ?_
    refine w_isn (p := 26) (ls' := [.ref 17, iv x1, iv (1 + v5), iv 0]) (q49 25) rfl (Nat.le_of_ble_eq_true rfl) rfl ?_
    refine w_aln (p := 27) (q49 26) rfl rfl ?_
    refine w_aln (p := 28) (q49 27) rfl rfl ?_
    refine w_gR (p := 31) (j := 1) (v := 19) (q49 28) rfl (r17 hB) (by decide) (f17_1 hB) ?_
    refine w_iln (p := 32) (q49 31) rfl rfl ?_
    refine w_ia (p := 33) (v := (zz s3 19 x1.toNat)) (q49 32) rfl (r19 hB) (by decide) o1 (iv_zz s3 19 x1.toNat) ?_
    refine w_call (st := []) (as := [.ref 17, iv (zz s3 19 x1.toNat)]) (as' := [iv (zz s3 19 x1.toNat), .ref 17]) (p := 36) (q49 33) rfl m52 (by decide) (a_ok_i rfl (r17 hB) rfl) rfl rfl (Nat.le_of_ble_eq_true rfl) (by omega) rfl rfl (a_W.imp w ?_)
    rintro _ ⟨v8, s6, l7, rfl, w⟩
    refine ⟨some (iv v8), _, rfl, ?_⟩
    show a_W _ 49 36 [.ref 17, iv x1, iv (1 + v5), iv 0] [iv v8] (mkH B s6 l7) _
    refine w_isn (p := 37) (ls' := [.ref 17, iv x1, iv (1 + v5), iv v8]) (q49 36) rfl (Nat.le_of_ble_eq_true rfl) rfl ?_
    exact w
theorem w49_37 {d : Nat} {B : aH} {Q : aR → Prop} (hB : a_Can B) (hd : 1 ≤ d) (x1 x2 x3 : Int) (s : Nat → Nat → Int32) (l : Nat → Nat → Int64) (w : ((0 ≤ x1 ∧ x1 < 17000) ∧ (((zz s 20 x1.toNat) < 0 → a_W d 49 74 [.ref 17, iv x1, iv x2, iv x3] [] (mkH B s l) Q) ∧ (0 ≤ (zz s 20 x1.toNat) → a_W (d - 1) 50 0 [.ref 17, iv (zz s 20 x1.toNat)] [] (mkH B s l) (fun r => ∃ (v5 : Int) (s3 : Nat → Nat → Int32) (l4 : Nat → Nat → Int64), r = (.inl (some (iv v5)), mkH B s3 l4) ∧ a_W (d - 1) 52 0 [.ref 17, iv (zz s3 20 x1.toNat)] [] (mkH B s3 l4) (fun r => ∃ (v8 : Int) (s6 : Nat → Nat → Int32) (l7 : Nat → Nat → Int64), r = (.inl (some (iv v8)), mkH B s6 l7) ∧ (inR x3 ∧ inR v8 ∧ a_W d 49 74 [.ref 17, iv x1, iv (x2 + v5), iv (max x3 v8)] [] (mkH B s6 l7) Q))))))) : a_W d 49 37 [.ref 17, iv x1, iv x2, iv x3] [] (mkH B s l) Q := by
  refine w_aln (p := 38) (q49 37) rfl rfl ?_
  refine w_gR (p := 41) (j := 2) (v := 20) (q49 38) rfl (r17 hB) (by decide) (f17_2 hB) ?_
  refine w_iln (p := 42) (q49 41) rfl rfl ?_
  obtain ⟨o1, w⟩ := w
  refine w_ia (p := 43) (v := (zz s 20 x1.toNat)) (q49 42) rfl (r20 hB) (by decide) o1 (iv_zz s 20 x1.toNat) ?_
  by_cases c2 : (zz s 20 x1.toNat) < 0
  · replace w := w.1 c2
    refine w_i1t (q49 43) (inR_zz _ _ _) c2 ?_
    exact w
  · replace w := w.2 (Int.not_lt.mp c2)
    refine w_i1f (p := 46) (q49 43) rfl (inR_zz _ _ _) c2 ?_
    refine w_iln (p := 47) (q49 46) rfl rfl ?_
    refine w_aln (p := 48) (q49 47) rfl rfl ?_
    refine w_aln (p := 49) (q49 48) rfl rfl ?_
    refine w_gR (p := 52) (j := 2) (v := 20) (q49 49) rfl (r17 hB) (by decide) (f17_2 hB) ?_
    refine w_iln (p := 53) (q49 52) rfl rfl ?_
    refine w_ia (p := 54) (v := (zz s 20 x1.toNat)) (q49 53) rfl (r20 hB) (by decide) o1 (iv_zz s 20 x1.toNat) ?_
    refine w_call (st := [iv x2]) (as := [.ref 17, iv (zz s 20 x1.toNat)]) (as' := [iv (zz s 20 x1.toNat), .ref 17]) (p := 57) (q49 54) rfl m50 (by decide) (a_ok_i rfl (r17 hB) rfl) rfl rfl (Nat.le_of_ble_eq_true rfl) (by omega) rfl rfl (a_W.imp w ?_)
    rintro _ ⟨v5, s3, l4, rfl, w⟩
    refine ⟨some (iv v5), _, rfl, ?_⟩
    show a_W _ 49 57 [.ref 17, iv x1, iv x2, iv x3] [iv v5, iv x2] (mkH B s3 l4) _
    refine w_add (p := 58) (q49 57) rfl ?_
    refine w_isn (p := 59) (ls' := [.ref 17, iv x1, iv (x2 + v5), iv x3]) (q49 58) rfl (Nat.le_of_ble_eq_true rfl) rfl ?_
    refine w_iln (p := 60) (q49 59) rfl rfl ?_
    refine w_aln (p := 61) (q49 60) rfl rfl ?_
    refine w_aln (p := 62) (q49 61) rfl rfl ?_
    refine w_gR (p := 65) (j := 2) (v := 20) (q49 62) rfl (r17 hB) (by decide) (f17_2 hB) ?_
    refine w_iln (p := 66) (q49 65) rfl rfl ?_
    refine w_ia (p := 67) (v := (zz s3 20 x1.toNat)) (q49 66) rfl (r20 hB) (by decide) o1 (iv_zz s3 20 x1.toNat) ?_
    refine w_call (st := [iv x3]) (as := [.ref 17, iv (zz s3 20 x1.toNat)]) (as' := [iv (zz s3 20 x1.toNat), .ref 17]) (p := 70) (q49 67) rfl m52 (by decide) (a_ok_i rfl (r17 hB) rfl) rfl rfl (Nat.le_of_ble_eq_true rfl) (by omega) rfl rfl (a_W.imp w ?_)
    rintro _ ⟨v8, s6, l7, rfl, w⟩
    refine ⟨some (iv v8), _, rfl, ?_⟩
    show a_W _ 49 70 [.ref 17, iv x1, iv (x2 + v5), iv x3] [iv v8, iv x3] (mkH B s6 l7) _
    obtain ⟨h9, w⟩ := w
    obtain ⟨h10, w⟩ := w
    refine w_max (p := 73) (q49 70) rfl rfl h9 h10 (Nat.le_of_ble_eq_true rfl) (by omega) ?_
    refine w_isn (p := 74) (ls' := [.ref 17, iv x1, iv (x2 + v5), iv (max x3 v8)]) (q49 73) rfl (Nat.le_of_ble_eq_true rfl) rfl ?_
    exact w
theorem w49_74 {d : Nat} {B : aH} {Q : aR → Prop} (hB : a_Can B) (hd : 1 ≤ d) (x1 x2 x3 : Int) (s : Nat → Nat → Int32) (l : Nat → Nat → Int64) (w : (inR x2 ∧ ((0 ≤ x1 ∧ x1 < 17000) ∧ Q (.inl none, (mkH B (zu (zu s 22 x1.toNat (min x2 1000000)) 23 x1.toNat (x3 + 1)) l))))) : a_W d 49 74 [.ref 17, iv x1, iv x2, iv x3] [] (mkH B s l) Q := by
  refine w_aln (p := 75) (q49 74) rfl rfl ?_
  refine w_iln (p := 76) (q49 75) rfl rfl ?_
  refine w_iln (p := 77) (q49 76) rfl rfl ?_
  refine w_ldc (p := 79) (n := 1000000) (q49 77) rfl (by decide) ?_
  obtain ⟨h1, w⟩ := w
  refine w_min (p := 82) (q49 79) rfl rfl h1 (by decide) (Nat.le_of_ble_eq_true rfl) (by omega) ?_
  refine w_iln (p := 83) (q49 82) rfl rfl ?_
  refine w_ic (p := 84) (q49 83) rfl ?_
  refine w_add (p := 85) (q49 84) rfl ?_
  refine w_call (st := []) (as := [.ref 17, iv x1, iv (min x2 1000000), iv (x3 + 1)]) (as' := [iv (x3 + 1), iv (min x2 1000000), iv x1, .ref 17]) (p := 88) (q49 85) rfl m53 (by decide) (a_ok_i rfl (r17 hB) rfl) rfl rfl (Nat.le_of_ble_eq_true rfl) (by omega) rfl rfl ?_
  refine w_aln (p := 1) (q53 0) rfl rfl ?_
  refine w_gR (p := 4) (j := 4) (v := 22) (q53 1) rfl (r17 hB) (by decide) (f17_4 hB) ?_
  refine w_iln (p := 5) (q53 4) rfl rfl ?_
  refine w_iln (p := 6) (q53 5) rfl rfl ?_
  obtain ⟨o2, w⟩ := w
  refine w_ias (p := 7) (q53 6) rfl (r22 hB) (by decide) o2 ?_
  refine w_aln (p := 8) (q53 7) rfl rfl ?_
  refine w_gR (p := 11) (j := 5) (v := 23) (q53 8) rfl (r17 hB) (by decide) (f17_5 hB) ?_
  refine w_iln (p := 12) (q53 11) rfl rfl ?_
  refine w_iln (p := 13) (q53 12) rfl rfl ?_
  refine w_ias (p := 14) (q53 13) rfl (r23 hB) (by decide) o2 ?_
  refine w_rv (q53 14) rfl ⟨_, _, rfl, ?_⟩
  show a_W _ 49 88 [.ref 17, iv x1, iv x2, iv x3] [] _ _
  exact w_rv (q49 88) rfl w
theorem w48_0 {d : Nat} {B : aH} {Q : aR → Prop} (hB : a_Can B) (x1 x2 x3 : Int) (s : Nat → Nat → Int32) (l : Nat → Nat → Int64) (w : (((zz s 17 8) < 17000 → ((0 ≤ (zz s 17 8) ∧ (zz s 17 8) < 17000) ∧ Q (.inl (some (iv (((zz s 17 8) + 1) - 1))), (mkH B (zu (zu (zu (zu (zu s 18 (zz s 17 8).toNat x1) 19 (zz s 17 8).toNat x2) 20 (zz s 17 8).toNat x3) 21 (zz s 17 8).toNat (zz s 17 8)) 17 8 ((zz s 17 8) + 1)) l)))) ∧ (17000 ≤ (zz s 17 8) → Q (.inl (some (iv 0)), (mkH B (zu s 17 11 1) l))))) : a_W d 48 0 [.ref 17, iv x1, iv x2, iv x3] [] (mkH B s l) Q := by
  refine w_aln (p := 1) (q48 0) rfl rfl ?_
  refine w_gI (p := 4) (j := 8) (v := (zz s 17 8)) (q48 1) rfl (r17 hB) (by decide) (iv_zz s 17 8) ?_
  refine w_sp (p := 7) (q48 4) rfl (by decide) ?_
  by_cases c1 : (zz s 17 8) < 17000
  · replace w := w.1 c1
    refine w_i2t (q48 7) (inR_zz _ _ _) (by decide) c1 ?_
    refine w_aln (p := 18) (q48 17) rfl rfl ?_
    refine w_gR (p := 21) (j := 0) (v := 18) (q48 18) rfl (r17 hB) (by decide) (f17_0 hB) ?_
    refine w_aln (p := 22) (q48 21) rfl rfl ?_
    refine w_gI (p := 25) (j := 8) (v := (zz s 17 8)) (q48 22) rfl (r17 hB) (by decide) (iv_zz s 17 8) ?_
    refine w_iln (p := 26) (q48 25) rfl rfl ?_
    obtain ⟨o2, w⟩ := w
    refine w_ias (p := 27) (q48 26) rfl (r18 hB) (by decide) o2 ?_
    refine w_aln (p := 28) (q48 27) rfl rfl ?_
    refine w_gR (p := 31) (j := 1) (v := 19) (q48 28) rfl (r17 hB) (by decide) (f17_1 hB) ?_
    refine w_aln (p := 32) (q48 31) rfl rfl ?_
    refine w_gI (p := 35) (j := 8) (v := (zz s 17 8)) (q48 32) rfl (r17 hB) (by decide) (iv_zz s 17 8) ?_
    refine w_iln (p := 36) (q48 35) rfl rfl ?_
    refine w_ias (p := 37) (q48 36) rfl (r19 hB) (by decide) o2 ?_
    refine w_aln (p := 38) (q48 37) rfl rfl ?_
    refine w_gR (p := 41) (j := 2) (v := 20) (q48 38) rfl (r17 hB) (by decide) (f17_2 hB) ?_
    refine w_aln (p := 42) (q48 41) rfl rfl ?_
    refine w_gI (p := 45) (j := 8) (v := (zz s 17 8)) (q48 42) rfl (r17 hB) (by decide) (iv_zz s 17 8) ?_
    refine w_iln (p := 46) (q48 45) rfl rfl ?_
    refine w_ias (p := 47) (q48 46) rfl (r20 hB) (by decide) o2 ?_
    refine w_aln (p := 48) (q48 47) rfl rfl ?_
    refine w_gR (p := 51) (j := 3) (v := 21) (q48 48) rfl (r17 hB) (by decide) (f17_3 hB) ?_
    refine w_aln (p := 52) (q48 51) rfl rfl ?_
    refine w_gI (p := 55) (j := 8) (v := (zz s 17 8)) (q48 52) rfl (r17 hB) (by decide) (iv_zz s 17 8) ?_
    refine w_aln (p := 56) (q48 55) rfl rfl ?_
    refine w_gI (p := 59) (j := 8) (v := (zz s 17 8)) (q48 56) rfl (r17 hB) (by decide) (iv_zz s 17 8) ?_
    refine w_ias (p := 60) (q48 59) rfl (r21 hB) (by decide) o2 ?_
    refine w_aln (p := 61) (q48 60) rfl rfl ?_
    refine w_dupr (p := 62) (q48 61) rfl ?_
    refine w_gI (p := 65) (j := 8) (v := (zz s 17 8)) (q48 62) rfl (r17 hB) (by decide) (iv_zz s 17 8) ?_
    refine w_ic (p := 66) (q48 65) rfl ?_
    refine w_add (p := 67) (q48 66) rfl ?_
    refine w_pI (p := 70) (j := 8) (q48 67) rfl (r17 hB) (by decide) rfl ?_
    refine w_aln (p := 71) (q48 70) rfl rfl ?_
    refine w_gI (p := 74) (j := 8) (v := ((zz s 17 8) + 1)) (q48 71) rfl (r17 hB) (by decide) rfl ?_
    refine w_ic (p := 75) (q48 74) rfl ?_
    refine w_sub (p := 76) (q48 75) rfl ?_
    exact w_ret (q48 76) rfl w
  · replace w := w.2 (Int.not_lt.mp c1)
    refine w_i2f (p := 10) (q48 7) rfl (inR_zz _ _ _) (by decide) c1 ?_
    refine w_aln (p := 11) (q48 10) rfl rfl ?_
    refine w_ic (p := 12) (q48 11) rfl ?_
    refine w_pI (p := 15) (j := 11) (q48 12) rfl (r17 hB) (by decide) rfl ?_
    refine w_ic (p := 16) (q48 15) rfl ?_
    exact w_ret (q48 16) rfl w
theorem w47_0 {d : Nat} {B : aH} {Q : aR → Prop} (hB : a_Can B) (hd : 1 ≤ d) (s : Nat → Nat → Int32) (l : Nat → Nat → Int64) (w : a_W (d - 1) 48 0 [.ref 17, iv (-1000000), iv (-1), iv (-1)] [] (mkH B s l) (fun r => ∃ (v3 : Int) (s1 : Nat → Nat → Int32) (l2 : Nat → Nat → Int64), r = (.inl (some (iv v3)), mkH B s1 l2) ∧ Q (.inl (some (iv v3)), (mkH B s1 l2)))) : a_W d 47 0 [.ref 17] [] (mkH B s l) Q := by
  refine w_aln (p := 1) (q47 0) rfl rfl ?_
  refine w_ldc (p := 3) (n := (-1000000)) (q47 1) rfl (by decide) ?_
  refine w_ic (p := 4) (q47 3) rfl ?_
  refine w_ic (p := 5) (q47 4) rfl ?_
  refine w_call (st := []) (as := [.ref 17, iv (-1000000), iv (-1), iv (-1)]) (as' := [iv (-1), iv (-1), iv (-1000000), .ref 17]) (p := 8) (q47 5) rfl m48 (by decide) (a_ok_i rfl (r17 hB) rfl) rfl rfl (Nat.le_of_ble_eq_true rfl) (by omega) rfl rfl (a_W.imp w ?_)
  rintro _ ⟨v3, s1, l2, rfl, w⟩
  refine ⟨some (iv v3), _, rfl, ?_⟩
  show a_W _ 47 8 [.ref 17] [iv v3] (mkH B s1 l2) _
  exact w_ret (q47 8) rfl w
theorem w74_0 {d : Nat} {B : aH} {Q : aR → Prop} (hB : a_Can B) (hd : 1 ≤ d) (x1 x2 : Int) (s : Nat → Nat → Int32) (l : Nat → Nat → Int64) (w : a_W (d - 1) 48 0 [.ref 17, iv 2, iv x1, iv x2] [] (mkH B s l) (fun r => ∃ (v3 : Int) (s1 : Nat → Nat → Int32) (l2 : Nat → Nat → Int64), r = (.inl (some (iv v3)), mkH B s1 l2) ∧ Q (.inl (some (iv v3)), (mkH B s1 l2)))) : a_W d 74 0 [.ref 17, iv x1, iv x2] [] (mkH B s l) Q := by
  refine w_aln (p := 1) (q74 0) rfl rfl ?_
  refine w_ic (p := 2) (q74 1) rfl ?_
  refine w_iln (p := 3) (q74 2) rfl rfl ?_
  refine w_iln (p := 4) (q74 3) rfl rfl ?_
  refine w_call (st := []) (as := [.ref 17, iv 2, iv x1, iv x2]) (as' := [iv x2, iv x1, iv 2, .ref 17]) (p := 7) (q74 4) rfl m48 (by decide) (a_ok_i rfl (r17 hB) rfl) rfl rfl (Nat.le_of_ble_eq_true rfl) (by omega) rfl rfl (a_W.imp w ?_)
  rintro _ ⟨v3, s1, l2, rfl, w⟩
  refine ⟨some (iv v3), _, rfl, ?_⟩
  show a_W _ 74 7 [.ref 17, iv x1, iv x2] [iv v3] (mkH B s1 l2) _
  exact w_ret (q74 7) rfl w
theorem w75_0 {d : Nat} {B : aH} {Q : aR → Prop} (hB : a_Can B) (hd : 1 ≤ d) (x1 : Int) (s : Nat → Nat → Int32) (l : Nat → Nat → Int64) (w : a_W (d - 1) 50 0 [.ref 17, iv x1] [] (mkH B s l) (fun r => ∃ (v3 : Int) (s1 : Nat → Nat → Int32) (l2 : Nat → Nat → Int64), r = (.inl (some (iv v3)), mkH B s1 l2) ∧ (inR v3 ∧ ((40 < v3 → Q (.inl (some (iv 1)), (mkH B s1 l2))) ∧ (v3 ≤ 40 → a_W (d - 1) 52 0 [.ref 17, iv x1] [] (mkH B s1 l2) (fun r => ∃ (v8 : Int) (s6 : Nat → Nat → Int32) (l7 : Nat → Nat → Int64), r = (.inl (some (iv v8)), mkH B s6 l7) ∧ (inR v8 ∧ ((v8 ≤ 12 → Q (.inl (some (iv 0)), (mkH B s6 l7))) ∧ (12 < v8 → Q (.inl (some (iv 1)), (mkH B s6 l7))))))))))) : a_W d 75 0 [.ref 17, iv x1] [] (mkH B s l) Q := by
  refine w_aln (p := 1) (q75 0) rfl rfl ?_
  refine w_iln (p := 2) (q75 1) rfl rfl ?_
  refine w_call (st := []) (as := [.ref 17, iv x1]) (as' := [iv x1, .ref 17]) (p := 5) (q75 2) rfl m50 (by decide) (a_ok_i rfl (r17 hB) rfl) rfl rfl (Nat.le_of_ble_eq_true rfl) (by omega) rfl rfl (a_W.imp w ?_)
  rintro _ ⟨v3, s1, l2, rfl, w⟩
  refine ⟨some (iv v3), _, rfl, ?_⟩
  show a_W _ 75 5 [.ref 17, iv x1] [iv v3] (mkH B s1 l2) _
  refine w_bp (p := 7) (q75 5) rfl (by decide) ?_
  obtain ⟨h4, w⟩ := w
  by_cases c5 : 40 < v3
  · replace w := w.1 c5
    refine w_i2t (q75 7) h4 (by decide) c5 ?_
    refine w_ic (p := 21) (q75 20) rfl ?_
    refine w_goto (q75 21) ?_
    exact w_ret (q75 25) rfl w
  · replace w := w.2 (Int.not_lt.mp c5)
    refine w_i2f (p := 10) (q75 7) rfl h4 (by decide) c5 ?_
    refine w_aln (p := 11) (q75 10) rfl rfl ?_
    refine w_iln (p := 12) (q75 11) rfl rfl ?_
    refine w_call (st := []) (as := [.ref 17, iv x1]) (as' := [iv x1, .ref 17]) (p := 15) (q75 12) rfl m52 (by decide) (a_ok_i rfl (r17 hB) rfl) rfl rfl (Nat.le_of_ble_eq_true rfl) (by omega) rfl rfl (a_W.imp w ?_)
    rintro _ ⟨v8, s6, l7, rfl, w⟩
    refine ⟨some (iv v8), _, rfl, ?_⟩
    show a_W _ 75 15 [.ref 17, iv x1] [iv v8] (mkH B s6 l7) _
    refine w_bp (p := 17) (q75 15) rfl (by decide) ?_
    obtain ⟨h9, w⟩ := w
    by_cases c10 : v8 ≤ 12
    · replace w := w.1 c10
      refine w_i2t (q75 17) h9 (by decide) c10 ?_
      refine w_ic (p := 25) (q75 24) rfl ?_
      exact w_ret (q75 25) rfl w
    · replace w := w.2 (Int.not_le.mp c10)
      refine w_i2f (p := 20) (q75 17) rfl h9 (by decide) c10 ?_
      refine w_ic (p := 21) (q75 20) rfl ?_
      refine w_goto (q75 21) ?_
      exact w_ret (q75 25) rfl w
theorem w46_0 {d : Nat} {B : aH} {Q : aR → Prop} (hB : a_Can B) (hd : 1 ≤ d) (s : Nat → Nat → Int32) (l : Nat → Nat → Int64) (w : a_W (d - 1) 47 0 [.ref 17] [] (mkH B (zu (zu (zu (zu s 17 8 0) 17 9 0) 17 10 0) 17 11 0) l) (fun r => ∃ (v3 : Int) (s1 : Nat → Nat → Int32) (l2 : Nat → Nat → Int64), r = (.inl (some (iv v3)), mkH B s1 l2) ∧ Q (.inl none, (mkH B s1 l2)))) : a_W d 46 0 [.ref 17] [] (mkH B s l) Q := by
  refine w_aln (p := 1) (q46 0) rfl rfl ?_
  refine w_ic (p := 2) (q46 1) rfl ?_
  refine w_pI (p := 5) (j := 8) (q46 2) rfl (r17 hB) (by decide) rfl ?_
  refine w_aln (p := 6) (q46 5) rfl rfl ?_
  refine w_ic (p := 7) (q46 6) rfl ?_
  refine w_pI (p := 10) (j := 9) (q46 7) rfl (r17 hB) (by decide) rfl ?_
  refine w_aln (p := 11) (q46 10) rfl rfl ?_
  refine w_ic (p := 12) (q46 11) rfl ?_
  refine w_pI (p := 15) (j := 10) (q46 12) rfl (r17 hB) (by decide) rfl ?_
  refine w_aln (p := 16) (q46 15) rfl rfl ?_
  refine w_ic (p := 17) (q46 16) rfl ?_
  refine w_pI (p := 20) (j := 11) (q46 17) rfl (r17 hB) (by decide) rfl ?_
  refine w_aln (p := 21) (q46 20) rfl rfl ?_
  refine w_call (st := []) (as := [.ref 17]) (as' := [.ref 17]) (p := 24) (q46 21) rfl m47 (by decide) (a_ok_i rfl (r17 hB) rfl) rfl rfl (Nat.le_of_ble_eq_true rfl) (by omega) rfl rfl (a_W.imp w ?_)
  rintro _ ⟨v3, s1, l2, rfl, w⟩
  refine ⟨some (iv v3), _, rfl, ?_⟩
  show a_W _ 46 24 [.ref 17] [iv v3] (mkH B s1 l2) _
  refine w_pop (p := 25) (q46 24) rfl ?_
  exact w_rv (q46 25) rfl w
theorem w54_0 {d : Nat} {B : aH} {Q : aR → Prop} (hB : a_Can B) (s : Nat → Nat → Int32) (l : Nat → Nat → Int64) (w : Q (.inl none, (mkH B (zu (zu (zu s 36 4 0) 36 5 0) 36 6 0) l))) : a_W d 54 0 [.ref 36] [] (mkH B s l) Q := by
  refine w_aln (p := 1) (q54 0) rfl rfl ?_
  refine w_ic (p := 2) (q54 1) rfl ?_
  refine w_pI (p := 5) (j := 4) (q54 2) rfl (r36 hB) (by decide) rfl ?_
  refine w_aln (p := 6) (q54 5) rfl rfl ?_
  refine w_ic (p := 7) (q54 6) rfl ?_
  refine w_pI (p := 10) (j := 5) (q54 7) rfl (r36 hB) (by decide) rfl ?_
  refine w_aln (p := 11) (q54 10) rfl rfl ?_
  refine w_ic (p := 12) (q54 11) rfl ?_
  refine w_pI (p := 15) (j := 6) (q54 12) rfl (r36 hB) (by decide) rfl ?_
  exact w_rv (q54 15) rfl w
theorem w64_0 {d : Nat} {B : aH} {Q : aR → Prop} (hB : a_Can B) (hd : 1 ≤ d) (x1 x2 x3 : Int) (s : Nat → Nat → Int32) (l : Nat → Nat → Int64) (w : a_W (d - 1) 48 0 [.ref 17, iv x1, iv x2, iv x3] [] (mkH B s l) (fun r => ∃ (v3 : Int) (s1 : Nat → Nat → Int32) (l2 : Nat → Nat → Int64), r = (.inl (some (iv v3)), mkH B s1 l2) ∧ a_W (d - 1) 49 0 [.ref 17, iv v3, .retAddr 0, .retAddr 0] [] (mkH B s1 l2) (fun r => ∃ (s4 : Nat → Nat → Int32) (l5 : Nat → Nat → Int64), r = (.inl none, mkH B s4 l5) ∧ Q (.inl (some (iv v3)), (mkH B s4 l5))))) : a_W d 64 0 [.ref 17, iv x1, iv x2, iv x3, .retAddr 0] [] (mkH B s l) Q := by
  refine w_aln (p := 1) (q64 0) rfl rfl ?_
  refine w_iln (p := 2) (q64 1) rfl rfl ?_
  refine w_iln (p := 3) (q64 2) rfl rfl ?_
  refine w_iln (p := 4) (q64 3) rfl rfl ?_
  refine w_call (st := []) (as := [.ref 17, iv x1, iv x2, iv x3]) (as' := [iv x3, iv x2, iv x1, .ref 17]) (p := 7) (q64 4) rfl m48 (by decide) (a_ok_i rfl (r17 hB) rfl) rfl rfl (Nat.le_of_ble_eq_true rfl) (by omega) rfl rfl (a_W.imp w ?_)
  rintro _ ⟨v3, s1, l2, rfl, w⟩
  refine ⟨some (iv v3), _, rfl, ?_⟩
  show a_W _ 64 7 [.ref 17, iv x1, iv x2, iv x3, .retAddr 0] [iv v3] (mkH B s1 l2) _
  refine w_is (p := 9) (ls' := [.ref 17, iv x1, iv x2, iv x3, iv v3]) (q64 7) rfl (Nat.le_of_ble_eq_true rfl) rfl ?_
  refine w_aln (p := 10) (q64 9) rfl rfl ?_
  refine w_il (p := 12) (q64 10) rfl rfl ?_
  refine w_call (st := []) (as := [.ref 17, iv v3]) (as' := [iv v3, .ref 17]) (p := 15) (q64 12) rfl m49 (by decide) (a_ok_i rfl (r17 hB) rfl) rfl rfl (Nat.le_of_ble_eq_true rfl) (by omega) rfl rfl (a_W.imp w ?_)
  rintro _ ⟨s4, l5, rfl, w⟩
  refine ⟨none, _, rfl, ?_⟩
  show a_W _ 64 15 [.ref 17, iv x1, iv x2, iv x3, iv v3] [] (mkH B s4 l5) _
  refine w_il (p := 17) (q64 15) rfl rfl ?_
  exact w_ret (q64 17) rfl w
theorem w91_0 {d : Nat} {B : aH} {Q : aR → Prop} (hB : a_Can B) (hd : 1 ≤ d) (x1 x2 : Int) (s : Nat → Nat → Int32) (l : Nat → Nat → Int64) (w : a_W (d - 1) 47 0 [.ref 17] [] (mkH B s l) (fun r => ∃ (v3 : Int) (s1 : Nat → Nat → Int32) (l2 : Nat → Nat → Int64), r = (.inl (some (iv v3)), mkH B s1 l2) ∧ ((0 ≤ v3 ∧ v3 < 17000) ∧ Q (.inl (some (iv v3)), (mkH B (zu (zu s1 22 v3.toNat x1) 23 v3.toNat x2) l2))))) : a_W d 91 0 [.ref 17, iv x1, iv x2, .retAddr 0] [] (mkH B s l) Q := by
  refine w_aln (p := 1) (q91 0) rfl rfl ?_
  refine w_call (st := []) (as := [.ref 17]) (as' := [.ref 17]) (p := 4) (q91 1) rfl m47 (by decide) (a_ok_i rfl (r17 hB) rfl) rfl rfl (Nat.le_of_ble_eq_true rfl) (by omega) rfl rfl (a_W.imp w ?_)
  rintro _ ⟨v3, s1, l2, rfl, w⟩
  refine ⟨some (iv v3), _, rfl, ?_⟩
  show a_W _ 91 4 [.ref 17, iv x1, iv x2, .retAddr 0] [iv v3] (mkH B s1 l2) _
  refine w_isn (p := 5) (ls' := [.ref 17, iv x1, iv x2, iv v3]) (q91 4) rfl (Nat.le_of_ble_eq_true rfl) rfl ?_
  refine w_aln (p := 6) (q91 5) rfl rfl ?_
  refine w_iln (p := 7) (q91 6) rfl rfl ?_
  refine w_iln (p := 8) (q91 7) rfl rfl ?_
  refine w_iln (p := 9) (q91 8) rfl rfl ?_
  refine w_call (st := []) (as := [.ref 17, iv v3, iv x1, iv x2]) (as' := [iv x2, iv x1, iv v3, .ref 17]) (p := 12) (q91 9) rfl m53 (by decide) (a_ok_i rfl (r17 hB) rfl) rfl rfl (Nat.le_of_ble_eq_true rfl) (by omega) rfl rfl ?_
  refine w_aln (p := 1) (q53 0) rfl rfl ?_
  refine w_gR (p := 4) (j := 4) (v := 22) (q53 1) rfl (r17 hB) (by decide) (f17_4 hB) ?_
  refine w_iln (p := 5) (q53 4) rfl rfl ?_
  refine w_iln (p := 6) (q53 5) rfl rfl ?_
  obtain ⟨o4, w⟩ := w
  refine w_ias (p := 7) (q53 6) rfl (r22 hB) (by decide) o4 ?_
  refine w_aln (p := 8) (q53 7) rfl rfl ?_
  refine w_gR (p := 11) (j := 5) (v := 23) (q53 8) rfl (r17 hB) (by decide) (f17_5 hB) ?_
  refine w_iln (p := 12) (q53 11) rfl rfl ?_
  refine w_iln (p := 13) (q53 12) rfl rfl ?_
  refine w_ias (p := 14) (q53 13) rfl (r23 hB) (by decide) o4 ?_
  refine w_rv (q53 14) rfl ⟨_, _, rfl, ?_⟩
  show a_W _ 91 12 [.ref 17, iv x1, iv x2, iv v3] [] _ _
  refine w_iln (p := 13) (q91 12) rfl rfl ?_
  exact w_ret (q91 13) rfl w
theorem w65_0 {d : Nat} {B : aH} {Q : aR → Prop} (hB : a_Can B) (hd : 1 ≤ d) (x1 : Int) (s : Nat → Nat → Int32) (l : Nat → Nat → Int64) (w : a_W (d - 1) 66 0 [.ref 36, iv x1] [] (mkH B s l) (fun r => ∃ (v3 : Int) (s1 : Nat → Nat → Int32) (l2 : Nat → Nat → Int64), r = (.inl (some (iv v3)), mkH B s1 l2) ∧ a_W d 65 14 [.ref 36, iv x1, iv (zz s 36 4), iv v3, iv 0] [] (mkH B s1 l2) Q)) : a_W d 65 0 [.ref 36, iv x1, .retAddr 0, .retAddr 0, .retAddr 0] [] (mkH B s l) Q := by
  refine w_aln (p := 1) (q65 0) rfl rfl ?_
  refine w_gI (p := 4) (j := 4) (v := (zz s 36 4)) (q65 1) rfl (r36 hB) (by decide) (iv_zz s 36 4) ?_
  refine w_isn (p := 5) (ls' := [.ref 36, iv x1, iv (zz s 36 4), .retAddr 0, .retAddr 0]) (q65 4) rfl (Nat.le_of_ble_eq_true rfl) rfl ?_
  refine w_aln (p := 6) (q65 5) rfl rfl ?_
  refine w_iln (p := 7) (q65 6) rfl rfl ?_
  refine w_call (st := []) (as := [.ref 36, iv x1]) (as' := [iv x1, .ref 36]) (p := 10) (q65 7) rfl m66 (by decide) (a_ok_i rfl (r36 hB) rfl) rfl rfl (Nat.le_of_ble_eq_true rfl) (by omega) rfl rfl (a_W.imp w ?_)
  rintro _ ⟨v3, s1, l2, rfl, w⟩
  refine ⟨some (iv v3), _, rfl, ?_⟩
  show a_W _ 65 10 [.ref 36, iv x1, iv (zz s 36 4), .retAddr 0, .retAddr 0] [iv v3] (mkH B s1 l2) _
  refine w_isn (p := 11) (ls' := [.ref 36, iv x1, iv (zz s 36 4), iv v3, .retAddr 0]) (q65 10) rfl (Nat.le_of_ble_eq_true rfl) rfl ?_
  refine w_ic (p := 12) (q65 11) rfl ?_
  refine w_is (p := 14) (ls' := [.ref 36, iv x1, iv (zz s 36 4), iv v3, iv 0]) (q65 12) rfl (Nat.le_of_ble_eq_true rfl) rfl ?_
  exact w
theorem w65_14 {d : Nat} {B : aH} {Q : aR → Prop} (hB : a_Can B) (hd : 1 ≤ d) (x1 x2 x3 x4 : Int) (s : Nat → Nat → Int32) (l : Nat → Nat → Int64) (w : (inR x4 ∧ ((3001 ≤ x4 → a_W d 65 58 [.ref 36, iv x1, iv x2, iv x3, iv x4] [] (mkH B s l) Q) ∧ (x4 < 3001 → (((zz s 1 6) ≠ 8 → a_W d 65 58 [.ref 36, iv x1, iv x2, iv x3, iv x4] [] (mkH B s l) Q) ∧ ((zz s 1 6) = 8 → ((3001 ≤ (zz s 36 4) → a_W (d - 1) 24 0 [.ref 1, .retAddr 0] [] (mkH B s l) (fun r => ∃ (s5 : Nat → Nat → Int32) (l6 : Nat → Nat → Int64), r = (.inl none, mkH B s5 l6) ∧ a_W (d - 1) 66 0 [.ref 36, iv x1] [] (mkH B s5 l6) (fun r => ∃ (v9 : Int) (s7 : Nat → Nat → Int32) (l8 : Nat → Nat → Int64), r = (.inl (some (iv v9)), mkH B s7 l8) ∧ a_W d 65 14 [.ref 36, iv x1, iv x2, iv v9, iv (x4 + 1)] [] (mkH B s7 l8) Q))) ∧ ((zz s 36 4) < 3001 → ((0 ≤ (zz s 36 4) ∧ (zz s 36 4) < 3001) ∧ a_W (d - 1) 24 0 [.ref 1, .retAddr 0] [] (mkH B (zu (zu s 37 (zz s 36 4).toNat x3) 36 4 ((zz s 36 4) + 1)) l) (fun r => ∃ (s11 : Nat → Nat → Int32) (l12 : Nat → Nat → Int64), r = (.inl none, mkH B s11 l12) ∧ a_W (d - 1) 66 0 [.ref 36, iv x1] [] (mkH B s11 l12) (fun r => ∃ (v15 : Int) (s13 : Nat → Nat → Int32) (l14 : Nat → Nat → Int64), r = (.inl (some (iv v15)), mkH B s13 l14) ∧ a_W d 65 14 [.ref 36, iv x1, iv x2, iv v15, iv (x4 + 1)] [] (mkH B s13 l14) Q))))))))))) : a_W d 65 14 [.ref 36, iv x1, iv x2, iv x3, iv x4] [] (mkH B s l) Q := by
  refine w_il (p := 16) (q65 14) rfl rfl ?_
  refine w_sp (p := 19) (q65 16) rfl (by decide) ?_
  obtain ⟨h1, w⟩ := w
  by_cases c2 : 3001 ≤ x4
  · replace w := w.1 c2
    refine w_i2t (q65 19) h1 (by decide) c2 ?_
    exact w
  · replace w := w.2 (Int.not_le.mp c2)
    refine w_i2f (p := 22) (q65 19) rfl h1 (by decide) c2 ?_
    refine w_aln (p := 23) (q65 22) rfl rfl ?_
    refine w_gR (p := 26) (j := 0) (v := 1) (q65 23) rfl (r36 hB) (by decide) (f36_0 hB) ?_
    refine w_gI (p := 29) (j := 6) (v := (zz s 1 6)) (q65 26) rfl (r1 hB) (by decide) (iv_zz s 1 6) ?_
    refine w_bp (p := 31) (q65 29) rfl (by decide) ?_
    by_cases c3 : (zz s 1 6) ≠ 8
    · replace w := w.1 c3
      refine w_i2t (q65 31) (inR_zz _ _ _) (by decide) c3 ?_
      exact w
    · replace w := w.2 (Decidable.not_not.mp c3)
      refine w_i2f (p := 34) (q65 31) rfl (inR_zz _ _ _) (by decide) c3 ?_
      refine w_aln (p := 35) (q65 34) rfl rfl ?_
      refine w_iln (p := 36) (q65 35) rfl rfl ?_
      refine w_call (st := []) (as := [.ref 36, iv x3]) (as' := [iv x3, .ref 36]) (p := 39) (q65 36) rfl m73 (by decide) (a_ok_i rfl (r36 hB) rfl) rfl rfl (Nat.le_of_ble_eq_true rfl) (by omega) rfl rfl ?_
      refine w_aln (p := 1) (q73 0) rfl rfl ?_
      refine w_gI (p := 4) (j := 4) (v := (zz s 36 4)) (q73 1) rfl (r36 hB) (by decide) (iv_zz s 36 4) ?_
      refine w_sp (p := 7) (q73 4) rfl (by decide) ?_
      by_cases c4 : 3001 ≤ (zz s 36 4)
      · replace w := w.1 c4
        refine w_i2t (q73 7) (inR_zz _ _ _) (by decide) c4 ?_
        refine w_rv (q73 30) rfl ⟨_, _, rfl, ?_⟩
        show a_W _ 65 39 [.ref 36, iv x1, iv x2, iv x3, iv x4] [] _ _
        refine w_aln (p := 40) (q65 39) rfl rfl ?_
        refine w_gR (p := 43) (j := 0) (v := 1) (q65 40) rfl (r36 hB) (by decide) (f36_0 hB) ?_
        refine w_call (st := []) (as := [.ref 1]) (as' := [.ref 1]) (p := 46) (q65 43) rfl m24 (by decide) (a_ok_i rfl (r1 hB) rfl) rfl rfl (Nat.le_of_ble_eq_true rfl) (by omega) rfl rfl (a_W.imp w ?_)
        rintro _ ⟨s5, l6, rfl, w⟩
        refine ⟨none, _, rfl, ?_⟩
        show a_W _ 65 46 [.ref 36, iv x1, iv x2, iv x3, iv x4] [] (mkH B s5 l6) _
        refine w_aln (p := 47) (q65 46) rfl rfl ?_
        refine w_iln (p := 48) (q65 47) rfl rfl ?_
        refine w_call (st := []) (as := [.ref 36, iv x1]) (as' := [iv x1, .ref 36]) (p := 51) (q65 48) rfl m66 (by decide) (a_ok_i rfl (r36 hB) rfl) rfl rfl (Nat.le_of_ble_eq_true rfl) (by omega) rfl rfl (a_W.imp w ?_)
        rintro _ ⟨v9, s7, l8, rfl, w⟩
        refine ⟨some (iv v9), _, rfl, ?_⟩
        show a_W _ 65 51 [.ref 36, iv x1, iv x2, iv x3, iv x4] [iv v9] (mkH B s7 l8) _
        refine w_isn (p := 52) (ls' := [.ref 36, iv x1, iv x2, iv v9, iv x4]) (q65 51) rfl (Nat.le_of_ble_eq_true rfl) rfl ?_
        refine w_inc (p := 55) (ls' := [.ref 36, iv x1, iv x2, iv v9, iv (x4 + 1)]) (q65 52) rfl rfl rfl ?_
        refine w_goto (q65 55) ?_
        exact w
      · replace w := w.2 (Int.not_le.mp c4)
        refine w_i2f (p := 10) (q73 7) rfl (inR_zz _ _ _) (by decide) c4 ?_
        refine w_aln (p := 11) (q73 10) rfl rfl ?_
        refine w_gR (p := 14) (j := 3) (v := 37) (q73 11) rfl (r36 hB) (by decide) (f36_3 hB) ?_
        refine w_aln (p := 15) (q73 14) rfl rfl ?_
        refine w_gI (p := 18) (j := 4) (v := (zz s 36 4)) (q73 15) rfl (r36 hB) (by decide) (iv_zz s 36 4) ?_
        refine w_iln (p := 19) (q73 18) rfl rfl ?_
        obtain ⟨o10, w⟩ := w
        refine w_ias (p := 20) (q73 19) rfl (r37 hB) (by decide) o10 ?_
        refine w_aln (p := 21) (q73 20) rfl rfl ?_
        refine w_dupr (p := 22) (q73 21) rfl ?_
        refine w_gI (p := 25) (j := 4) (v := (zz s 36 4)) (q73 22) rfl (r36 hB) (by decide) (iv_zz s 36 4) ?_
        refine w_ic (p := 26) (q73 25) rfl ?_
        refine w_add (p := 27) (q73 26) rfl ?_
        refine w_pI (p := 30) (j := 4) (q73 27) rfl (r36 hB) (by decide) rfl ?_
        refine w_rv (q73 30) rfl ⟨_, _, rfl, ?_⟩
        show a_W _ 65 39 [.ref 36, iv x1, iv x2, iv x3, iv x4] [] _ _
        refine w_aln (p := 40) (q65 39) rfl rfl ?_
        refine w_gR (p := 43) (j := 0) (v := 1) (q65 40) rfl (r36 hB) (by decide) (f36_0 hB) ?_
        refine w_call (st := []) (as := [.ref 1]) (as' := [.ref 1]) (p := 46) (q65 43) rfl m24 (by decide) (a_ok_i rfl (r1 hB) rfl) rfl rfl (Nat.le_of_ble_eq_true rfl) (by omega) rfl rfl (a_W.imp w ?_)
        rintro _ ⟨s11, l12, rfl, w⟩
        refine ⟨none, _, rfl, ?_⟩
        show a_W _ 65 46 [.ref 36, iv x1, iv x2, iv x3, iv x4] [] (mkH B s11 l12) _
        refine w_aln (p := 47) (q65 46) rfl rfl ?_
        refine w_iln (p := 48) (q65 47) rfl rfl ?_
        refine w_call (st := []) (as := [.ref 36, iv x1]) (as' := [iv x1, .ref 36]) (p := 51) (q65 48) rfl m66 (by decide) (a_ok_i rfl (r36 hB) rfl) rfl rfl (Nat.le_of_ble_eq_true rfl) (by omega) rfl rfl (a_W.imp w ?_)
        rintro _ ⟨v15, s13, l14, rfl, w⟩
        refine ⟨some (iv v15), _, rfl, ?_⟩
        show a_W _ 65 51 [.ref 36, iv x1, iv x2, iv x3, iv x4] [iv v15] (mkH B s13 l14) _
        refine w_isn (p := 52) (ls' := [.ref 36, iv x1, iv x2, iv v15, iv x4]) (q65 51) rfl (Nat.le_of_ble_eq_true rfl) rfl ?_
        refine w_inc (p := 55) (ls' := [.ref 36, iv x1, iv x2, iv v15, iv (x4 + 1)]) (q65 52) rfl rfl rfl ?_
        refine w_goto (q65 55) ?_
        exact w
theorem w65_58 {d : Nat} {B : aH} {Q : aR → Prop} (hB : a_Can B) (hd : 1 ≤ d) (x1 x2 x3 x4 : Int) (s : Nat → Nat → Int32) (l : Nat → Nat → Int64) (w : (inR x2 ∧ (((zz s 36 4) ≤ x2 → (((zz s 36 5) ≠ 0 → Q (.inl (some (iv x3)), (mkH B (zu s 36 5 1) l))) ∧ ((zz s 36 5) = 0 → (((zz s 17 11) ≠ 0 → Q (.inl (some (iv x3)), (mkH B (zu s 36 5 1) l))) ∧ ((zz s 17 11) = 0 → a_W (d - 1) 75 0 [.ref 17, iv x3] [] (mkH B s l) (fun r => ∃ (v7 : Int) (s5 : Nat → Nat → Int32) (l6 : Nat → Nat → Int64), r = (.inl (some (iv v7)), mkH B s5 l6) ∧ (inR v7 ∧ ((v7 = 0 → Q (.inl (some (iv x3)), (mkH B (zu s5 36 5 0) l6))) ∧ (v7 ≠ 0 → Q (.inl (some (iv x3)), (mkH B (zu s5 36 5 1) l6))))))))))) ∧ (x2 < (zz s 36 4) → ((0 ≤ ((zz s 36 4) - 1) ∧ ((zz s 36 4) - 1) < 3001) ∧ a_W (d - 1) 64 0 [.ref 17, iv 2, iv (zz s 37 ((zz s 36 4) - 1).toNat), iv x3, .retAddr 0] [] (mkH B (zu s 36 4 ((zz s 36 4) - 1)) l) (fun r => ∃ (v13 : Int) (s11 : Nat → Nat → Int32) (l12 : Nat → Nat → Int64), r = (.inl (some (iv v13)), mkH B s11 l12) ∧ a_W d 65 58 [.ref 36, iv x1, iv x2, iv v13, iv x4] [] (mkH B s11 l12) Q)))))) : a_W d 65 58 [.ref 36, iv x1, iv x2, iv x3, iv x4] [] (mkH B s l) Q := by
  refine w_aln (p := 59) (q65 58) rfl rfl ?_
  refine w_gI (p := 62) (j := 4) (v := (zz s 36 4)) (q65 59) rfl (r36 hB) (by decide) (iv_zz s 36 4) ?_
  refine w_iln (p := 63) (q65 62) rfl rfl ?_
  obtain ⟨h1, w⟩ := w
  by_cases c2 : (zz s 36 4) ≤ x2
  · replace w := w.1 c2
    refine w_i2t (q65 63) (inR_zz _ _ _) h1 c2 ?_
    refine w_aln (p := 99) (q65 98) rfl rfl ?_
    refine w_aln (p := 100) (q65 99) rfl rfl ?_
    refine w_gI (p := 103) (j := 5) (v := (zz s 36 5)) (q65 100) rfl (r36 hB) (by decide) (iv_zz s 36 5) ?_
    by_cases c3 : (zz s 36 5) ≠ 0
    · replace w := w.1 c3
      refine w_i1t (q65 103) (inR_zz _ _ _) c3 ?_
      refine w_ic (p := 128) (q65 127) rfl ?_
      refine w_goto (q65 128) ?_
      refine w_pI (p := 135) (j := 5) (q65 132) rfl (r36 hB) (by decide) rfl ?_
      refine w_iln (p := 136) (q65 135) rfl rfl ?_
      exact w_ret (q65 136) rfl w
    · replace w := w.2 (Decidable.not_not.mp c3)
      refine w_i1f (p := 106) (q65 103) rfl (inR_zz _ _ _) c3 ?_
      refine w_aln (p := 107) (q65 106) rfl rfl ?_
      refine w_gR (p := 110) (j := 2) (v := 17) (q65 107) rfl (r36 hB) (by decide) (f36_2 hB) ?_
      refine w_gI (p := 113) (j := 11) (v := (zz s 17 11)) (q65 110) rfl (r17 hB) (by decide) (iv_zz s 17 11) ?_
      by_cases c4 : (zz s 17 11) ≠ 0
      · replace w := w.1 c4
        refine w_i1t (q65 113) (inR_zz _ _ _) c4 ?_
        refine w_ic (p := 128) (q65 127) rfl ?_
        refine w_goto (q65 128) ?_
        refine w_pI (p := 135) (j := 5) (q65 132) rfl (r36 hB) (by decide) rfl ?_
        refine w_iln (p := 136) (q65 135) rfl rfl ?_
        exact w_ret (q65 136) rfl w
      · replace w := w.2 (Decidable.not_not.mp c4)
        refine w_i1f (p := 116) (q65 113) rfl (inR_zz _ _ _) c4 ?_
        refine w_aln (p := 117) (q65 116) rfl rfl ?_
        refine w_gR (p := 120) (j := 2) (v := 17) (q65 117) rfl (r36 hB) (by decide) (f36_2 hB) ?_
        refine w_iln (p := 121) (q65 120) rfl rfl ?_
        refine w_call (st := [.ref 36]) (as := [.ref 17, iv x3]) (as' := [iv x3, .ref 17]) (p := 124) (q65 121) rfl m75 (by decide) (a_ok_i rfl (r17 hB) rfl) rfl rfl (Nat.le_of_ble_eq_true rfl) (by omega) rfl rfl (a_W.imp w ?_)
        rintro _ ⟨v7, s5, l6, rfl, w⟩
        refine ⟨some (iv v7), _, rfl, ?_⟩
        show a_W _ 65 124 [.ref 36, iv x1, iv x2, iv x3, iv x4] [iv v7, .ref 36] (mkH B s5 l6) _
        obtain ⟨h8, w⟩ := w
        by_cases c9 : v7 = 0
        · replace w := w.1 c9
          refine w_i1t (q65 124) h8 c9 ?_
          refine w_ic (p := 132) (q65 131) rfl ?_
          refine w_pI (p := 135) (j := 5) (q65 132) rfl (r36 hB) (by decide) rfl ?_
          refine w_iln (p := 136) (q65 135) rfl rfl ?_
          exact w_ret (q65 136) rfl w
        · replace w := w.2 c9
          refine w_i1f (p := 127) (q65 124) rfl h8 c9 ?_
          refine w_ic (p := 128) (q65 127) rfl ?_
          refine w_goto (q65 128) ?_
          refine w_pI (p := 135) (j := 5) (q65 132) rfl (r36 hB) (by decide) rfl ?_
          refine w_iln (p := 136) (q65 135) rfl rfl ?_
          exact w_ret (q65 136) rfl w
  · replace w := w.2 (Int.not_le.mp c2)
    refine w_i2f (p := 66) (q65 63) rfl (inR_zz _ _ _) h1 c2 ?_
    refine w_aln (p := 67) (q65 66) rfl rfl ?_
    refine w_dupr (p := 68) (q65 67) rfl ?_
    refine w_gI (p := 71) (j := 4) (v := (zz s 36 4)) (q65 68) rfl (r36 hB) (by decide) (iv_zz s 36 4) ?_
    refine w_ic (p := 72) (q65 71) rfl ?_
    refine w_sub (p := 73) (q65 72) rfl ?_
    refine w_pI (p := 76) (j := 4) (q65 73) rfl (r36 hB) (by decide) rfl ?_
    refine w_aln (p := 77) (q65 76) rfl rfl ?_
    refine w_gR (p := 80) (j := 2) (v := 17) (q65 77) rfl (r36 hB) (by decide) (f36_2 hB) ?_
    refine w_ic (p := 81) (q65 80) rfl ?_
    refine w_aln (p := 82) (q65 81) rfl rfl ?_
    refine w_gR (p := 85) (j := 3) (v := 37) (q65 82) rfl (r36 hB) (by decide) (f36_3 hB) ?_
    refine w_aln (p := 86) (q65 85) rfl rfl ?_
    refine w_gI (p := 89) (j := 4) (v := ((zz s 36 4) - 1)) (q65 86) rfl (r36 hB) (by decide) rfl ?_
    obtain ⟨o10, w⟩ := w
    refine w_ia (p := 90) (v := (zz s 37 ((zz s 36 4) - 1).toNat)) (q65 89) rfl (r37 hB) (by decide) o10 (iv_zz s 37 ((zz s 36 4) - 1).toNat) ?_
    refine w_iln (p := 91) (q65 90) rfl rfl ?_
    refine w_call (st := []) (as := [.ref 17, iv 2, iv (zz s 37 ((zz s 36 4) - 1).toNat), iv x3]) (as' := [iv x3, iv (zz s 37 ((zz s 36 4) - 1).toNat), iv 2, .ref 17]) (p := 94) (q65 91) rfl m64 (by decide) (a_ok_i rfl (r17 hB) rfl) rfl rfl (Nat.le_of_ble_eq_true rfl) (by omega) rfl rfl (a_W.imp w ?_)
    rintro _ ⟨v13, s11, l12, rfl, w⟩
    refine ⟨some (iv v13), _, rfl, ?_⟩
    show a_W _ 65 94 [.ref 36, iv x1, iv x2, iv x3, iv x4] [iv v13] (mkH B s11 l12) _
    refine w_isn (p := 95) (ls' := [.ref 36, iv x1, iv x2, iv v13, iv x4]) (q65 94) rfl (Nat.le_of_ble_eq_true rfl) rfl ?_
    refine w_goto (q65 95) ?_
    exact w
theorem w66_0 {d : Nat} {B : aH} {Q : aR → Prop} (hB : a_Can B) (hd : 1 ≤ d) (x1 : Int) (s : Nat → Nat → Int32) (l : Nat → Nat → Int64) (w : (((zz s 1 6) ≠ 1 → a_W (d - 1) 71 0 [.ref 36, iv x1, .retAddr 0] [] (mkH B s l) (fun r => ∃ (v4 : Int) (s2 : Nat → Nat → Int32) (l3 : Nat → Nat → Int64), r = (.inl (some (iv v4)), mkH B s2 l3) ∧ Q (.inl (some (iv v4)), (mkH B s2 l3)))) ∧ ((zz s 1 6) = 1 → a_W (d - 1) 67 0 [.ref 36, iv x1, .retAddr 0, .retAddr 0, .retAddr 0, .retAddr 0, .retAddr 0, .retAddr 0, .retAddr 0] [] (mkH B s l) (fun r => ∃ (v7 : Int) (s5 : Nat → Nat → Int32) (l6 : Nat → Nat → Int64), r = (.inl (some (iv v7)), mkH B s5 l6) ∧ Q (.inl (some (iv v7)), (mkH B s5 l6)))))) : a_W d 66 0 [.ref 36, iv x1] [] (mkH B s l) Q := by
  refine w_aln (p := 1) (q66 0) rfl rfl ?_
  refine w_gR (p := 4) (j := 0) (v := 1) (q66 1) rfl (r36 hB) (by decide) (f36_0 hB) ?_
  refine w_gI (p := 7) (j := 6) (v := (zz s 1 6)) (q66 4) rfl (r1 hB) (by decide) (iv_zz s 1 6) ?_
  refine w_ic (p := 8) (q66 7) rfl ?_
  by_cases c1 : (zz s 1 6) ≠ 1
  · replace w := w.1 c1
    refine w_i2t (q66 8) (inR_zz _ _ _) (by decide) c1 ?_
    refine w_aln (p := 20) (q66 19) rfl rfl ?_
    refine w_iln (p := 21) (q66 20) rfl rfl ?_
    refine w_call (st := []) (as := [.ref 36, iv x1]) (as' := [iv x1, .ref 36]) (p := 24) (q66 21) rfl m71 (by decide) (a_ok_i rfl (r36 hB) rfl) rfl rfl (Nat.le_of_ble_eq_true rfl) (by omega) rfl rfl (a_W.imp w ?_)
    rintro _ ⟨v4, s2, l3, rfl, w⟩
    refine ⟨some (iv v4), _, rfl, ?_⟩
    show a_W _ 66 24 [.ref 36, iv x1] [iv v4] (mkH B s2 l3) _
    exact w_ret (q66 24) rfl w
  · replace w := w.2 (Decidable.not_not.mp c1)
    refine w_i2f (p := 11) (q66 8) rfl (inR_zz _ _ _) (by decide) c1 ?_
    refine w_aln (p := 12) (q66 11) rfl rfl ?_
    refine w_iln (p := 13) (q66 12) rfl rfl ?_
    refine w_call (st := []) (as := [.ref 36, iv x1]) (as' := [iv x1, .ref 36]) (p := 16) (q66 13) rfl m67 (by decide) (a_ok_i rfl (r36 hB) rfl) rfl rfl (Nat.le_of_ble_eq_true rfl) (by omega) rfl rfl (a_W.imp w ?_)
    rintro _ ⟨v7, s5, l6, rfl, w⟩
    refine ⟨some (iv v7), _, rfl, ?_⟩
    show a_W _ 66 16 [.ref 36, iv x1] [iv v7] (mkH B s5 l6) _
    refine w_goto (q66 16) ?_
    exact w_ret (q66 24) rfl w
theorem w67_0 {d : Nat} {B : aH} {Q : aR → Prop} (hB : a_Can B) (hd : 1 ≤ d) (x1 : Int) (s : Nat → Nat → Int32) (l : Nat → Nat → Int64) (w : a_W (d - 1) 39 0 [.ref 10, .ref 2, iv (zz s 1 7), iv (zz s 1 8), .retAddr 0, .retAddr 0] [] (mkH B s l) (fun r => ∃ (v3 : Int) (s1 : Nat → Nat → Int32) (l2 : Nat → Nat → Int64), r = (.inl (some (iv v3)), mkH B s1 l2) ∧ a_W (d - 1) 24 0 [.ref 1, .retAddr 0] [] (mkH B s1 l2) (fun r => ∃ (s4 : Nat → Nat → Int32) (l5 : Nat → Nat → Int64), r = (.inl none, mkH B s4 l5) ∧ a_W d 67 53 [.ref 36, iv x1, iv v3, iv (-1), iv (-1), iv 1, iv 0, iv 0, .retAddr 0] [] (mkH B s4 l5) Q))) : a_W d 67 0 [.ref 36, iv x1, .retAddr 0, .retAddr 0, .retAddr 0, .retAddr 0, .retAddr 0, .retAddr 0, .retAddr 0] [] (mkH B s l) Q := by
  refine w_aln (p := 1) (q67 0) rfl rfl ?_
  refine w_gR (p := 4) (j := 1) (v := 9) (q67 1) rfl (r36 hB) (by decide) (f36_1 hB) ?_
  refine w_gR (p := 7) (j := 0) (v := 10) (q67 4) rfl (r9 hB) (by decide) (f9_0 hB) ?_
  refine w_aln (p := 8) (q67 7) rfl rfl ?_
  refine w_gR (p := 11) (j := 0) (v := 1) (q67 8) rfl (r36 hB) (by decide) (f36_0 hB) ?_
  refine w_gR (p := 14) (j := 0) (v := 2) (q67 11) rfl (r1 hB) (by decide) (f1_0 hB) ?_
  refine w_aln (p := 15) (q67 14) rfl rfl ?_
  refine w_gR (p := 18) (j := 0) (v := 1) (q67 15) rfl (r36 hB) (by decide) (f36_0 hB) ?_
  refine w_gI (p := 21) (j := 7) (v := (zz s 1 7)) (q67 18) rfl (r1 hB) (by decide) (iv_zz s 1 7) ?_
  refine w_aln (p := 22) (q67 21) rfl rfl ?_
  refine w_gR (p := 25) (j := 0) (v := 1) (q67 22) rfl (r36 hB) (by decide) (f36_0 hB) ?_
  refine w_gI (p := 28) (j := 8) (v := (zz s 1 8)) (q67 25) rfl (r1 hB) (by decide) (iv_zz s 1 8) ?_
  refine w_call (st := []) (as := [.ref 10, .ref 2, iv (zz s 1 7), iv (zz s 1 8)]) (as' := [iv (zz s 1 8), iv (zz s 1 7), .ref 2, .ref 10]) (p := 31) (q67 28) rfl m39 (by decide) (a_ok_i rfl (r10 hB) rfl) rfl rfl (Nat.le_of_ble_eq_true rfl) (by omega) rfl rfl (a_W.imp w ?_)
  rintro _ ⟨v3, s1, l2, rfl, w⟩
  refine ⟨some (iv v3), _, rfl, ?_⟩
  show a_W _ 67 31 [.ref 36, iv x1, .retAddr 0, .retAddr 0, .retAddr 0, .retAddr 0, .retAddr 0, .retAddr 0, .retAddr 0] [iv v3] (mkH B s1 l2) _
  refine w_isn (p := 32) (ls' := [.ref 36, iv x1, iv v3, .retAddr 0, .retAddr 0, .retAddr 0, .retAddr 0, .retAddr 0, .retAddr 0]) (q67 31) rfl (Nat.le_of_ble_eq_true rfl) rfl ?_
  refine w_aln (p := 33) (q67 32) rfl rfl ?_
  refine w_gR (p := 36) (j := 0) (v := 1) (q67 33) rfl (r36 hB) (by decide) (f36_0 hB) ?_
  refine w_call (st := []) (as := [.ref 1]) (as' := [.ref 1]) (p := 39) (q67 36) rfl m24 (by decide) (a_ok_i rfl (r1 hB) rfl) rfl rfl (Nat.le_of_ble_eq_true rfl) (by omega) rfl rfl (a_W.imp w ?_)
  rintro _ ⟨s4, l5, rfl, w⟩
  refine ⟨none, _, rfl, ?_⟩
  show a_W _ 67 39 [.ref 36, iv x1, iv v3, .retAddr 0, .retAddr 0, .retAddr 0, .retAddr 0, .retAddr 0, .retAddr 0] [] (mkH B s4 l5) _
  refine w_ic (p := 40) (q67 39) rfl ?_
  refine w_isn (p := 41) (ls' := [.ref 36, iv x1, iv v3, iv (-1), .retAddr 0, .retAddr 0, .retAddr 0, .retAddr 0, .retAddr 0]) (q67 40) rfl (Nat.le_of_ble_eq_true rfl) rfl ?_
  refine w_ic (p := 42) (q67 41) rfl ?_
  refine w_is (p := 44) (ls' := [.ref 36, iv x1, iv v3, iv (-1), iv (-1), .retAddr 0, .retAddr 0, .retAddr 0, .retAddr 0]) (q67 42) rfl (Nat.le_of_ble_eq_true rfl) rfl ?_
  refine w_ic (p := 45) (q67 44) rfl ?_
  refine w_is (p := 47) (ls' := [.ref 36, iv x1, iv v3, iv (-1), iv (-1), iv 1, .retAddr 0, .retAddr 0, .retAddr 0]) (q67 45) rfl (Nat.le_of_ble_eq_true rfl) rfl ?_
  refine w_ic (p := 48) (q67 47) rfl ?_
  refine w_is (p := 50) (ls' := [.ref 36, iv x1, iv v3, iv (-1), iv (-1), iv 1, iv 0, .retAddr 0, .retAddr 0]) (q67 48) rfl (Nat.le_of_ble_eq_true rfl) rfl ?_
  refine w_ic (p := 51) (q67 50) rfl ?_
  refine w_is (p := 53) (ls' := [.ref 36, iv x1, iv v3, iv (-1), iv (-1), iv 1, iv 0, iv 0, .retAddr 0]) (q67 51) rfl (Nat.le_of_ble_eq_true rfl) rfl ?_
  exact w
theorem w67_53 {d : Nat} {B : aH} {Q : aR → Prop} (hB : a_Can B) (hd : 1 ≤ d) (x1 x2 x3 x4 x5 x6 x7 : Int) (u8 : Value) (s : Nat → Nat → Int32) (l : Nat → Nat → Int64) (w : (inR x7 ∧ ((6000 ≤ x7 → a_W d 67 162 [.ref 36, iv x1, iv x2, iv x3, iv x4, iv x5, iv x6, iv x7, u8] [] (mkH B s l) Q) ∧ (x7 < 6000 → (((z68 (zz s 1 6)) = 0 → a_W d 67 162 [.ref 36, iv x1, iv x2, iv x3, iv x4, iv x5, iv x6, iv x7, u8] [] (mkH B s l) Q) ∧ ((z68 (zz s 1 6)) ≠ 0 → (((zz s 1 6) ≠ 1 → a_W (d - 1) 71 0 [.ref 36, iv x1, .retAddr 0] [] (mkH B s l) (fun r => ∃ (v7 : Int) (s5 : Nat → Nat → Int32) (l6 : Nat → Nat → Int64), r = (.inl (some (iv v7)), mkH B s5 l6) ∧ a_W (d - 1) 50 0 [.ref 17, iv v7] [] (mkH B s5 l6) (fun r => ∃ (v10 : Int) (s8 : Nat → Nat → Int32) (l9 : Nat → Nat → Int64), r = (.inl (some (iv v10)), mkH B s8 l9) ∧ a_W (d - 1) 52 0 [.ref 17, iv v7] [] (mkH B s8 l9) (fun r => ∃ (v13 : Int) (s11 : Nat → Nat → Int32) (l12 : Nat → Nat → Int64), r = (.inl (some (iv v13)), mkH B s11 l12) ∧ (inR x6 ∧ inR v13 ∧ ((x7 ≠ 0 → ((x7 ≠ 1 → a_W d 67 53 [.ref 36, iv x1, iv x2, iv x3, iv x4, iv (x5 + v10), iv (max x6 v13), iv (x7 + 1), iv v7] [] (mkH B s11 l12) Q) ∧ (x7 = 1 → a_W d 67 53 [.ref 36, iv x1, iv x2, iv x3, iv v7, iv (x5 + v10), iv (max x6 v13), iv (x7 + 1), iv v7] [] (mkH B s11 l12) Q))) ∧ (x7 = 0 → a_W d 67 53 [.ref 36, iv x1, iv x2, iv v7, iv x4, iv (x5 + v10), iv (max x6 v13), iv (x7 + 1), iv v7] [] (mkH B s11 l12) Q))))))) ∧ ((zz s 1 6) = 1 → a_W (d - 1) 69 0 [.ref 36, .retAddr 0] [] (mkH B s l) (fun r => ∃ (v20 : Int) (s18 : Nat → Nat → Int32) (l19 : Nat → Nat → Int64), r = (.inl (some (iv v20)), mkH B s18 l19) ∧ a_W (d - 1) 50 0 [.ref 17, iv v20] [] (mkH B s18 l19) (fun r => ∃ (v23 : Int) (s21 : Nat → Nat → Int32) (l22 : Nat → Nat → Int64), r = (.inl (some (iv v23)), mkH B s21 l22) ∧ a_W (d - 1) 52 0 [.ref 17, iv v20] [] (mkH B s21 l22) (fun r => ∃ (v26 : Int) (s24 : Nat → Nat → Int32) (l25 : Nat → Nat → Int64), r = (.inl (some (iv v26)), mkH B s24 l25) ∧ (inR x6 ∧ inR v26 ∧ ((x7 ≠ 0 → ((x7 ≠ 1 → a_W d 67 53 [.ref 36, iv x1, iv x2, iv x3, iv x4, iv (x5 + v23), iv (max x6 v26), iv (x7 + 1), iv v20] [] (mkH B s24 l25) Q) ∧ (x7 = 1 → a_W d 67 53 [.ref 36, iv x1, iv x2, iv x3, iv v20, iv (x5 + v23), iv (max x6 v26), iv (x7 + 1), iv v20] [] (mkH B s24 l25) Q))) ∧ (x7 = 0 → a_W d 67 53 [.ref 36, iv x1, iv x2, iv v20, iv x4, iv (x5 + v23), iv (max x6 v26), iv (x7 + 1), iv v20] [] (mkH B s24 l25) Q)))))))))))))) : a_W d 67 53 [.ref 36, iv x1, iv x2, iv x3, iv x4, iv x5, iv x6, iv x7, u8] [] (mkH B s l) Q := by
  refine w_il (p := 55) (q67 53) rfl rfl ?_
  refine w_sp (p := 58) (q67 55) rfl (by decide) ?_
  obtain ⟨h1, w⟩ := w
  by_cases c2 : 6000 ≤ x7
  · replace w := w.1 c2
    refine w_i2t (q67 58) h1 (by decide) c2 ?_
    exact w
  · replace w := w.2 (Int.not_le.mp c2)
    refine w_i2f (p := 61) (q67 58) rfl h1 (by decide) c2 ?_
    refine w_aln (p := 62) (q67 61) rfl rfl ?_
    refine w_gR (p := 65) (j := 0) (v := 1) (q67 62) rfl (r36 hB) (by decide) (f36_0 hB) ?_
    refine w_gI (p := 68) (j := 6) (v := (zz s 1 6)) (q67 65) rfl (r1 hB) (by decide) (iv_zz s 1 6) ?_
    refine w_call (st := []) (as := [iv (zz s 1 6)]) (as' := [iv (zz s 1 6)]) (p := 71) (q67 68) rfl m68 (by decide) (a_ok_s rfl rfl) rfl rfl (Nat.le_of_ble_eq_true rfl) (by omega) rfl rfl (a_W.imp (p68 hB (zz s 1 6) _ _ (inR_zz _ _ _)) ?_)
    rintro _ rfl
    refine ⟨_, _, rfl, ?_⟩
    show a_W _ 67 71 [.ref 36, iv x1, iv x2, iv x3, iv x4, iv x5, iv x6, iv x7, u8] [iv (z68 (zz s 1 6))] _ _
    by_cases c3 : (z68 (zz s 1 6)) = 0
    · replace w := w.1 c3
      refine w_i1t (q67 71) (inR_z68 _) c3 ?_
      exact w
    · replace w := w.2 c3
      refine w_i1f (p := 74) (q67 71) rfl (inR_z68 _) c3 ?_
      refine w_aln (p := 75) (q67 74) rfl rfl ?_
      refine w_gR (p := 78) (j := 0) (v := 1) (q67 75) rfl (r36 hB) (by decide) (f36_0 hB) ?_
      refine w_gI (p := 81) (j := 6) (v := (zz s 1 6)) (q67 78) rfl (r1 hB) (by decide) (iv_zz s 1 6) ?_
      refine w_ic (p := 82) (q67 81) rfl ?_
      by_cases c4 : (zz s 1 6) ≠ 1
      · replace w := w.1 c4
        refine w_i2t (q67 82) (inR_zz _ _ _) (by decide) c4 ?_
        refine w_aln (p := 93) (q67 92) rfl rfl ?_
        refine w_iln (p := 94) (q67 93) rfl rfl ?_
        refine w_call (st := []) (as := [.ref 36, iv x1]) (as' := [iv x1, .ref 36]) (p := 97) (q67 94) rfl m71 (by decide) (a_ok_i rfl (r36 hB) rfl) rfl rfl (Nat.le_of_ble_eq_true rfl) (by omega) rfl rfl (a_W.imp w ?_)
        rintro _ ⟨v7, s5, l6, rfl, w⟩
        refine ⟨some (iv v7), _, rfl, ?_⟩
        show a_W _ 67 97 [.ref 36, iv x1, iv x2, iv x3, iv x4, iv x5, iv x6, iv x7, u8] [iv v7] (mkH B s5 l6) _
        refine w_is (p := 99) (ls' := [.ref 36, iv x1, iv x2, iv x3, iv x4, iv x5, iv x6, iv x7, iv v7]) (q67 97) rfl (Nat.le_of_ble_eq_true rfl) rfl ?_
        refine w_il (p := 101) (q67 99) rfl rfl ?_
        refine w_aln (p := 102) (q67 101) rfl rfl ?_
        refine w_gR (p := 105) (j := 2) (v := 17) (q67 102) rfl (r36 hB) (by decide) (f36_2 hB) ?_
        refine w_il (p := 107) (q67 105) rfl rfl ?_
        refine w_call (st := [iv x5]) (as := [.ref 17, iv v7]) (as' := [iv v7, .ref 17]) (p := 110) (q67 107) rfl m50 (by decide) (a_ok_i rfl (r17 hB) rfl) rfl rfl (Nat.le_of_ble_eq_true rfl) (by omega) rfl rfl (a_W.imp w ?_)
        rintro _ ⟨v10, s8, l9, rfl, w⟩
        refine ⟨some (iv v10), _, rfl, ?_⟩
        show a_W _ 67 110 [.ref 36, iv x1, iv x2, iv x3, iv x4, iv x5, iv x6, iv x7, iv v7] [iv v10, iv x5] (mkH B s8 l9) _
        refine w_add (p := 111) (q67 110) rfl ?_
        refine w_is (p := 113) (ls' := [.ref 36, iv x1, iv x2, iv x3, iv x4, iv (x5 + v10), iv x6, iv x7, iv v7]) (q67 111) rfl (Nat.le_of_ble_eq_true rfl) rfl ?_
        refine w_il (p := 115) (q67 113) rfl rfl ?_
        refine w_aln (p := 116) (q67 115) rfl rfl ?_
        refine w_gR (p := 119) (j := 2) (v := 17) (q67 116) rfl (r36 hB) (by decide) (f36_2 hB) ?_
        refine w_il (p := 121) (q67 119) rfl rfl ?_
        refine w_call (st := [iv x6]) (as := [.ref 17, iv v7]) (as' := [iv v7, .ref 17]) (p := 124) (q67 121) rfl m52 (by decide) (a_ok_i rfl (r17 hB) rfl) rfl rfl (Nat.le_of_ble_eq_true rfl) (by omega) rfl rfl (a_W.imp w ?_)
        rintro _ ⟨v13, s11, l12, rfl, w⟩
        refine ⟨some (iv v13), _, rfl, ?_⟩
        show a_W _ 67 124 [.ref 36, iv x1, iv x2, iv x3, iv x4, iv (x5 + v10), iv x6, iv x7, iv v7] [iv v13, iv x6] (mkH B s11 l12) _
        obtain ⟨h14, w⟩ := w
        obtain ⟨h15, w⟩ := w
        refine w_max (p := 127) (q67 124) rfl rfl h14 h15 (Nat.le_of_ble_eq_true rfl) (by omega) ?_
        refine w_is (p := 129) (ls' := [.ref 36, iv x1, iv x2, iv x3, iv x4, iv (x5 + v10), iv (max x6 v13), iv x7, iv v7]) (q67 127) rfl (Nat.le_of_ble_eq_true rfl) rfl ?_
        refine w_il (p := 131) (q67 129) rfl rfl ?_
        by_cases c16 : x7 ≠ 0
        · replace w := w.1 c16
          refine w_i1t (q67 131) h1 c16 ?_
          refine w_iln (p := 140) (q67 139) rfl rfl ?_
          refine w_isn (p := 141) (ls' := [.ref 36, iv x1, iv x2, iv x3, iv x4, iv (x5 + v10), iv (max x6 v13), iv x7, iv v7]) (q67 140) rfl (Nat.le_of_ble_eq_true rfl) rfl ?_
          refine w_il (p := 143) (q67 141) rfl rfl ?_
          refine w_ic (p := 144) (q67 143) rfl ?_
          by_cases c17 : x7 ≠ 1
          · replace w := w.1 c17
            refine w_i2t (q67 144) h1 (by decide) c17 ?_
            refine w_il (p := 154) (q67 152) rfl rfl ?_
            refine w_is (p := 156) (ls' := [.ref 36, iv x1, iv x2, iv x3, iv x4, iv (x5 + v10), iv (max x6 v13), iv x7, iv v7]) (q67 154) rfl (Nat.le_of_ble_eq_true rfl) rfl ?_
            refine w_inc (p := 159) (ls' := [.ref 36, iv x1, iv x2, iv x3, iv x4, iv (x5 + v10), iv (max x6 v13), iv (x7 + 1), iv v7]) (q67 156) rfl rfl rfl ?_
            refine w_goto (q67 159) ?_
            exact w
          · replace w := w.2 (Decidable.not_not.mp c17)
            refine w_i2f (p := 147) (q67 144) rfl h1 (by decide) c17 ?_
            refine w_il (p := 149) (q67 147) rfl rfl ?_
            refine w_goto (q67 149) ?_
            refine w_is (p := 156) (ls' := [.ref 36, iv x1, iv x2, iv x3, iv v7, iv (x5 + v10), iv (max x6 v13), iv x7, iv v7]) (q67 154) rfl (Nat.le_of_ble_eq_true rfl) rfl ?_
            refine w_inc (p := 159) (ls' := [.ref 36, iv x1, iv x2, iv x3, iv v7, iv (x5 + v10), iv (max x6 v13), iv (x7 + 1), iv v7]) (q67 156) rfl rfl rfl ?_
            refine w_goto (q67 159) ?_
            exact w
        · replace w := w.2 (Decidable.not_not.mp c16)
          refine w_i1f (p := 134) (q67 131) rfl h1 c16 ?_
          refine w_il (p := 136) (q67 134) rfl rfl ?_
          refine w_goto (q67 136) ?_
          refine w_isn (p := 141) (ls' := [.ref 36, iv x1, iv x2, iv v7, iv x4, iv (x5 + v10), iv (max x6 v13), iv x7, iv v7]) (q67 140) rfl (Nat.le_of_ble_eq_true rfl) rfl ?_
          refine w_il (p := 143) (q67 141) rfl rfl ?_
          refine w_ic (p := 144) (q67 143) rfl ?_
          refine w_i2t (q67 144) h1 (by decide) (show zc _ _ _ by unfold zc; omega) ?_
          refine w_il (p := 154) (q67 152) rfl rfl ?_
          refine w_is (p := 156) (ls' := [.ref 36, iv x1, iv x2, iv v7, iv x4, iv (x5 + v10), iv (max x6 v13), iv x7, iv v7]) (q67 154) rfl (Nat.le_of_ble_eq_true rfl) rfl ?_
          refine w_inc (p := 159) (ls' := [.ref 36, iv x1, iv x2, iv v7, iv x4, iv (x5 + v10), iv (max x6 v13), iv (x7 + 1), iv v7]) (q67 156) rfl rfl rfl ?_
          refine w_goto (q67 159) ?_
          exact w
      · replace w := w.2 (Decidable.not_not.mp c4)
        refine w_i2f (p := 85) (q67 82) rfl (inR_zz _ _ _) (by decide) c4 ?_
        refine w_aln (p := 86) (q67 85) rfl rfl ?_
        refine w_call (st := []) (as := [.ref 36]) (as' := [.ref 36]) (p := 89) (q67 86) rfl m69 (by decide) (a_ok_i rfl (r36 hB) rfl) rfl rfl (Nat.le_of_ble_eq_true rfl) (by omega) rfl rfl (a_W.imp w ?_)
        rintro _ ⟨v20, s18, l19, rfl, w⟩
        refine ⟨some (iv v20), _, rfl, ?_⟩
        show a_W _ 67 89 [.ref 36, iv x1, iv x2, iv x3, iv x4, iv x5, iv x6, iv x7, u8] [iv v20] (mkH B s18 l19) _
        refine w_goto (q67 89) ?_
        refine w_is (p := 99) (ls' := [.ref 36, iv x1, iv x2, iv x3, iv x4, iv x5, iv x6, iv x7, iv v20]) (q67 97) rfl (Nat.le_of_ble_eq_true rfl) rfl ?_
        refine w_il (p := 101) (q67 99) rfl rfl ?_
        refine w_aln (p := 102) (q67 101) rfl rfl ?_
        refine w_gR (p := 105) (j := 2) (v := 17) (q67 102) rfl (r36 hB) (by decide) (f36_2 hB) ?_
        refine w_il (p := 107) (q67 105) rfl rfl ?_
        refine w_call (st := [iv x5]) (as := [.ref 17, iv v20]) (as' := [iv v20, .ref 17]) (p := 110) (q67 107) rfl m50 (by decide) (a_ok_i rfl (r17 hB) rfl) rfl rfl (Nat.le_of_ble_eq_true rfl) (by omega) rfl rfl (a_W.imp w ?_)
        rintro _ ⟨v23, s21, l22, rfl, w⟩
        refine ⟨some (iv v23), _, rfl, ?_⟩
        show a_W _ 67 110 [.ref 36, iv x1, iv x2, iv x3, iv x4, iv x5, iv x6, iv x7, iv v20] [iv v23, iv x5] (mkH B s21 l22) _
        refine w_add (p := 111) (q67 110) rfl ?_
        refine w_is (p := 113) (ls' := [.ref 36, iv x1, iv x2, iv x3, iv x4, iv (x5 + v23), iv x6, iv x7, iv v20]) (q67 111) rfl (Nat.le_of_ble_eq_true rfl) rfl ?_
        refine w_il (p := 115) (q67 113) rfl rfl ?_
        refine w_aln (p := 116) (q67 115) rfl rfl ?_
        refine w_gR (p := 119) (j := 2) (v := 17) (q67 116) rfl (r36 hB) (by decide) (f36_2 hB) ?_
        refine w_il (p := 121) (q67 119) rfl rfl ?_
        refine w_call (st := [iv x6]) (as := [.ref 17, iv v20]) (as' := [iv v20, .ref 17]) (p := 124) (q67 121) rfl m52 (by decide) (a_ok_i rfl (r17 hB) rfl) rfl rfl (Nat.le_of_ble_eq_true rfl) (by omega) rfl rfl (a_W.imp w ?_)
        rintro _ ⟨v26, s24, l25, rfl, w⟩
        refine ⟨some (iv v26), _, rfl, ?_⟩
        show a_W _ 67 124 [.ref 36, iv x1, iv x2, iv x3, iv x4, iv (x5 + v23), iv x6, iv x7, iv v20] [iv v26, iv x6] (mkH B s24 l25) _
        obtain ⟨h27, w⟩ := w
        obtain ⟨h28, w⟩ := w
        refine w_max (p := 127) (q67 124) rfl rfl h27 h28 (Nat.le_of_ble_eq_true rfl) (by omega) ?_
        refine w_is (p := 129) (ls' := [.ref 36, iv x1, iv x2, iv x3, iv x4, iv (x5 + v23), iv (max x6 v26), iv x7, iv v20]) (q67 127) rfl (Nat.le_of_ble_eq_true rfl) rfl ?_
        refine w_il (p := 131) (q67 129) rfl rfl ?_
        by_cases c29 : x7 ≠ 0
        · replace w := w.1 c29
          refine w_i1t (q67 131) h1 c29 ?_
          refine w_iln (p := 140) (q67 139) rfl rfl ?_
          refine w_isn (p := 141) (ls' := [.ref 36, iv x1, iv x2, iv x3, iv x4, iv (x5 + v23), iv (max x6 v26), iv x7, iv v20]) (q67 140) rfl (Nat.le_of_ble_eq_true rfl) rfl ?_
          refine w_il (p := 143) (q67 141) rfl rfl ?_
          refine w_ic (p := 144) (q67 143) rfl ?_
          by_cases c30 : x7 ≠ 1
          · replace w := w.1 c30
            refine w_i2t (q67 144) h1 (by decide) c30 ?_
            refine w_il (p := 154) (q67 152) rfl rfl ?_
            refine w_is (p := 156) (ls' := [.ref 36, iv x1, iv x2, iv x3, iv x4, iv (x5 + v23), iv (max x6 v26), iv x7, iv v20]) (q67 154) rfl (Nat.le_of_ble_eq_true rfl) rfl ?_
            refine w_inc (p := 159) (ls' := [.ref 36, iv x1, iv x2, iv x3, iv x4, iv (x5 + v23), iv (max x6 v26), iv (x7 + 1), iv v20]) (q67 156) rfl rfl rfl ?_
            refine w_goto (q67 159) ?_
            exact w
          · replace w := w.2 (Decidable.not_not.mp c30)
            refine w_i2f (p := 147) (q67 144) rfl h1 (by decide) c30 ?_
            refine w_il (p := 149) (q67 147) rfl rfl ?_
            refine w_goto (q67 149) ?_
            refine w_is (p := 156) (ls' := [.ref 36, iv x1, iv x2, iv x3, iv v20, iv (x5 + v23), iv (max x6 v26), iv x7, iv v20]) (q67 154) rfl (Nat.le_of_ble_eq_true rfl) rfl ?_
            refine w_inc (p := 159) (ls' := [.ref 36, iv x1, iv x2, iv x3, iv v20, iv (x5 + v23), iv (max x6 v26), iv (x7 + 1), iv v20]) (q67 156) rfl rfl rfl ?_
            refine w_goto (q67 159) ?_
            exact w
        · replace w := w.2 (Decidable.not_not.mp c29)
          refine w_i1f (p := 134) (q67 131) rfl h1 c29 ?_
          refine w_il (p := 136) (q67 134) rfl rfl ?_
          refine w_goto (q67 136) ?_
          refine w_isn (p := 141) (ls' := [.ref 36, iv x1, iv x2, iv v20, iv x4, iv (x5 + v23), iv (max x6 v26), iv x7, iv v20]) (q67 140) rfl (Nat.le_of_ble_eq_true rfl) rfl ?_
          refine w_il (p := 143) (q67 141) rfl rfl ?_
          refine w_ic (p := 144) (q67 143) rfl ?_
          refine w_i2t (q67 144) h1 (by decide) (show zc _ _ _ by unfold zc; omega) ?_
          refine w_il (p := 154) (q67 152) rfl rfl ?_
          refine w_is (p := 156) (ls' := [.ref 36, iv x1, iv x2, iv v20, iv x4, iv (x5 + v23), iv (max x6 v26), iv x7, iv v20]) (q67 154) rfl (Nat.le_of_ble_eq_true rfl) rfl ?_
          refine w_inc (p := 159) (ls' := [.ref 36, iv x1, iv x2, iv v20, iv x4, iv (x5 + v23), iv (max x6 v26), iv (x7 + 1), iv v20]) (q67 156) rfl rfl rfl ?_
          refine w_goto (q67 159) ?_
          exact w
theorem w67_162 {d : Nat} {B : aH} {Q : aR → Prop} (hB : a_Can B) (hd : 1 ≤ d) (x1 x2 x3 x4 x5 x6 x7 : Int) (u8 : Value) (s : Nat → Nat → Int32) (l : Nat → Nat → Int64) (w : (inR x2 ∧ ((x2 < 0 → a_W d 67 191 [.ref 36, iv x1, iv x2, iv x3, iv x4, iv x5, iv x6, iv x7, u8] [] (mkH B s l) Q) ∧ (0 ≤ x2 → a_W (d - 1) 70 0 [.ref 9, iv x2] [] (mkH B s l) (fun r => ∃ (v5 : Int) (s3 : Nat → Nat → Int32) (l4 : Nat → Nat → Int64), r = (.inl (some (iv v5)), mkH B s3 l4) ∧ (inR v5 ∧ inR x7 ∧ ((v5 ≠ x7 → a_W d 67 191 [.ref 36, iv x1, iv x2, iv x3, iv x4, iv x5, iv x6, iv x7, u8] [] (mkH B s3 l4) Q) ∧ (v5 = x7 → a_W (d - 1) 64 0 [.ref 17, iv x2, iv x3, iv x4, .retAddr 0] [] (mkH B s3 l4) (fun r => ∃ (v11 : Int) (s9 : Nat → Nat → Int32) (l10 : Nat → Nat → Int64), r = (.inl (some (iv v11)), mkH B s9 l10) ∧ Q (.inl (some (iv v11)), (mkH B s9 l10))))))))))) : a_W d 67 162 [.ref 36, iv x1, iv x2, iv x3, iv x4, iv x5, iv x6, iv x7, u8] [] (mkH B s l) Q := by
  refine w_iln (p := 163) (q67 162) rfl rfl ?_
  obtain ⟨h1, w⟩ := w
  by_cases c2 : x2 < 0
  · replace w := w.1 c2
    refine w_i1t (q67 163) h1 c2 ?_
    exact w
  · replace w := w.2 (Int.not_lt.mp c2)
    refine w_i1f (p := 166) (q67 163) rfl h1 c2 ?_
    refine w_aln (p := 167) (q67 166) rfl rfl ?_
    refine w_gR (p := 170) (j := 1) (v := 9) (q67 167) rfl (r36 hB) (by decide) (f36_1 hB) ?_
    refine w_iln (p := 171) (q67 170) rfl rfl ?_
    refine w_call (st := []) (as := [.ref 9, iv x2]) (as' := [iv x2, .ref 9]) (p := 174) (q67 171) rfl m70 (by decide) (a_ok_i rfl (r9 hB) rfl) rfl rfl (Nat.le_of_ble_eq_true rfl) (by omega) rfl rfl (a_W.imp w ?_)
    rintro _ ⟨v5, s3, l4, rfl, w⟩
    refine ⟨some (iv v5), _, rfl, ?_⟩
    show a_W _ 67 174 [.ref 36, iv x1, iv x2, iv x3, iv x4, iv x5, iv x6, iv x7, u8] [iv v5] (mkH B s3 l4) _
    refine w_il (p := 176) (q67 174) rfl rfl ?_
    obtain ⟨h6, w⟩ := w
    obtain ⟨h7, w⟩ := w
    by_cases c8 : v5 ≠ x7
    · replace w := w.1 c8
      refine w_i2t (q67 176) h6 h7 c8 ?_
      exact w
    · replace w := w.2 (Decidable.not_not.mp c8)
      refine w_i2f (p := 179) (q67 176) rfl h6 h7 c8 ?_
      refine w_aln (p := 180) (q67 179) rfl rfl ?_
      refine w_gR (p := 183) (j := 2) (v := 17) (q67 180) rfl (r36 hB) (by decide) (f36_2 hB) ?_
      refine w_iln (p := 184) (q67 183) rfl rfl ?_
      refine w_iln (p := 185) (q67 184) rfl rfl ?_
      refine w_il (p := 187) (q67 185) rfl rfl ?_
      refine w_call (st := []) (as := [.ref 17, iv x2, iv x3, iv x4]) (as' := [iv x4, iv x3, iv x2, .ref 17]) (p := 190) (q67 187) rfl m64 (by decide) (a_ok_i rfl (r17 hB) rfl) rfl rfl (Nat.le_of_ble_eq_true rfl) (by omega) rfl rfl (a_W.imp w ?_)
      rintro _ ⟨v11, s9, l10, rfl, w⟩
      refine ⟨some (iv v11), _, rfl, ?_⟩
      show a_W _ 67 190 [.ref 36, iv x1, iv x2, iv x3, iv x4, iv x5, iv x6, iv x7, u8] [iv v11] (mkH B s9 l10) _
      exact w_ret (q67 190) rfl w
theorem w67_191 {d : Nat} {B : aH} {Q : aR → Prop} (hB : a_Can B) (hd : 1 ≤ d) (x1 x2 x3 x4 x5 x6 x7 : Int) (u8 : Value) (s : Nat → Nat → Int32) (l : Nat → Nat → Int64) (w : a_W (d - 1) 91 0 [.ref 17, iv x5, iv (x6 + 1), .retAddr 0] [] (mkH B (zu s 36 6 1) l) (fun r => ∃ (v3 : Int) (s1 : Nat → Nat → Int32) (l2 : Nat → Nat → Int64), r = (.inl (some (iv v3)), mkH B s1 l2) ∧ Q (.inl (some (iv v3)), (mkH B s1 l2)))) : a_W d 67 191 [.ref 36, iv x1, iv x2, iv x3, iv x4, iv x5, iv x6, iv x7, u8] [] (mkH B s l) Q := by
  refine w_aln (p := 192) (q67 191) rfl rfl ?_
  refine w_ic (p := 193) (q67 192) rfl ?_
  refine w_pI (p := 196) (j := 6) (q67 193) rfl (r36 hB) (by decide) rfl ?_
  refine w_aln (p := 197) (q67 196) rfl rfl ?_
  refine w_gR (p := 200) (j := 2) (v := 17) (q67 197) rfl (r36 hB) (by decide) (f36_2 hB) ?_
  refine w_il (p := 202) (q67 200) rfl rfl ?_
  refine w_il (p := 204) (q67 202) rfl rfl ?_
  refine w_ic (p := 205) (q67 204) rfl ?_
  refine w_add (p := 206) (q67 205) rfl ?_
  refine w_call (st := []) (as := [.ref 17, iv x5, iv (x6 + 1)]) (as' := [iv (x6 + 1), iv x5, .ref 17]) (p := 209) (q67 206) rfl m91 (by decide) (a_ok_i rfl (r17 hB) rfl) rfl rfl (Nat.le_of_ble_eq_true rfl) (by omega) rfl rfl (a_W.imp w ?_)
  rintro _ ⟨v3, s1, l2, rfl, w⟩
  refine ⟨some (iv v3), _, rfl, ?_⟩
  show a_W _ 67 209 [.ref 36, iv x1, iv x2, iv x3, iv x4, iv x5, iv x6, iv x7, u8] [iv v3] (mkH B s1 l2) _
  exact w_ret (q67 209) rfl w
theorem w69_0 {d : Nat} {B : aH} {Q : aR → Prop} (hB : a_Can B) (hd : 1 ≤ d) (s : Nat → Nat → Int32) (l : Nat → Nat → Int64) (w : a_W (d - 1) 39 0 [.ref 10, .ref 2, iv (zz s 1 7), iv (zz s 1 8), .retAddr 0, .retAddr 0] [] (mkH B s l) (fun r => ∃ (v3 : Int) (s1 : Nat → Nat → Int32) (l2 : Nat → Nat → Int64), r = (.inl (some (iv v3)), mkH B s1 l2) ∧ a_W (d - 1) 24 0 [.ref 1, .retAddr 0] [] (mkH B s1 l2) (fun r => ∃ (s4 : Nat → Nat → Int32) (l5 : Nat → Nat → Int64), r = (.inl none, mkH B s4 l5) ∧ (inR v3 ∧ ((v3 < 0 → a_W (d - 1) 91 0 [.ref 17, iv 1, iv 1, .retAddr 0] [] (mkH B (zu s4 36 6 1) l5) (fun r => ∃ (v10 : Int) (s8 : Nat → Nat → Int32) (l9 : Nat → Nat → Int64), r = (.inl (some (iv v10)), mkH B s8 l9) ∧ Q (.inl (some (iv v10)), (mkH B s8 l9)))) ∧ (0 ≤ v3 → a_W (d - 1) 70 0 [.ref 9, iv v3] [] (mkH B s4 l5) (fun r => ∃ (v13 : Int) (s11 : Nat → Nat → Int32) (l12 : Nat → Nat → Int64), r = (.inl (some (iv v13)), mkH B s11 l12) ∧ (inR v13 ∧ ((v13 ≠ 0 → a_W (d - 1) 91 0 [.ref 17, iv 1, iv 1, .retAddr 0] [] (mkH B (zu s11 36 6 1) l12) (fun r => ∃ (v18 : Int) (s16 : Nat → Nat → Int32) (l17 : Nat → Nat → Int64), r = (.inl (some (iv v18)), mkH B s16 l17) ∧ Q (.inl (some (iv v18)), (mkH B s16 l17)))) ∧ (v13 = 0 → a_W (d - 1) 64 0 [.ref 17, iv v3, iv (-1), iv (-1), .retAddr 0] [] (mkH B s11 l12) (fun r => ∃ (v21 : Int) (s19 : Nat → Nat → Int32) (l20 : Nat → Nat → Int64), r = (.inl (some (iv v21)), mkH B s19 l20) ∧ Q (.inl (some (iv v21)), (mkH B s19 l20))))))))))))) : a_W d 69 0 [.ref 36, .retAddr 0] [] (mkH B s l) Q := by
  refine w_aln (p := 1) (q69 0) rfl rfl ?_
  refine w_gR (p := 4) (j := 1) (v := 9) (q69 1) rfl (r36 hB) (by decide) (f36_1 hB) ?_
  refine w_gR (p := 7) (j := 0) (v := 10) (q69 4) rfl (r9 hB) (by decide) (f9_0 hB) ?_
  refine w_aln (p := 8) (q69 7) rfl rfl ?_
  refine w_gR (p := 11) (j := 0) (v := 1) (q69 8) rfl (r36 hB) (by decide) (f36_0 hB) ?_
  refine w_gR (p := 14) (j := 0) (v := 2) (q69 11) rfl (r1 hB) (by decide) (f1_0 hB) ?_
  refine w_aln (p := 15) (q69 14) rfl rfl ?_
  refine w_gR (p := 18) (j := 0) (v := 1) (q69 15) rfl (r36 hB) (by decide) (f36_0 hB) ?_
  refine w_gI (p := 21) (j := 7) (v := (zz s 1 7)) (q69 18) rfl (r1 hB) (by decide) (iv_zz s 1 7) ?_
  refine w_aln (p := 22) (q69 21) rfl rfl ?_
  refine w_gR (p := 25) (j := 0) (v := 1) (q69 22) rfl (r36 hB) (by decide) (f36_0 hB) ?_
  refine w_gI (p := 28) (j := 8) (v := (zz s 1 8)) (q69 25) rfl (r1 hB) (by decide) (iv_zz s 1 8) ?_
  refine w_call (st := []) (as := [.ref 10, .ref 2, iv (zz s 1 7), iv (zz s 1 8)]) (as' := [iv (zz s 1 8), iv (zz s 1 7), .ref 2, .ref 10]) (p := 31) (q69 28) rfl m39 (by decide) (a_ok_i rfl (r10 hB) rfl) rfl rfl (Nat.le_of_ble_eq_true rfl) (by omega) rfl rfl (a_W.imp w ?_)
  rintro _ ⟨v3, s1, l2, rfl, w⟩
  refine ⟨some (iv v3), _, rfl, ?_⟩
  show a_W _ 69 31 [.ref 36, .retAddr 0] [iv v3] (mkH B s1 l2) _
  refine w_isn (p := 32) (ls' := [.ref 36, iv v3]) (q69 31) rfl (Nat.le_of_ble_eq_true rfl) rfl ?_
  refine w_aln (p := 33) (q69 32) rfl rfl ?_
  refine w_gR (p := 36) (j := 0) (v := 1) (q69 33) rfl (r36 hB) (by decide) (f36_0 hB) ?_
  refine w_call (st := []) (as := [.ref 1]) (as' := [.ref 1]) (p := 39) (q69 36) rfl m24 (by decide) (a_ok_i rfl (r1 hB) rfl) rfl rfl (Nat.le_of_ble_eq_true rfl) (by omega) rfl rfl (a_W.imp w ?_)
  rintro _ ⟨s4, l5, rfl, w⟩
  refine ⟨none, _, rfl, ?_⟩
  show a_W _ 69 39 [.ref 36, iv v3] [] (mkH B s4 l5) _
  refine w_iln (p := 40) (q69 39) rfl rfl ?_
  obtain ⟨h6, w⟩ := w
  by_cases c7 : v3 < 0
  · replace w := w.1 c7
    refine w_i1t (q69 40) h6 c7 ?_
    refine w_aln (p := 66) (q69 65) rfl rfl ?_
    refine w_ic (p := 67) (q69 66) rfl ?_
    refine w_pI (p := 70) (j := 6) (q69 67) rfl (r36 hB) (by decide) rfl ?_
    refine w_aln (p := 71) (q69 70) rfl rfl ?_
    refine w_gR (p := 74) (j := 2) (v := 17) (q69 71) rfl (r36 hB) (by decide) (f36_2 hB) ?_
    refine w_ic (p := 75) (q69 74) rfl ?_
    refine w_ic (p := 76) (q69 75) rfl ?_
    refine w_call (st := []) (as := [.ref 17, iv 1, iv 1]) (as' := [iv 1, iv 1, .ref 17]) (p := 79) (q69 76) rfl m91 (by decide) (a_ok_i rfl (r17 hB) rfl) rfl rfl (Nat.le_of_ble_eq_true rfl) (by omega) rfl rfl (a_W.imp w ?_)
    rintro _ ⟨v10, s8, l9, rfl, w⟩
    refine ⟨some (iv v10), _, rfl, ?_⟩
    show a_W _ 69 79 [.ref 36, iv v3] [iv v10] (mkH B s8 l9) _
    exact w_ret (q69 79) rfl w
  · replace w := w.2 (Int.not_lt.mp c7)
    refine w_i1f (p := 43) (q69 40) rfl h6 c7 ?_
    refine w_aln (p := 44) (q69 43) rfl rfl ?_
    refine w_gR (p := 47) (j := 1) (v := 9) (q69 44) rfl (r36 hB) (by decide) (f36_1 hB) ?_
    refine w_iln (p := 48) (q69 47) rfl rfl ?_
    refine w_call (st := []) (as := [.ref 9, iv v3]) (as' := [iv v3, .ref 9]) (p := 51) (q69 48) rfl m70 (by decide) (a_ok_i rfl (r9 hB) rfl) rfl rfl (Nat.le_of_ble_eq_true rfl) (by omega) rfl rfl (a_W.imp w ?_)
    rintro _ ⟨v13, s11, l12, rfl, w⟩
    refine ⟨some (iv v13), _, rfl, ?_⟩
    show a_W _ 69 51 [.ref 36, iv v3] [iv v13] (mkH B s11 l12) _
    obtain ⟨h14, w⟩ := w
    by_cases c15 : v13 ≠ 0
    · replace w := w.1 c15
      refine w_i1t (q69 51) h14 c15 ?_
      refine w_aln (p := 66) (q69 65) rfl rfl ?_
      refine w_ic (p := 67) (q69 66) rfl ?_
      refine w_pI (p := 70) (j := 6) (q69 67) rfl (r36 hB) (by decide) rfl ?_
      refine w_aln (p := 71) (q69 70) rfl rfl ?_
      refine w_gR (p := 74) (j := 2) (v := 17) (q69 71) rfl (r36 hB) (by decide) (f36_2 hB) ?_
      refine w_ic (p := 75) (q69 74) rfl ?_
      refine w_ic (p := 76) (q69 75) rfl ?_
      refine w_call (st := []) (as := [.ref 17, iv 1, iv 1]) (as' := [iv 1, iv 1, .ref 17]) (p := 79) (q69 76) rfl m91 (by decide) (a_ok_i rfl (r17 hB) rfl) rfl rfl (Nat.le_of_ble_eq_true rfl) (by omega) rfl rfl (a_W.imp w ?_)
      rintro _ ⟨v18, s16, l17, rfl, w⟩
      refine ⟨some (iv v18), _, rfl, ?_⟩
      show a_W _ 69 79 [.ref 36, iv v3] [iv v18] (mkH B s16 l17) _
      exact w_ret (q69 79) rfl w
    · replace w := w.2 (Decidable.not_not.mp c15)
      refine w_i1f (p := 54) (q69 51) rfl h14 c15 ?_
      refine w_aln (p := 55) (q69 54) rfl rfl ?_
      refine w_gR (p := 58) (j := 2) (v := 17) (q69 55) rfl (r36 hB) (by decide) (f36_2 hB) ?_
      refine w_iln (p := 59) (q69 58) rfl rfl ?_
      refine w_ic (p := 60) (q69 59) rfl ?_
      refine w_ic (p := 61) (q69 60) rfl ?_
      refine w_call (st := []) (as := [.ref 17, iv v3, iv (-1), iv (-1)]) (as' := [iv (-1), iv (-1), iv v3, .ref 17]) (p := 64) (q69 61) rfl m64 (by decide) (a_ok_i rfl (r17 hB) rfl) rfl rfl (Nat.le_of_ble_eq_true rfl) (by omega) rfl rfl (a_W.imp w ?_)
      rintro _ ⟨v21, s19, l20, rfl, w⟩
      refine ⟨some (iv v21), _, rfl, ?_⟩
      show a_W _ 69 64 [.ref 36, iv v3] [iv v21] (mkH B s19 l20) _
      exact w_ret (q69 64) rfl w
theorem w70_0 {d : Nat} {B : aH} {Q : aR → Prop} (hB : a_Can B) (x1 : Int) (s : Nat → Nat → Int32) (l : Nat → Nat → Int64) (w : (inR x1 ∧ ((x1 < 0 → Q (.inl (some (iv 0)), (mkH B s l))) ∧ (0 ≤ x1 → ((34 ≤ x1 → Q (.inl (some (iv 0)), (mkH B s l))) ∧ (x1 < 34 → ((0 ≤ x1 ∧ x1 < 34) ∧ Q (.inl (some (iv (zz s 16 x1.toNat))), (mkH B s l))))))))) : a_W d 70 0 [.ref 9, iv x1] [] (mkH B s l) Q := by
  refine w_iln (p := 1) (q70 0) rfl rfl ?_
  obtain ⟨h1, w⟩ := w
  by_cases c2 : x1 < 0
  · replace w := w.1 c2
    refine w_i1t (q70 1) h1 c2 ?_
    refine w_ic (p := 23) (q70 22) rfl ?_
    exact w_ret (q70 23) rfl w
  · replace w := w.2 (Int.not_lt.mp c2)
    refine w_i1f (p := 4) (q70 1) rfl h1 c2 ?_
    refine w_iln (p := 5) (q70 4) rfl rfl ?_
    refine w_aln (p := 6) (q70 5) rfl rfl ?_
    refine w_gR (p := 9) (j := 1) (v := 16) (q70 6) rfl (r9 hB) (by decide) (f9_1 hB) ?_
    refine w_len (p := 10) (q70 9) rfl (r16 hB) (by decide) ?_
    by_cases c3 : 34 ≤ x1
    · replace w := w.1 c3
      refine w_i2t (q70 10) h1 (by decide) c3 ?_
      refine w_ic (p := 23) (q70 22) rfl ?_
      exact w_ret (q70 23) rfl w
    · replace w := w.2 (Int.not_le.mp c3)
      refine w_i2f (p := 13) (q70 10) rfl h1 (by decide) c3 ?_
      refine w_aln (p := 14) (q70 13) rfl rfl ?_
      refine w_gR (p := 17) (j := 1) (v := 16) (q70 14) rfl (r9 hB) (by decide) (f9_1 hB) ?_
      refine w_iln (p := 18) (q70 17) rfl rfl ?_
      obtain ⟨o4, w⟩ := w
      refine w_ia (p := 19) (v := (zz s 16 x1.toNat)) (q70 18) rfl (r16 hB) (by decide) o4 (iv_zz s 16 x1.toNat) ?_
      refine w_goto (q70 19) ?_
      exact w_ret (q70 23) rfl w
theorem w71_0 {d : Nat} {B : aH} {Q : aR → Prop} (hB : a_Can B) (hd : 1 ≤ d) (x1 : Int) (s : Nat → Nat → Int32) (l : Nat → Nat → Int64) (w : (((zz s 1 6) ≠ 4 → (((zz s 1 6) ≠ 2 → a_W (d - 1) 63 0 [.ref 1, iv 2] [] (mkH B s l) (fun r => ∃ (s3 : Nat → Nat → Int32) (l4 : Nat → Nat → Int64), r = (.inl none, mkH B s3 l4) ∧ Q (.inl (some (iv 0)), (mkH B s3 l4)))) ∧ ((zz s 1 6) = 2 → a_W (d - 1) 64 0 [.ref 17, iv ((-1000) - (zz s 1 9)), iv (-1), iv (-1), .retAddr 0] [] (mkH B s l) (fun r => ∃ (v7 : Int) (s5 : Nat → Nat → Int32) (l6 : Nat → Nat → Int64), r = (.inl (some (iv v7)), mkH B s5 l6) ∧ a_W (d - 1) 63 0 [.ref 1, iv 2] [] (mkH B s5 l6) (fun r => ∃ (s8 : Nat → Nat → Int32) (l9 : Nat → Nat → Int64), r = (.inl none, mkH B s8 l9) ∧ Q (.inl (some (iv v7)), (mkH B s8 l9))))))) ∧ ((zz s 1 6) = 4 → a_W (d - 1) 72 0 [.ref 36, iv x1, .retAddr 0] [] (mkH B s l) (fun r => ∃ (v12 : Int) (s10 : Nat → Nat → Int32) (l11 : Nat → Nat → Int64), r = (.inl (some (iv v12)), mkH B s10 l11) ∧ Q (.inl (some (iv v12)), (mkH B s10 l11)))))) : a_W d 71 0 [.ref 36, iv x1, .retAddr 0] [] (mkH B s l) Q := by
  refine w_aln (p := 1) (q71 0) rfl rfl ?_
  refine w_gR (p := 4) (j := 0) (v := 1) (q71 1) rfl (r36 hB) (by decide) (f36_0 hB) ?_
  refine w_gI (p := 7) (j := 6) (v := (zz s 1 6)) (q71 4) rfl (r1 hB) (by decide) (iv_zz s 1 6) ?_
  refine w_ic (p := 8) (q71 7) rfl ?_
  by_cases c1 : (zz s 1 6) ≠ 4
  · replace w := w.1 c1
    refine w_i2t (q71 8) (inR_zz _ _ _) (by decide) c1 ?_
    refine w_aln (p := 18) (q71 17) rfl rfl ?_
    refine w_gR (p := 21) (j := 0) (v := 1) (q71 18) rfl (r36 hB) (by decide) (f36_0 hB) ?_
    refine w_gI (p := 24) (j := 6) (v := (zz s 1 6)) (q71 21) rfl (r1 hB) (by decide) (iv_zz s 1 6) ?_
    refine w_ic (p := 25) (q71 24) rfl ?_
    by_cases c2 : (zz s 1 6) ≠ 2
    · replace w := w.1 c2
      refine w_i2t (q71 25) (inR_zz _ _ _) (by decide) c2 ?_
      refine w_ic (p := 52) (q71 51) rfl ?_
      refine w_isn (p := 53) (ls' := [.ref 36, iv x1, iv 0]) (q71 52) rfl (Nat.le_of_ble_eq_true rfl) rfl ?_
      refine w_aln (p := 54) (q71 53) rfl rfl ?_
      refine w_gR (p := 57) (j := 0) (v := 1) (q71 54) rfl (r36 hB) (by decide) (f36_0 hB) ?_
      refine w_ic (p := 58) (q71 57) rfl ?_
      refine w_call (st := []) (as := [.ref 1, iv 2]) (as' := [iv 2, .ref 1]) (p := 61) (q71 58) rfl m63 (by decide) (a_ok_i rfl (r1 hB) rfl) rfl rfl (Nat.le_of_ble_eq_true rfl) (by omega) rfl rfl (a_W.imp w ?_)
      rintro _ ⟨s3, l4, rfl, w⟩
      refine ⟨none, _, rfl, ?_⟩
      show a_W _ 71 61 [.ref 36, iv x1, iv 0] [] (mkH B s3 l4) _
      refine w_iln (p := 62) (q71 61) rfl rfl ?_
      exact w_ret (q71 62) rfl w
    · replace w := w.2 (Decidable.not_not.mp c2)
      refine w_i2f (p := 28) (q71 25) rfl (inR_zz _ _ _) (by decide) c2 ?_
      refine w_aln (p := 29) (q71 28) rfl rfl ?_
      refine w_gR (p := 32) (j := 2) (v := 17) (q71 29) rfl (r36 hB) (by decide) (f36_2 hB) ?_
      refine w_sp (p := 35) (q71 32) rfl (by decide) ?_
      refine w_aln (p := 36) (q71 35) rfl rfl ?_
      refine w_gR (p := 39) (j := 0) (v := 1) (q71 36) rfl (r36 hB) (by decide) (f36_0 hB) ?_
      refine w_gI (p := 42) (j := 9) (v := (zz s 1 9)) (q71 39) rfl (r1 hB) (by decide) (iv_zz s 1 9) ?_
      refine w_sub (p := 43) (q71 42) rfl ?_
      refine w_ic (p := 44) (q71 43) rfl ?_
      refine w_ic (p := 45) (q71 44) rfl ?_
      refine w_call (st := []) (as := [.ref 17, iv ((-1000) - (zz s 1 9)), iv (-1), iv (-1)]) (as' := [iv (-1), iv (-1), iv ((-1000) - (zz s 1 9)), .ref 17]) (p := 48) (q71 45) rfl m64 (by decide) (a_ok_i rfl (r17 hB) rfl) rfl rfl (Nat.le_of_ble_eq_true rfl) (by omega) rfl rfl (a_W.imp w ?_)
      rintro _ ⟨v7, s5, l6, rfl, w⟩
      refine ⟨some (iv v7), _, rfl, ?_⟩
      show a_W _ 71 48 [.ref 36, iv x1, .retAddr 0] [iv v7] (mkH B s5 l6) _
      refine w_goto (q71 48) ?_
      refine w_isn (p := 53) (ls' := [.ref 36, iv x1, iv v7]) (q71 52) rfl (Nat.le_of_ble_eq_true rfl) rfl ?_
      refine w_aln (p := 54) (q71 53) rfl rfl ?_
      refine w_gR (p := 57) (j := 0) (v := 1) (q71 54) rfl (r36 hB) (by decide) (f36_0 hB) ?_
      refine w_ic (p := 58) (q71 57) rfl ?_
      refine w_call (st := []) (as := [.ref 1, iv 2]) (as' := [iv 2, .ref 1]) (p := 61) (q71 58) rfl m63 (by decide) (a_ok_i rfl (r1 hB) rfl) rfl rfl (Nat.le_of_ble_eq_true rfl) (by omega) rfl rfl (a_W.imp w ?_)
      rintro _ ⟨s8, l9, rfl, w⟩
      refine ⟨none, _, rfl, ?_⟩
      show a_W _ 71 61 [.ref 36, iv x1, iv v7] [] (mkH B s8 l9) _
      refine w_iln (p := 62) (q71 61) rfl rfl ?_
      exact w_ret (q71 62) rfl w
  · replace w := w.2 (Decidable.not_not.mp c1)
    refine w_i2f (p := 11) (q71 8) rfl (inR_zz _ _ _) (by decide) c1 ?_
    refine w_aln (p := 12) (q71 11) rfl rfl ?_
    refine w_iln (p := 13) (q71 12) rfl rfl ?_
    refine w_call (st := []) (as := [.ref 36, iv x1]) (as' := [iv x1, .ref 36]) (p := 16) (q71 13) rfl m72 (by decide) (a_ok_i rfl (r36 hB) rfl) rfl rfl (Nat.le_of_ble_eq_true rfl) (by omega) rfl rfl (a_W.imp w ?_)
    rintro _ ⟨v12, s10, l11, rfl, w⟩
    refine ⟨some (iv v12), _, rfl, ?_⟩
    show a_W _ 71 16 [.ref 36, iv x1, .retAddr 0] [iv v12] (mkH B s10 l11) _
    exact w_ret (q71 16) rfl w
theorem w72_0 {d : Nat} {B : aH} {Q : aR → Prop} (hB : a_Can B) (hd : 1 ≤ d) (x1 : Int) (s : Nat → Nat → Int32) (l : Nat → Nat → Int64) (w : a_W (d - 1) 24 0 [.ref 1, .retAddr 0] [] (mkH B s l) (fun r => ∃ (s1 : Nat → Nat → Int32) (l2 : Nat → Nat → Int64), r = (.inl none, mkH B s1 l2) ∧ a_W (d - 1) 61 0 [.ref 1, iv x1] [] (mkH B s1 l2) (fun r => ∃ (v5 : Int) (s3 : Nat → Nat → Int32) (l4 : Nat → Nat → Int64), r = (.inl (some (iv v5)), mkH B s3 l4) ∧ (inR v5 ∧ ((v5 = 0 → a_W (d - 1) 65 0 [.ref 36, iv (x1 + 1), .retAddr 0, .retAddr 0, .retAddr 0] [] (mkH B s3 l4) (fun r => ∃ (v10 : Int) (s8 : Nat → Nat → Int32) (l9 : Nat → Nat → Int64), r = (.inl (some (iv v10)), mkH B s8 l9) ∧ a_W (d - 1) 63 0 [.ref 1, iv 5] [] (mkH B s8 l9) (fun r => ∃ (s11 : Nat → Nat → Int32) (l12 : Nat → Nat → Int64), r = (.inl none, mkH B s11 l12) ∧ Q (.inl (some (iv v10)), (mkH B s11 l12))))) ∧ (v5 ≠ 0 → Q (.inl (some (iv 0)), (mkH B s3 l4)))))))) : a_W d 72 0 [.ref 36, iv x1, .retAddr 0] [] (mkH B s l) Q := by
  refine w_aln (p := 1) (q72 0) rfl rfl ?_
  refine w_gR (p := 4) (j := 0) (v := 1) (q72 1) rfl (r36 hB) (by decide) (f36_0 hB) ?_
  refine w_call (st := []) (as := [.ref 1]) (as' := [.ref 1]) (p := 7) (q72 4) rfl m24 (by decide) (a_ok_i rfl (r1 hB) rfl) rfl rfl (Nat.le_of_ble_eq_true rfl) (by omega) rfl rfl (a_W.imp w ?_)
  rintro _ ⟨s1, l2, rfl, w⟩
  refine ⟨none, _, rfl, ?_⟩
  show a_W _ 72 7 [.ref 36, iv x1, .retAddr 0] [] (mkH B s1 l2) _
  refine w_aln (p := 8) (q72 7) rfl rfl ?_
  refine w_gR (p := 11) (j := 0) (v := 1) (q72 8) rfl (r36 hB) (by decide) (f36_0 hB) ?_
  refine w_iln (p := 12) (q72 11) rfl rfl ?_
  refine w_call (st := []) (as := [.ref 1, iv x1]) (as' := [iv x1, .ref 1]) (p := 15) (q72 12) rfl m61 (by decide) (a_ok_i rfl (r1 hB) rfl) rfl rfl (Nat.le_of_ble_eq_true rfl) (by omega) rfl rfl (a_W.imp w ?_)
  rintro _ ⟨v5, s3, l4, rfl, w⟩
  refine ⟨some (iv v5), _, rfl, ?_⟩
  show a_W _ 72 15 [.ref 36, iv x1, .retAddr 0] [iv v5] (mkH B s3 l4) _
  obtain ⟨h6, w⟩ := w
  by_cases c7 : v5 = 0
  · replace w := w.1 c7
    refine w_i1t (q72 15) h6 c7 ?_
    refine w_aln (p := 21) (q72 20) rfl rfl ?_
    refine w_iln (p := 22) (q72 21) rfl rfl ?_
    refine w_ic (p := 23) (q72 22) rfl ?_
    refine w_add (p := 24) (q72 23) rfl ?_
    refine w_call (st := []) (as := [.ref 36, iv (x1 + 1)]) (as' := [iv (x1 + 1), .ref 36]) (p := 27) (q72 24) rfl m65 (by decide) (a_ok_i rfl (r36 hB) rfl) rfl rfl (Nat.le_of_ble_eq_true rfl) (by omega) rfl rfl (a_W.imp w ?_)
    rintro _ ⟨v10, s8, l9, rfl, w⟩
    refine ⟨some (iv v10), _, rfl, ?_⟩
    show a_W _ 72 27 [.ref 36, iv x1, .retAddr 0] [iv v10] (mkH B s8 l9) _
    refine w_isn (p := 28) (ls' := [.ref 36, iv x1, iv v10]) (q72 27) rfl (Nat.le_of_ble_eq_true rfl) rfl ?_
    refine w_aln (p := 29) (q72 28) rfl rfl ?_
    refine w_gR (p := 32) (j := 0) (v := 1) (q72 29) rfl (r36 hB) (by decide) (f36_0 hB) ?_
    refine w_ic (p := 33) (q72 32) rfl ?_
    refine w_call (st := []) (as := [.ref 1, iv 5]) (as' := [iv 5, .ref 1]) (p := 36) (q72 33) rfl m63 (by decide) (a_ok_i rfl (r1 hB) rfl) rfl rfl (Nat.le_of_ble_eq_true rfl) (by omega) rfl rfl (a_W.imp w ?_)
    rintro _ ⟨s11, l12, rfl, w⟩
    refine ⟨none, _, rfl, ?_⟩
    show a_W _ 72 36 [.ref 36, iv x1, iv v10] [] (mkH B s11 l12) _
    refine w_iln (p := 37) (q72 36) rfl rfl ?_
    exact w_ret (q72 37) rfl w
  · replace w := w.2 c7
    refine w_i1f (p := 18) (q72 15) rfl h6 c7 ?_
    refine w_ic (p := 19) (q72 18) rfl ?_
    exact w_ret (q72 19) rfl w
