/-! printed by wip/am/mkcj.py: the call term of the reader -/
theorem w107_0 {d : Nat} {B : aH} {Q : aR → Prop} (hB : a_Can B) (hd : 1 ≤ d) (x1 : Int) (s : Nat → Nat → Int32) (l : Nat → Nat → Int64) (w : a_W (d - 1) 108 0 [.ref 45, iv x1] [] (mkH B s l) (fun r => ∃ (v3 : Int) (s1 : Nat → Nat → Int32) (l2 : Nat → Nat → Int64), r = (.inl (some (iv v3)), mkH B s1 l2) ∧ (inR v3 ∧ ((v3 ≠ 0 → a_W d 107 31 [.ref 38, iv x1] [] (mkH B s1 l2) Q) ∧ (v3 = 0 → (((zz s1 36 5) ≠ 0 → a_W d 107 31 [.ref 38, iv x1] [] (mkH B s1 l2) Q) ∧ ((zz s1 36 5) = 0 → (((zz s1 17 11) = 0 → (((zz s1 38 9) = 0 → (((zz s1 36 6) ≠ 0 → a_W d 107 73 [.ref 38, iv x1] [] (mkH B s1 l2) Q) ∧ ((zz s1 36 6) = 0 → (((zz s1 17 10) ≠ 0 → a_W d 107 73 [.ref 38, iv x1] [] (mkH B s1 l2) Q) ∧ ((zz s1 17 10) = 0 → a_W (d - 1) 109 0 [.ref 17, .retAddr 0, .retAddr 0] [] (mkH B s1 l2) (fun r => ∃ (v13 : Int) (s11 : Nat → Nat → Int32) (l12 : Nat → Nat → Int64), r = (.inl (some (iv v13)), mkH B s11 l12) ∧ (inR v13 ∧ ((v13 ≠ 0 → a_W (d - 1) 112 0 [.ref 45, .retAddr 0] [] (mkH B s11 l12) (fun r => ∃ (v18 : Int) (s16 : Nat → Nat → Int32) (l17 : Nat → Nat → Int64), r = (.inl (some (iv v18)), mkH B s16 l17) ∧ (inR v18 ∧ ((v18 = 0 → Q (.inl (some (iv 0)), (mkH B s16 l17))) ∧ (v18 ≠ 0 → Q (.inl (some (iv 8)), (mkH B s16 l17))))))) ∧ (v13 = 0 → a_W d 107 73 [.ref 38, iv x1] [] (mkH B s11 l12) Q))))))))) ∧ ((zz s1 38 9) ≠ 0 → Q (.inl (some (iv 4)), (mkH B s1 l2))))) ∧ ((zz s1 17 11) ≠ 0 → a_W d 107 31 [.ref 38, iv x1] [] (mkH B s1 l2) Q))))))))) : a_W d 107 0 [.ref 38, iv x1] [] (mkH B s l) Q := by
  refine w_aln (p := 1) (q107 0) rfl rfl ?_
  refine w_gR (p := 4) (j := 5) (v := 45) (q107 1) rfl (r38 hB) (by decide) (f38_5 hB) ?_
  refine w_iln (p := 5) (q107 4) rfl rfl ?_
  refine w_call (st := []) (as := [.ref 45, iv x1]) (as' := [iv x1, .ref 45]) (p := 8) (q107 5) rfl m108 (by decide) (a_ok_i rfl (r45 hB) rfl) rfl rfl (Nat.le_of_ble_eq_true rfl) (by omega) rfl rfl (a_W.imp w ?_)
  rintro _ ⟨v3, s1, l2, rfl, w⟩
  refine ⟨some (iv v3), _, rfl, ?_⟩
  show a_W _ 107 8 [.ref 38, iv x1] [iv v3] (mkH B s1 l2) _
  obtain ⟨h4, w⟩ := w
  by_cases c5 : v3 ≠ 0
  · replace w := w.1 c5
    refine w_i1t (q107 8) h4 c5 ?_
    exact w
  · replace w := w.2 (Decidable.not_not.mp c5)
    refine w_i1f (p := 11) (q107 8) rfl h4 c5 ?_
    refine w_aln (p := 12) (q107 11) rfl rfl ?_
    refine w_gR (p := 15) (j := 3) (v := 36) (q107 12) rfl (r38 hB) (by decide) (f38_3 hB) ?_
    refine w_gI (p := 18) (j := 5) (v := (zz s1 36 5)) (q107 15) rfl (r36 hB) (by decide) (iv_zz s1 36 5) ?_
    by_cases c6 : (zz s1 36 5) ≠ 0
    · replace w := w.1 c6
      refine w_i1t (q107 18) (inR_zz _ _ _) c6 ?_
      exact w
    · replace w := w.2 (Decidable.not_not.mp c6)
      refine w_i1f (p := 21) (q107 18) rfl (inR_zz _ _ _) c6 ?_
      refine w_aln (p := 22) (q107 21) rfl rfl ?_
      refine w_gR (p := 25) (j := 2) (v := 17) (q107 22) rfl (r38 hB) (by decide) (f38_2 hB) ?_
      refine w_gI (p := 28) (j := 11) (v := (zz s1 17 11)) (q107 25) rfl (r17 hB) (by decide) (iv_zz s1 17 11) ?_
      by_cases c7 : (zz s1 17 11) = 0
      · replace w := w.1 c7
        refine w_i1t (q107 28) (inR_zz _ _ _) c7 ?_
        refine w_aln (p := 35) (q107 34) rfl rfl ?_
        refine w_gI (p := 38) (j := 9) (v := (zz s1 38 9)) (q107 35) rfl (r38 hB) (by decide) (iv_zz s1 38 9) ?_
        by_cases c8 : (zz s1 38 9) = 0
        · replace w := w.1 c8
          refine w_i1t (q107 38) (inR_zz _ _ _) c8 ?_
          refine w_aln (p := 44) (q107 43) rfl rfl ?_
          refine w_gR (p := 47) (j := 3) (v := 36) (q107 44) rfl (r38 hB) (by decide) (f38_3 hB) ?_
          refine w_gI (p := 50) (j := 6) (v := (zz s1 36 6)) (q107 47) rfl (r36 hB) (by decide) (iv_zz s1 36 6) ?_
          by_cases c9 : (zz s1 36 6) ≠ 0
          · replace w := w.1 c9
            refine w_i1t (q107 50) (inR_zz _ _ _) c9 ?_
            exact w
          · replace w := w.2 (Decidable.not_not.mp c9)
            refine w_i1f (p := 53) (q107 50) rfl (inR_zz _ _ _) c9 ?_
            refine w_aln (p := 54) (q107 53) rfl rfl ?_
            refine w_gR (p := 57) (j := 2) (v := 17) (q107 54) rfl (r38 hB) (by decide) (f38_2 hB) ?_
            refine w_gI (p := 60) (j := 10) (v := (zz s1 17 10)) (q107 57) rfl (r17 hB) (by decide) (iv_zz s1 17 10) ?_
            by_cases c10 : (zz s1 17 10) ≠ 0
            · replace w := w.1 c10
              refine w_i1t (q107 60) (inR_zz _ _ _) c10 ?_
              exact w
            · replace w := w.2 (Decidable.not_not.mp c10)
              refine w_i1f (p := 63) (q107 60) rfl (inR_zz _ _ _) c10 ?_
              refine w_aln (p := 64) (q107 63) rfl rfl ?_
              refine w_gR (p := 67) (j := 2) (v := 17) (q107 64) rfl (r38 hB) (by decide) (f38_2 hB) ?_
              refine w_call (st := []) (as := [.ref 17]) (as' := [.ref 17]) (p := 70) (q107 67) rfl m109 (by decide) (a_ok_i rfl (r17 hB) rfl) rfl rfl (Nat.le_of_ble_eq_true rfl) (by omega) rfl rfl (a_W.imp w ?_)
              rintro _ ⟨v13, s11, l12, rfl, w⟩
              refine ⟨some (iv v13), _, rfl, ?_⟩
              show a_W _ 107 70 [.ref 38, iv x1] [iv v13] (mkH B s11 l12) _
              obtain ⟨h14, w⟩ := w
              by_cases c15 : v13 ≠ 0
              · replace w := w.1 c15
                refine w_i1t (q107 70) h14 c15 ?_
                refine w_aln (p := 76) (q107 75) rfl rfl ?_
                refine w_gR (p := 79) (j := 5) (v := 45) (q107 76) rfl (r38 hB) (by decide) (f38_5 hB) ?_
                refine w_call (st := []) (as := [.ref 45]) (as' := [.ref 45]) (p := 82) (q107 79) rfl m112 (by decide) (a_ok_i rfl (r45 hB) rfl) rfl rfl (Nat.le_of_ble_eq_true rfl) (by omega) rfl rfl (a_W.imp w ?_)
                rintro _ ⟨v18, s16, l17, rfl, w⟩
                refine ⟨some (iv v18), _, rfl, ?_⟩
                show a_W _ 107 82 [.ref 38, iv x1] [iv v18] (mkH B s16 l17) _
                obtain ⟨h19, w⟩ := w
                by_cases c20 : v18 = 0
                · replace w := w.1 c20
                  refine w_i1t (q107 82) h19 c20 ?_
                  refine w_ic (p := 91) (q107 90) rfl ?_
                  exact w_ret (q107 91) rfl w
                · replace w := w.2 c20
                  refine w_i1f (p := 85) (q107 82) rfl h19 c20 ?_
                  refine w_bp (p := 87) (q107 85) rfl (by decide) ?_
                  refine w_goto (q107 87) ?_
                  exact w_ret (q107 91) rfl w
              · replace w := w.2 (Decidable.not_not.mp c15)
                refine w_i1f (p := 73) (q107 70) rfl h14 c15 ?_
                exact w
        · replace w := w.2 c8
          refine w_i1f (p := 41) (q107 38) rfl (inR_zz _ _ _) c8 ?_
          refine w_ic (p := 42) (q107 41) rfl ?_
          exact w_ret (q107 42) rfl w
      · replace w := w.2 c7
        refine w_i1f (p := 31) (q107 28) rfl (inR_zz _ _ _) c7 ?_
        exact w
theorem w107_31 {d : Nat} {B : aH} {Q : aR → Prop} (hB : a_Can B) (x1 : Int) (s : Nat → Nat → Int32) (l : Nat → Nat → Int64) (w : Q (.inl (some (iv 8)), (mkH B s l))) : a_W d 107 31 [.ref 38, iv x1] [] (mkH B s l) Q := by
  refine w_bp (p := 33) (q107 31) rfl (by decide) ?_
  exact w_ret (q107 33) rfl w
theorem w107_73 {d : Nat} {B : aH} {Q : aR → Prop} (hB : a_Can B) (x1 : Int) (s : Nat → Nat → Int32) (l : Nat → Nat → Int64) (w : Q (.inl (some (iv 3)), (mkH B s l))) : a_W d 107 73 [.ref 38, iv x1] [] (mkH B s l) Q := by
  refine w_ic (p := 74) (q107 73) rfl ?_
  exact w_ret (q107 74) rfl w
theorem w55_0 {d : Nat} {B : aH} {Q : aR → Prop} (hB : a_Can B) (hd : 1 ≤ d) (s : Nat → Nat → Int32) (l : Nat → Nat → Int64) (w : Q (.inl none, (mkH B (zu (zu (zu (zu (zu s 45 6 1) 45 7 0) 39 3 0) 38 8 0) 38 9 0) l))) : a_W d 55 0 [.ref 38] [] (mkH B s l) Q := by
  refine w_aln (p := 1) (q55 0) rfl rfl ?_
  refine w_gR (p := 4) (j := 5) (v := 45) (q55 1) rfl (r38 hB) (by decide) (f38_5 hB) ?_
  refine w_call (st := []) (as := [.ref 45]) (as' := [.ref 45]) (p := 7) (q55 4) rfl m56 (by decide) (a_ok_i rfl (r45 hB) rfl) rfl rfl (Nat.le_of_ble_eq_true rfl) (by omega) rfl rfl ?_
  refine w_aln (p := 1) (q56 0) rfl rfl ?_
  refine w_ic (p := 2) (q56 1) rfl ?_
  refine w_pI (p := 5) (j := 6) (q56 2) rfl (r45 hB) (by decide) rfl ?_
  refine w_aln (p := 6) (q56 5) rfl rfl ?_
  refine w_ic (p := 7) (q56 6) rfl ?_
  refine w_pI (p := 10) (j := 7) (q56 7) rfl (r45 hB) (by decide) rfl ?_
  refine w_rv (q56 10) rfl ⟨_, _, rfl, ?_⟩
  show a_W _ 55 7 [.ref 38] [] _ _
  refine w_aln (p := 8) (q55 7) rfl rfl ?_
  refine w_gR (p := 11) (j := 4) (v := 39) (q55 8) rfl (r38 hB) (by decide) (f38_4 hB) ?_
  refine w_ic (p := 12) (q55 11) rfl ?_
  refine w_pI (p := 15) (j := 3) (q55 12) rfl (r39 hB) (by decide) rfl ?_
  refine w_aln (p := 16) (q55 15) rfl rfl ?_
  refine w_ic (p := 17) (q55 16) rfl ?_
  refine w_pI (p := 20) (j := 8) (q55 17) rfl (r38 hB) (by decide) rfl ?_
  refine w_aln (p := 21) (q55 20) rfl rfl ?_
  refine w_ic (p := 22) (q55 21) rfl ?_
  refine w_pI (p := 25) (j := 9) (q55 22) rfl (r38 hB) (by decide) rfl ?_
  exact w_rv (q55 25) rfl w
theorem w21t_0 {d : Nat} {B : aH} {Q : aR → Prop} (hB : a_Can B) (hd : 1 ≤ d) (x1 : Int) (s : Nat → Nat → Int32) (l : Nat → Nat → Int64) (w : a_W (d - 1) 22 0 [.ref 1, iv x1] [] (mkH B s l) (fun r => ∃ (v3 : Int) (s1 : Nat → Nat → Int32) (l2 : Nat → Nat → Int64), r = (.inl (some (iv v3)), mkH B s1 l2) ∧ (inR v3 ∧ ((v3 ≠ 0 → a_W (d - 1) 23 0 [.ref 1, iv x1] [] (mkH B s1 l2) (fun r => ∃ (s6 : Nat → Nat → Int32) (l7 : Nat → Nat → Int64), r = (.inl none, mkH B s6 l7) ∧ a_W (d - 1) 46 0 [.ref 17] [] (mkH B s6 l7) (fun r => ∃ (s8 : Nat → Nat → Int32) (l9 : Nat → Nat → Int64), r = (.inl none, mkH B s8 l9) ∧ a_W (d - 1) 54 0 [.ref 36] [] (mkH B s8 l9) (fun r => ∃ (s10 : Nat → Nat → Int32) (l11 : Nat → Nat → Int64), r = (.inl none, mkH B s10 l11) ∧ a_W (d - 1) 55 0 [.ref 38] [] (mkH B s10 l11) (fun r => ∃ (s12 : Nat → Nat → Int32) (l13 : Nat → Nat → Int64), r = (.inl none, mkH B s12 l13) ∧ a_W (d - 1) 57 0 [.ref 38, iv 0, .retAddr 0, .retAddr 0, .retAddr 0, .retAddr 0] [] (mkH B s12 l13) (fun r => ∃ (v16 : Int) (s14 : Nat → Nat → Int32) (l15 : Nat → Nat → Int64), r = (.inl (some (iv v16)), mkH B s14 l15) ∧ a_W (d - 1) 106 0 [.ref 1] [] (mkH B s14 l15) (fun r => ∃ (s17 : Nat → Nat → Int32) (l18 : Nat → Nat → Int64), r = (.inl none, mkH B s17 l18) ∧ (((zz s17 1 10) ≠ 0 → a_W d 21 91 [.ref 0, iv x1, iv v16] [] (mkH B s17 l18) Q) ∧ ((zz s17 1 10) = 0 → a_W (d - 1) 107 0 [.ref 38, iv v16] [] (mkH B s17 l18) (fun r => ∃ (v22 : Int) (s20 : Nat → Nat → Int32) (l21 : Nat → Nat → Int64), r = (.inl (some (iv v22)), mkH B s20 l21) ∧ a_W (d - 1) 113 0 [.ref 1, iv v22] [] (mkH B s20 l21) (fun r => ∃ (s23 : Nat → Nat → Int32) (l24 : Nat → Nat → Int64), r = (.inl none, mkH B s23 l24) ∧ a_W d 21 91 [.ref 0, iv x1, iv v16] [] (mkH B s23 l24) Q))))))))))) ∧ (v3 = 0 → (B.1 + 1 < aSc ∧ Q (.inr 12, a_mk 12 6 (mkH B s1 l2)))))))) : a_W d 21 0 [.ref 0, iv x1, .retAddr 0] [] (mkH B s l) Q := by
  refine w_aln (p := 1) (q21 0) rfl rfl ?_
  refine w_gR (p := 4) (j := 0) (v := 1) (q21 1) rfl (r0 hB) (by decide) (f0_0 hB) ?_
  refine w_iln (p := 5) (q21 4) rfl rfl ?_
  refine w_call (st := []) (as := [.ref 1, iv x1]) (as' := [iv x1, .ref 1]) (p := 8) (q21 5) rfl m22 (by decide) (a_ok_i rfl (r1 hB) rfl) rfl rfl (Nat.le_of_ble_eq_true rfl) (by omega) rfl rfl (a_W.imp w ?_)
  rintro _ ⟨v3, s1, l2, rfl, w⟩
  refine ⟨some (iv v3), _, rfl, ?_⟩
  show a_W _ 21 8 [.ref 0, iv x1, .retAddr 0] [iv v3] (mkH B s1 l2) _
  obtain ⟨h4, w⟩ := w
  by_cases c5 : v3 ≠ 0
  · replace w := w.1 c5
    refine w_i1t (q21 8) h4 c5 ?_
    refine w_aln (p := 22) (q21 21) rfl rfl ?_
    refine w_gR (p := 25) (j := 0) (v := 1) (q21 22) rfl (r0 hB) (by decide) (f0_0 hB) ?_
    refine w_iln (p := 26) (q21 25) rfl rfl ?_
    refine w_call (st := []) (as := [.ref 1, iv x1]) (as' := [iv x1, .ref 1]) (p := 29) (q21 26) rfl m23 (by decide) (a_ok_i rfl (r1 hB) rfl) rfl rfl (Nat.le_of_ble_eq_true rfl) (by omega) rfl rfl (a_W.imp w ?_)
    rintro _ ⟨s6, l7, rfl, w⟩
    refine ⟨none, _, rfl, ?_⟩
    show a_W _ 21 29 [.ref 0, iv x1, .retAddr 0] [] (mkH B s6 l7) _
    refine w_aln (p := 30) (q21 29) rfl rfl ?_
    refine w_gR (p := 33) (j := 2) (v := 17) (q21 30) rfl (r0 hB) (by decide) (f0_2 hB) ?_
    refine w_call (st := []) (as := [.ref 17]) (as' := [.ref 17]) (p := 36) (q21 33) rfl m46 (by decide) (a_ok_i rfl (r17 hB) rfl) rfl rfl (Nat.le_of_ble_eq_true rfl) (by omega) rfl rfl (a_W.imp w ?_)
    rintro _ ⟨s8, l9, rfl, w⟩
    refine ⟨none, _, rfl, ?_⟩
    show a_W _ 21 36 [.ref 0, iv x1, .retAddr 0] [] (mkH B s8 l9) _
    refine w_aln (p := 37) (q21 36) rfl rfl ?_
    refine w_gR (p := 40) (j := 4) (v := 36) (q21 37) rfl (r0 hB) (by decide) (f0_4 hB) ?_
    refine w_call (st := []) (as := [.ref 36]) (as' := [.ref 36]) (p := 43) (q21 40) rfl m54 (by decide) (a_ok_i rfl (r36 hB) rfl) rfl rfl (Nat.le_of_ble_eq_true rfl) (by omega) rfl rfl (a_W.imp w ?_)
    rintro _ ⟨s10, l11, rfl, w⟩
    refine ⟨none, _, rfl, ?_⟩
    show a_W _ 21 43 [.ref 0, iv x1, .retAddr 0] [] (mkH B s10 l11) _
    refine w_aln (p := 44) (q21 43) rfl rfl ?_
    refine w_gR (p := 47) (j := 5) (v := 38) (q21 44) rfl (r0 hB) (by decide) (f0_5 hB) ?_
    refine w_call (st := []) (as := [.ref 38]) (as' := [.ref 38]) (p := 50) (q21 47) rfl m55 (by decide) (a_ok_i rfl (r38 hB) rfl) rfl rfl (Nat.le_of_ble_eq_true rfl) (by omega) rfl rfl (a_W.imp w ?_)
    rintro _ ⟨s12, l13, rfl, w⟩
    refine ⟨none, _, rfl, ?_⟩
    show a_W _ 21 50 [.ref 0, iv x1, .retAddr 0] [] (mkH B s12 l13) _
    refine w_aln (p := 51) (q21 50) rfl rfl ?_
    refine w_gR (p := 54) (j := 5) (v := 38) (q21 51) rfl (r0 hB) (by decide) (f0_5 hB) ?_
    refine w_ic (p := 55) (q21 54) rfl ?_
    refine w_call (st := []) (as := [.ref 38, iv 0]) (as' := [iv 0, .ref 38]) (p := 58) (q21 55) rfl m57 (by decide) (a_ok_i rfl (r38 hB) rfl) rfl rfl (Nat.le_of_ble_eq_true rfl) (by omega) rfl rfl (a_W.imp w ?_)
    rintro _ ⟨v16, s14, l15, rfl, w⟩
    refine ⟨some (iv v16), _, rfl, ?_⟩
    show a_W _ 21 58 [.ref 0, iv x1, .retAddr 0] [iv v16] (mkH B s14 l15) _
    refine w_isn (p := 59) (ls' := [.ref 0, iv x1, iv v16]) (q21 58) rfl (Nat.le_of_ble_eq_true rfl) rfl ?_
    refine w_aln (p := 60) (q21 59) rfl rfl ?_
    refine w_gR (p := 63) (j := 0) (v := 1) (q21 60) rfl (r0 hB) (by decide) (f0_0 hB) ?_
    refine w_call (st := []) (as := [.ref 1]) (as' := [.ref 1]) (p := 66) (q21 63) rfl m106 (by decide) (a_ok_i rfl (r1 hB) rfl) rfl rfl (Nat.le_of_ble_eq_true rfl) (by omega) rfl rfl (a_W.imp w ?_)
    rintro _ ⟨s17, l18, rfl, w⟩
    refine ⟨none, _, rfl, ?_⟩
    show a_W _ 21 66 [.ref 0, iv x1, iv v16] [] (mkH B s17 l18) _
    refine w_aln (p := 67) (q21 66) rfl rfl ?_
    refine w_gR (p := 70) (j := 0) (v := 1) (q21 67) rfl (r0 hB) (by decide) (f0_0 hB) ?_
    refine w_call (st := []) (as := [.ref 1]) (as' := [.ref 1]) (p := 73) (q21 70) rfl m25 (by decide) (a_ok_i rfl (r1 hB) rfl) rfl rfl (Nat.le_of_ble_eq_true rfl) (by omega) rfl rfl ?_
    refine w_aln (p := 1) (q25 0) rfl rfl ?_
    refine w_gI (p := 4) (j := 10) (v := (zz s17 1 10)) (q25 1) rfl (r1 hB) (by decide) (iv_zz s17 1 10) ?_
    by_cases c19 : (zz s17 1 10) ≠ 0
    · replace w := w.1 c19
      refine w_i1t (q25 4) (inR_zz _ _ _) c19 ?_
      refine w_ic (p := 12) (q25 11) rfl ?_
      refine w_ret (q25 12) rfl ⟨_, _, rfl, ?_⟩
      show a_W _ 21 73 [.ref 0, iv x1, iv v16] [iv 0] _ _
      refine w_i1t (q21 73) (by decide) (show zc _ _ _ by unfold zc; omega) ?_
      exact w
    · replace w := w.2 (Decidable.not_not.mp c19)
      refine w_i1f (p := 7) (q25 4) rfl (inR_zz _ _ _) c19 ?_
      refine w_ic (p := 8) (q25 7) rfl ?_
      refine w_goto (q25 8) ?_
      refine w_ret (q25 12) rfl ⟨_, _, rfl, ?_⟩
      show a_W _ 21 73 [.ref 0, iv x1, iv v16] [iv 1] _ _
      refine w_i1f (p := 76) (q21 73) rfl (by decide) (show ¬ zc _ _ _ by unfold zc; omega) ?_
      refine w_aln (p := 77) (q21 76) rfl rfl ?_
      refine w_gR (p := 80) (j := 0) (v := 1) (q21 77) rfl (r0 hB) (by decide) (f0_0 hB) ?_
      refine w_aln (p := 81) (q21 80) rfl rfl ?_
      refine w_gR (p := 84) (j := 5) (v := 38) (q21 81) rfl (r0 hB) (by decide) (f0_5 hB) ?_
      refine w_iln (p := 85) (q21 84) rfl rfl ?_
      refine w_call (st := [.ref 1]) (as := [.ref 38, iv v16]) (as' := [iv v16, .ref 38]) (p := 88) (q21 85) rfl m107 (by decide) (a_ok_i rfl (r38 hB) rfl) rfl rfl (Nat.le_of_ble_eq_true rfl) (by omega) rfl rfl (a_W.imp w ?_)
      rintro _ ⟨v22, s20, l21, rfl, w⟩
      refine ⟨some (iv v22), _, rfl, ?_⟩
      show a_W _ 21 88 [.ref 0, iv x1, iv v16] [iv v22, .ref 1] (mkH B s20 l21) _
      refine w_call (st := []) (as := [.ref 1, iv v22]) (as' := [iv v22, .ref 1]) (p := 91) (q21 88) rfl m113 (by decide) (a_ok_i rfl (r1 hB) rfl) rfl rfl (Nat.le_of_ble_eq_true rfl) (by omega) rfl rfl (a_W.imp w ?_)
      rintro _ ⟨s23, l24, rfl, w⟩
      refine ⟨none, _, rfl, ?_⟩
      show a_W _ 21 91 [.ref 0, iv x1, iv v16] [] (mkH B s23 l24) _
      exact w
  · replace w := w.2 (Decidable.not_not.mp c5)
    refine w_i1f (p := 11) (q21 8) rfl h4 c5 ?_
    exact w_thr (q21 11) w.1 rfl w.2
theorem w21t_91 {d : Nat} {B : aH} {Q : aR → Prop} (hB : a_Can B) (hd : 1 ≤ d) (x1 x2 : Int) (s : Nat → Nat → Int32) (l : Nat → Nat → Int64) (w : (((zz s 1 10) ≠ 0 → Q (.inl (some (iv (-1))), (mkH B s l))) ∧ ((zz s 1 10) = 0 → a_W (d - 1) 114 0 [.ref 51, .ref 45, iv x2, .ref 17, .retAddr 0, .retAddr 0] [] (mkH B s l) (fun r => ∃ (s2 : Nat → Nat → Int32) (l3 : Nat → Nat → Int64), r = (.inl none, mkH B s2 l3) ∧ Q (.inl (some (iv (zz s2 51 4))), (mkH B s2 l3)))))) : a_W d 21 91 [.ref 0, iv x1, iv x2] [] (mkH B s l) Q := by
  refine w_aln (p := 92) (q21 91) rfl rfl ?_
  refine w_gR (p := 95) (j := 0) (v := 1) (q21 92) rfl (r0 hB) (by decide) (f0_0 hB) ?_
  refine w_call (st := []) (as := [.ref 1]) (as' := [.ref 1]) (p := 98) (q21 95) rfl m25 (by decide) (a_ok_i rfl (r1 hB) rfl) rfl rfl (Nat.le_of_ble_eq_true rfl) (by omega) rfl rfl ?_
  refine w_aln (p := 1) (q25 0) rfl rfl ?_
  refine w_gI (p := 4) (j := 10) (v := (zz s 1 10)) (q25 1) rfl (r1 hB) (by decide) (iv_zz s 1 10) ?_
  by_cases c1 : (zz s 1 10) ≠ 0
  · replace w := w.1 c1
    refine w_i1t (q25 4) (inR_zz _ _ _) c1 ?_
    refine w_ic (p := 12) (q25 11) rfl ?_
    refine w_ret (q25 12) rfl ⟨_, _, rfl, ?_⟩
    show a_W _ 21 98 [.ref 0, iv x1, iv x2] [iv 0] _ _
    refine w_i1f (p := 101) (q21 98) rfl (by decide) (show ¬ zc _ _ _ by unfold zc; omega) ?_
    refine w_ic (p := 102) (q21 101) rfl ?_
    exact w_ret (q21 102) rfl w
  · replace w := w.2 (Decidable.not_not.mp c1)
    refine w_i1f (p := 7) (q25 4) rfl (inR_zz _ _ _) c1 ?_
    refine w_ic (p := 8) (q25 7) rfl ?_
    refine w_goto (q25 8) ?_
    refine w_ret (q25 12) rfl ⟨_, _, rfl, ?_⟩
    show a_W _ 21 98 [.ref 0, iv x1, iv x2] [iv 1] _ _
    refine w_i1t (q21 98) (by decide) (show zc _ _ _ by unfold zc; omega) ?_
    refine w_aln (p := 104) (q21 103) rfl rfl ?_
    refine w_gR (p := 107) (j := 6) (v := 51) (q21 104) rfl (r0 hB) (by decide) (f0_6 hB) ?_
    refine w_aln (p := 108) (q21 107) rfl rfl ?_
    refine w_gR (p := 111) (j := 5) (v := 38) (q21 108) rfl (r0 hB) (by decide) (f0_5 hB) ?_
    refine w_gR (p := 114) (j := 5) (v := 45) (q21 111) rfl (r38 hB) (by decide) (f38_5 hB) ?_
    refine w_iln (p := 115) (q21 114) rfl rfl ?_
    refine w_aln (p := 116) (q21 115) rfl rfl ?_
    refine w_gR (p := 119) (j := 2) (v := 17) (q21 116) rfl (r0 hB) (by decide) (f0_2 hB) ?_
    refine w_call (st := []) (as := [.ref 51, .ref 45, iv x2, .ref 17]) (as' := [.ref 17, iv x2, .ref 45, .ref 51]) (p := 122) (q21 119) rfl m114 (by decide) (a_ok_i rfl (r51 hB) rfl) rfl rfl (Nat.le_of_ble_eq_true rfl) (by omega) rfl rfl (a_W.imp w ?_)
    rintro _ ⟨s2, l3, rfl, w⟩
    refine ⟨none, _, rfl, ?_⟩
    show a_W _ 21 122 [.ref 0, iv x1, iv x2] [] (mkH B s2 l3) _
    refine w_aln (p := 123) (q21 122) rfl rfl ?_
    refine w_gR (p := 126) (j := 6) (v := 51) (q21 123) rfl (r0 hB) (by decide) (f0_6 hB) ?_
    refine w_gI (p := 129) (j := 4) (v := (zz s2 51 4)) (q21 126) rfl (r51 hB) (by decide) (iv_zz s2 51 4) ?_
    exact w_ret (q21 129) rfl w
theorem w114_0 {d : Nat} {B : aH} {Q : aR → Prop} (hB : a_Can B) (x2 : Int) (s : Nat → Nat → Int32) (l : Nat → Nat → Int64) (w : a_W d 114 15 [.ref 51, .ref 45, iv x2, .ref 17, iv 1, .retAddr 0] [] (mkH B (zu (zu s 51 4 0) 55 0 x2) l) Q) : a_W d 114 0 [.ref 51, .ref 45, iv x2, .ref 17, .retAddr 0, .retAddr 0] [] (mkH B s l) Q := by
  refine w_aln (p := 1) (q114 0) rfl rfl ?_
  refine w_ic (p := 2) (q114 1) rfl ?_
  refine w_pI (p := 5) (j := 4) (q114 2) rfl (r51 hB) (by decide) rfl ?_
  refine w_aln (p := 6) (q114 5) rfl rfl ?_
  refine w_gR (p := 9) (j := 3) (v := 55) (q114 6) rfl (r51 hB) (by decide) (f51_3 hB) ?_
  refine w_ic (p := 10) (q114 9) rfl ?_
  refine w_iln (p := 11) (q114 10) rfl rfl ?_
  refine w_ias (p := 12) (q114 11) rfl (r55 hB) (by decide) (by decide) ?_
  refine w_ic (p := 13) (q114 12) rfl ?_
  refine w_is (p := 15) (ls' := [.ref 51, .ref 45, iv x2, .ref 17, iv 1, .retAddr 0]) (q114 13) rfl (Nat.le_of_ble_eq_true rfl) rfl ?_
  exact w
theorem w114_15 {d : Nat} {B : aH} {Q : aR → Prop} (hB : a_Can B) (hd : 1 ≤ d) (x2 x4 : Int) (u5 : Value) (s : Nat → Nat → Int32) (l : Nat → Nat → Int64) (w : ((500 ≤ (zz s 51 4) → a_W d 114 144 [.ref 51, .ref 45, iv x2, .ref 17, iv x4, u5] [] (mkH B s l) Q) ∧ ((zz s 51 4) < 500 → (inR x4 ∧ ((x4 ≤ 0 → a_W d 114 144 [.ref 51, .ref 45, iv x2, .ref 17, iv x4, u5] [] (mkH B s l) Q) ∧ (0 < x4 → ((500 ≤ x4 → a_W d 114 144 [.ref 51, .ref 45, iv x2, .ref 17, iv x4, u5] [] (mkH B s l) Q) ∧ (x4 < 500 → ((0 ≤ (x4 + (-1)) ∧ (x4 + (-1)) < 501) ∧ ((0 ≤ (zz s 55 (x4 + (-1)).toNat) ∧ (zz s 55 (x4 + (-1)).toNat) < 501) ∧ ((0 ≤ (zz s 51 4) ∧ (zz s 51 4) < 500) ∧ ((0 ≤ (zz s 51 4) ∧ (zz s 51 4) < 501) ∧ a_W (d - 1) 115 0 [.ref 17, iv (zz s 49 (zz s 55 (x4 + (-1)).toNat).toNat), .ref 54, iv (zz s 53 (zz s 51 4).toNat), .retAddr 0, .retAddr 0, .retAddr 0] [] (mkH B (zu s 52 (zz s 51 4).toNat (zz s 46 (zz s 55 (x4 + (-1)).toNat).toNat)) l) (fun r => ∃ (v11 : Int) (s9 : Nat → Nat → Int32) (l10 : Nat → Nat → Int64), r = (.inl (some (iv v11)), mkH B s9 l10) ∧ ((0 ≤ ((zz s 51 4) + 1) ∧ ((zz s 51 4) + 1) < 501) ∧ a_W (d - 1) 118 0 [.ref 51, iv (zz s9 48 (zz s 55 (x4 + (-1)).toNat).toNat), iv (x4 + (-1))] [] (mkH B (zu (zu s9 53 ((zz s 51 4) + 1).toNat v11) 51 4 ((zz s9 51 4) + 1)) l10) (fun r => ∃ (v15 : Int) (s13 : Nat → Nat → Int32) (l14 : Nat → Nat → Int64), r = (.inl (some (iv v15)), mkH B s13 l14) ∧ a_W (d - 1) 118 0 [.ref 51, iv (zz s13 47 (zz s 55 (x4 + (-1)).toNat).toNat), iv v15] [] (mkH B s13 l14) (fun r => ∃ (v18 : Int) (s16 : Nat → Nat → Int32) (l17 : Nat → Nat → Int64), r = (.inl (some (iv v18)), mkH B s16 l17) ∧ a_W d 114 15 [.ref 51, .ref 45, iv x2, .ref 17, iv v18, iv (zz s 55 (x4 + (-1)).toNat)] [] (mkH B s16 l17) Q)))))))))))))))) : a_W d 114 15 [.ref 51, .ref 45, iv x2, .ref 17, iv x4, u5] [] (mkH B s l) Q := by
  refine w_aln (p := 16) (q114 15) rfl rfl ?_
  refine w_gI (p := 19) (j := 4) (v := (zz s 51 4)) (q114 16) rfl (r51 hB) (by decide) (iv_zz s 51 4) ?_
  refine w_sp (p := 22) (q114 19) rfl (by decide) ?_
  by_cases c1 : 500 ≤ (zz s 51 4)
  · replace w := w.1 c1
    refine w_i2t (q114 22) (inR_zz _ _ _) (by decide) c1 ?_
    exact w
  · replace w := w.2 (Int.not_le.mp c1)
    refine w_i2f (p := 25) (q114 22) rfl (inR_zz _ _ _) (by decide) c1 ?_
    refine w_il (p := 27) (q114 25) rfl rfl ?_
    obtain ⟨h2, w⟩ := w
    by_cases c3 : x4 ≤ 0
    · replace w := w.1 c3
      refine w_i1t (q114 27) h2 c3 ?_
      exact w
    · replace w := w.2 (Int.not_le.mp c3)
      refine w_i1f (p := 30) (q114 27) rfl h2 c3 ?_
      refine w_il (p := 32) (q114 30) rfl rfl ?_
      refine w_sp (p := 35) (q114 32) rfl (by decide) ?_
      by_cases c4 : 500 ≤ x4
      · replace w := w.1 c4
        refine w_i2t (q114 35) h2 (by decide) c4 ?_
        exact w
      · replace w := w.2 (Int.not_le.mp c4)
        refine w_i2f (p := 38) (q114 35) rfl h2 (by decide) c4 ?_
        refine w_inc (p := 41) (ls' := [.ref 51, .ref 45, iv x2, .ref 17, iv (x4 + (-1)), u5]) (q114 38) rfl rfl rfl ?_
        refine w_aln (p := 42) (q114 41) rfl rfl ?_
        refine w_gR (p := 45) (j := 3) (v := 55) (q114 42) rfl (r51 hB) (by decide) (f51_3 hB) ?_
        refine w_il (p := 47) (q114 45) rfl rfl ?_
        obtain ⟨o5, w⟩ := w
        refine w_ia (p := 48) (v := (zz s 55 (x4 + (-1)).toNat)) (q114 47) rfl (r55 hB) (by decide) o5 (iv_zz s 55 (x4 + (-1)).toNat) ?_
        refine w_is (p := 50) (ls' := [.ref 51, .ref 45, iv x2, .ref 17, iv (x4 + (-1)), iv (zz s 55 (x4 + (-1)).toNat)]) (q114 48) rfl (Nat.le_of_ble_eq_true rfl) rfl ?_
        refine w_aln (p := 51) (q114 50) rfl rfl ?_
        refine w_gR (p := 54) (j := 0) (v := 52) (q114 51) rfl (r51 hB) (by decide) (f51_0 hB) ?_
        refine w_aln (p := 55) (q114 54) rfl rfl ?_
        refine w_gI (p := 58) (j := 4) (v := (zz s 51 4)) (q114 55) rfl (r51 hB) (by decide) (iv_zz s 51 4) ?_
        refine w_aln (p := 59) (q114 58) rfl rfl ?_
        refine w_gR (p := 62) (j := 0) (v := 46) (q114 59) rfl (r45 hB) (by decide) (f45_0 hB) ?_
        refine w_il (p := 64) (q114 62) rfl rfl ?_
        obtain ⟨o6, w⟩ := w
        refine w_ia (p := 65) (v := (zz s 46 (zz s 55 (x4 + (-1)).toNat).toNat)) (q114 64) rfl (r46 hB) (by decide) o6 (iv_zz s 46 (zz s 55 (x4 + (-1)).toNat).toNat) ?_
        obtain ⟨o7, w⟩ := w
        refine w_ias (p := 66) (q114 65) rfl (r52 hB) (by decide) o7 ?_
        refine w_aln (p := 67) (q114 66) rfl rfl ?_
        refine w_gR (p := 70) (j := 1) (v := 53) (q114 67) rfl (r51 hB) (by decide) (f51_1 hB) ?_
        refine w_aln (p := 71) (q114 70) rfl rfl ?_
        refine w_gI (p := 74) (j := 4) (v := (zz s 51 4)) (q114 71) rfl (r51 hB) (by decide) (iv_zz s 51 4) ?_
        refine w_ic (p := 75) (q114 74) rfl ?_
        refine w_add (p := 76) (q114 75) rfl ?_
        refine w_aln (p := 77) (q114 76) rfl rfl ?_
        refine w_aln (p := 78) (q114 77) rfl rfl ?_
        refine w_gR (p := 81) (j := 3) (v := 49) (q114 78) rfl (r45 hB) (by decide) (f45_3 hB) ?_
        refine w_il (p := 83) (q114 81) rfl rfl ?_
        refine w_ia (p := 84) (v := (zz s 49 (zz s 55 (x4 + (-1)).toNat).toNat)) (q114 83) rfl (r49 hB) (by decide) o6 (iv_zz s 49 (zz s 55 (x4 + (-1)).toNat).toNat) ?_
        refine w_aln (p := 85) (q114 84) rfl rfl ?_
        refine w_gR (p := 88) (j := 2) (v := 54) (q114 85) rfl (r51 hB) (by decide) (f51_2 hB) ?_
        refine w_aln (p := 89) (q114 88) rfl rfl ?_
        refine w_gR (p := 92) (j := 1) (v := 53) (q114 89) rfl (r51 hB) (by decide) (f51_1 hB) ?_
        refine w_aln (p := 93) (q114 92) rfl rfl ?_
        refine w_gI (p := 96) (j := 4) (v := (zz s 51 4)) (q114 93) rfl (r51 hB) (by decide) (iv_zz s 51 4) ?_
        obtain ⟨o8, w⟩ := w
        refine w_ia (p := 97) (v := (zz s 53 (zz s 51 4).toNat)) (q114 96) rfl (r53 hB) (by decide) o8 (iv_zz s 53 (zz s 51 4).toNat) ?_
        refine w_call (st := [iv ((zz s 51 4) + 1), .ref 53]) (as := [.ref 17, iv (zz s 49 (zz s 55 (x4 + (-1)).toNat).toNat), .ref 54, iv (zz s 53 (zz s 51 4).toNat)]) (as' := [iv (zz s 53 (zz s 51 4).toNat), .ref 54, iv (zz s 49 (zz s 55 (x4 + (-1)).toNat).toNat), .ref 17]) (p := 100) (q114 97) rfl m115 (by decide) (a_ok_i rfl (r17 hB) rfl) rfl rfl (Nat.le_of_ble_eq_true rfl) (by omega) rfl rfl (a_W.imp w ?_)
        rintro _ ⟨v11, s9, l10, rfl, w⟩
        refine ⟨some (iv v11), _, rfl, ?_⟩
        show a_W _ 114 100 [.ref 51, .ref 45, iv x2, .ref 17, iv (x4 + (-1)), iv (zz s 55 (x4 + (-1)).toNat)] [iv v11, iv ((zz s 51 4) + 1), .ref 53] (mkH B s9 l10) _
        obtain ⟨o12, w⟩ := w
        refine w_ias (p := 101) (q114 100) rfl (r53 hB) (by decide) o12 ?_
        refine w_aln (p := 102) (q114 101) rfl rfl ?_
        refine w_dupr (p := 103) (q114 102) rfl ?_
        refine w_gI (p := 106) (j := 4) (v := (zz s9 51 4)) (q114 103) rfl (r51 hB) (by decide) (iv_zz s9 51 4) ?_
        refine w_ic (p := 107) (q114 106) rfl ?_
        refine w_add (p := 108) (q114 107) rfl ?_
        refine w_pI (p := 111) (j := 4) (q114 108) rfl (r51 hB) (by decide) rfl ?_
        refine w_aln (p := 112) (q114 111) rfl rfl ?_
        refine w_aln (p := 113) (q114 112) rfl rfl ?_
        refine w_gR (p := 116) (j := 2) (v := 48) (q114 113) rfl (r45 hB) (by decide) (f45_2 hB) ?_
        refine w_il (p := 118) (q114 116) rfl rfl ?_
        refine w_ia (p := 119) (v := (zz s9 48 (zz s 55 (x4 + (-1)).toNat).toNat)) (q114 118) rfl (r48 hB) (by decide) o6 (iv_zz s9 48 (zz s 55 (x4 + (-1)).toNat).toNat) ?_
        refine w_il (p := 121) (q114 119) rfl rfl ?_
        refine w_call (st := []) (as := [.ref 51, iv (zz s9 48 (zz s 55 (x4 + (-1)).toNat).toNat), iv (x4 + (-1))]) (as' := [iv (x4 + (-1)), iv (zz s9 48 (zz s 55 (x4 + (-1)).toNat).toNat), .ref 51]) (p := 124) (q114 121) rfl m118 (by decide) (a_ok_i rfl (r51 hB) rfl) rfl rfl (Nat.le_of_ble_eq_true rfl) (by omega) rfl rfl (a_W.imp w ?_)
        rintro _ ⟨v15, s13, l14, rfl, w⟩
        refine ⟨some (iv v15), _, rfl, ?_⟩
        show a_W _ 114 124 [.ref 51, .ref 45, iv x2, .ref 17, iv (x4 + (-1)), iv (zz s 55 (x4 + (-1)).toNat)] [iv v15] (mkH B s13 l14) _
        refine w_is (p := 126) (ls' := [.ref 51, .ref 45, iv x2, .ref 17, iv v15, iv (zz s 55 (x4 + (-1)).toNat)]) (q114 124) rfl (Nat.le_of_ble_eq_true rfl) rfl ?_
        refine w_aln (p := 127) (q114 126) rfl rfl ?_
        refine w_aln (p := 128) (q114 127) rfl rfl ?_
        refine w_gR (p := 131) (j := 1) (v := 47) (q114 128) rfl (r45 hB) (by decide) (f45_1 hB) ?_
        refine w_il (p := 133) (q114 131) rfl rfl ?_
        refine w_ia (p := 134) (v := (zz s13 47 (zz s 55 (x4 + (-1)).toNat).toNat)) (q114 133) rfl (r47 hB) (by decide) o6 (iv_zz s13 47 (zz s 55 (x4 + (-1)).toNat).toNat) ?_
        refine w_il (p := 136) (q114 134) rfl rfl ?_
        refine w_call (st := []) (as := [.ref 51, iv (zz s13 47 (zz s 55 (x4 + (-1)).toNat).toNat), iv v15]) (as' := [iv v15, iv (zz s13 47 (zz s 55 (x4 + (-1)).toNat).toNat), .ref 51]) (p := 139) (q114 136) rfl m118 (by decide) (a_ok_i rfl (r51 hB) rfl) rfl rfl (Nat.le_of_ble_eq_true rfl) (by omega) rfl rfl (a_W.imp w ?_)
        rintro _ ⟨v18, s16, l17, rfl, w⟩
        refine ⟨some (iv v18), _, rfl, ?_⟩
        show a_W _ 114 139 [.ref 51, .ref 45, iv x2, .ref 17, iv v15, iv (zz s 55 (x4 + (-1)).toNat)] [iv v18] (mkH B s16 l17) _
        refine w_is (p := 141) (ls' := [.ref 51, .ref 45, iv x2, .ref 17, iv v18, iv (zz s 55 (x4 + (-1)).toNat)]) (q114 139) rfl (Nat.le_of_ble_eq_true rfl) rfl ?_
        refine w_goto (q114 141) ?_
        exact w
theorem w114_144 {d : Nat} {B : aH} {Q : aR → Prop} (hB : a_Can B) (x2 x4 : Int) (u5 : Value) (s : Nat → Nat → Int32) (l : Nat → Nat → Int64) (w : Q (.inl none, (mkH B s l))) : a_W d 114 144 [.ref 51, .ref 45, iv x2, .ref 17, iv x4, u5] [] (mkH B s l) Q := by
  exact w_rv (q114 144) rfl w
theorem w115f_0 {d : Nat} {B : aH} {Q : aR → Prop} (hB : a_Can B) (x1 x3 : Int) (s : Nat → Nat → Int32) (l : Nat → Nat → Int64) (w : a_W d 115 13 [.ref 17, iv x1, .ref 54, iv x3, iv 1, iv x3, .retAddr 0] [] (mkH B (zu s 24 0 x1) l) Q) : a_W d 115 0 [.ref 17, iv x1, .ref 54, iv x3, .retAddr 0, .retAddr 0, .retAddr 0] [] (mkH B s l) Q := by
  refine w_aln (p := 1) (q115 0) rfl rfl ?_
  refine w_gR (p := 4) (j := 6) (v := 24) (q115 1) rfl (r17 hB) (by decide) (f17_6 hB) ?_
  refine w_ic (p := 5) (q115 4) rfl ?_
  refine w_iln (p := 6) (q115 5) rfl rfl ?_
  refine w_ias (p := 7) (q115 6) rfl (r24 hB) (by decide) (by decide) ?_
  refine w_ic (p := 8) (q115 7) rfl ?_
  refine w_is (p := 10) (ls' := [.ref 17, iv x1, .ref 54, iv x3, iv 1, .retAddr 0, .retAddr 0]) (q115 8) rfl (Nat.le_of_ble_eq_true rfl) rfl ?_
  refine w_iln (p := 11) (q115 10) rfl rfl ?_
  refine w_is (p := 13) (ls' := [.ref 17, iv x1, .ref 54, iv x3, iv 1, iv x3, .retAddr 0]) (q115 11) rfl (Nat.le_of_ble_eq_true rfl) rfl ?_
  exact w
theorem w115f_13 {d : Nat} {B : aH} {Q : aR → Prop} (hB : a_Can B) (hd : 1 ≤ d) (x1 x3 x4 x5 : Int) (u6 : Value) (s : Nat → Nat → Int32) (l : Nat → Nat → Int64) (w : (inR x5 ∧ ((20000 ≤ x5 → a_W d 115 95 [.ref 17, iv x1, .ref 54, iv x3, iv x4, iv x5, u6] [] (mkH B s l) Q) ∧ (x5 < 20000 → (inR x4 ∧ ((x4 ≤ 0 → a_W d 115 95 [.ref 17, iv x1, .ref 54, iv x3, iv x4, iv x5, u6] [] (mkH B s l) Q) ∧ (0 < x4 → ((16999 ≤ x4 → a_W d 115 95 [.ref 17, iv x1, .ref 54, iv x3, iv x4, iv x5, u6] [] (mkH B s l) Q) ∧ (x4 < 16999 → ((0 ≤ (x4 + (-1)) ∧ (x4 + (-1)) < 17000) ∧ a_W (d - 1) 51 0 [.ref 17, iv (zz s 24 (x4 + (-1)).toNat), .retAddr 0, .retAddr 0] [] (mkH B s l) (fun r => ∃ (v9 : Int) (s7 : Nat → Nat → Int32) (l8 : Nat → Nat → Int64), r = (.inl (some (iv v9)), mkH B s7 l8) ∧ ((0 ≤ v9 ∧ v9 < 17000) ∧ (((zz s7 18 v9.toNat) ≠ (-1000000) → ((0 ≤ x5 ∧ x5 < 20000) ∧ ((0 ≤ (zz s7 20 v9.toNat) → ((0 ≤ (zz s7 19 v9.toNat) → ((0 ≤ ((x4 + (-1)) + 1) ∧ ((x4 + (-1)) + 1) < 17000) ∧ a_W d 115 13 [.ref 17, iv x1, .ref 54, iv x3, iv (((x4 + (-1)) + 1) + 1), iv (x5 + 1), iv v9] [] (mkH B (zu (zu (zu s7 54 x5.toNat (zz s7 18 v9.toNat)) 24 (x4 + (-1)).toNat (zz s7 20 v9.toNat)) 24 ((x4 + (-1)) + 1).toNat (zz s7 19 v9.toNat)) l8) Q)) ∧ ((zz s7 19 v9.toNat) < 0 → a_W d 115 13 [.ref 17, iv x1, .ref 54, iv x3, iv ((x4 + (-1)) + 1), iv (x5 + 1), iv v9] [] (mkH B (zu (zu s7 54 x5.toNat (zz s7 18 v9.toNat)) 24 (x4 + (-1)).toNat (zz s7 20 v9.toNat)) l8) Q))) ∧ ((zz s7 20 v9.toNat) < 0 → ((0 ≤ (zz s7 19 v9.toNat) → a_W d 115 13 [.ref 17, iv x1, .ref 54, iv x3, iv ((x4 + (-1)) + 1), iv (x5 + 1), iv v9] [] (mkH B (zu (zu s7 54 x5.toNat (zz s7 18 v9.toNat)) 24 (x4 + (-1)).toNat (zz s7 19 v9.toNat)) l8) Q) ∧ ((zz s7 19 v9.toNat) < 0 → a_W d 115 13 [.ref 17, iv x1, .ref 54, iv x3, iv (x4 + (-1)), iv (x5 + 1), iv v9] [] (mkH B (zu s7 54 x5.toNat (zz s7 18 v9.toNat)) l8) Q)))))) ∧ ((zz s7 18 v9.toNat) = (-1000000) → ((0 ≤ x5 ∧ x5 < 20000) ∧ ((0 ≤ (zz s7 20 v9.toNat) → ((0 ≤ (zz s7 19 v9.toNat) → ((0 ≤ ((x4 + (-1)) + 1) ∧ ((x4 + (-1)) + 1) < 17000) ∧ a_W d 115 13 [.ref 17, iv x1, .ref 54, iv x3, iv (((x4 + (-1)) + 1) + 1), iv (x5 + 1), iv v9] [] (mkH B (zu (zu (zu (zu (zu s7 18 v9.toNat ((-1) - (zz s7 17 9))) 17 9 ((zz s7 17 9) + 1)) 54 x5.toNat ((-1) - (zz s7 17 9))) 24 (x4 + (-1)).toNat (zz s7 20 v9.toNat)) 24 ((x4 + (-1)) + 1).toNat (zz s7 19 v9.toNat)) l8) Q)) ∧ ((zz s7 19 v9.toNat) < 0 → a_W d 115 13 [.ref 17, iv x1, .ref 54, iv x3, iv ((x4 + (-1)) + 1), iv (x5 + 1), iv v9] [] (mkH B (zu (zu (zu (zu s7 18 v9.toNat ((-1) - (zz s7 17 9))) 17 9 ((zz s7 17 9) + 1)) 54 x5.toNat ((-1) - (zz s7 17 9))) 24 (x4 + (-1)).toNat (zz s7 20 v9.toNat)) l8) Q))) ∧ ((zz s7 20 v9.toNat) < 0 → ((0 ≤ (zz s7 19 v9.toNat) → a_W d 115 13 [.ref 17, iv x1, .ref 54, iv x3, iv ((x4 + (-1)) + 1), iv (x5 + 1), iv v9] [] (mkH B (zu (zu (zu (zu s7 18 v9.toNat ((-1) - (zz s7 17 9))) 17 9 ((zz s7 17 9) + 1)) 54 x5.toNat ((-1) - (zz s7 17 9))) 24 (x4 + (-1)).toNat (zz s7 19 v9.toNat)) l8) Q) ∧ ((zz s7 19 v9.toNat) < 0 → a_W d 115 13 [.ref 17, iv x1, .ref 54, iv x3, iv (x4 + (-1)), iv (x5 + 1), iv v9] [] (mkH B (zu (zu (zu s7 18 v9.toNat ((-1) - (zz s7 17 9))) 17 9 ((zz s7 17 9) + 1)) 54 x5.toNat ((-1) - (zz s7 17 9))) l8) Q))))))))))))))))))) : a_W d 115 13 [.ref 17, iv x1, .ref 54, iv x3, iv x4, iv x5, u6] [] (mkH B s l) Q := by
  refine w_il (p := 15) (q115 13) rfl rfl ?_
  refine w_aln (p := 16) (q115 15) rfl rfl ?_
  refine w_len (p := 17) (q115 16) rfl (r54 hB) (by decide) ?_
  obtain ⟨h1, w⟩ := w
  by_cases c2 : 20000 ≤ x5
  · replace w := w.1 c2
    refine w_i2t (q115 17) h1 (by decide) c2 ?_
    exact w
  · replace w := w.2 (Int.not_le.mp c2)
    refine w_i2f (p := 20) (q115 17) rfl h1 (by decide) c2 ?_
    refine w_il (p := 22) (q115 20) rfl rfl ?_
    obtain ⟨h3, w⟩ := w
    by_cases c4 : x4 ≤ 0
    · replace w := w.1 c4
      refine w_i1t (q115 22) h3 c4 ?_
      exact w
    · replace w := w.2 (Int.not_le.mp c4)
      refine w_i1f (p := 25) (q115 22) rfl h3 c4 ?_
      refine w_il (p := 27) (q115 25) rfl rfl ?_
      refine w_sp (p := 30) (q115 27) rfl (by decide) ?_
      by_cases c5 : 16999 ≤ x4
      · replace w := w.1 c5
        refine w_i2t (q115 30) h3 (by decide) c5 ?_
        exact w
      · replace w := w.2 (Int.not_le.mp c5)
        refine w_i2f (p := 33) (q115 30) rfl h3 (by decide) c5 ?_
        refine w_inc (p := 36) (ls' := [.ref 17, iv x1, .ref 54, iv x3, iv (x4 + (-1)), iv x5, u6]) (q115 33) rfl rfl rfl ?_
        refine w_aln (p := 37) (q115 36) rfl rfl ?_
        refine w_aln (p := 38) (q115 37) rfl rfl ?_
        refine w_gR (p := 41) (j := 6) (v := 24) (q115 38) rfl (r17 hB) (by decide) (f17_6 hB) ?_
        refine w_il (p := 43) (q115 41) rfl rfl ?_
        obtain ⟨o6, w⟩ := w
        refine w_ia (p := 44) (v := (zz s 24 (x4 + (-1)).toNat)) (q115 43) rfl (r24 hB) (by decide) o6 (iv_zz s 24 (x4 + (-1)).toNat) ?_
        refine w_call (st := []) (as := [.ref 17, iv (zz s 24 (x4 + (-1)).toNat)]) (as' := [iv (zz s 24 (x4 + (-1)).toNat), .ref 17]) (p := 47) (q115 44) rfl m51 (by decide) (a_ok_i rfl (r17 hB) rfl) rfl rfl (Nat.le_of_ble_eq_true rfl) (by omega) rfl rfl (a_W.imp w ?_)
        rintro _ ⟨v9, s7, l8, rfl, w⟩
        refine ⟨some (iv v9), _, rfl, ?_⟩
        show a_W _ 115 47 [.ref 17, iv x1, .ref 54, iv x3, iv (x4 + (-1)), iv x5, u6] [iv v9] (mkH B s7 l8) _
        refine w_is (p := 49) (ls' := [.ref 17, iv x1, .ref 54, iv x3, iv (x4 + (-1)), iv x5, iv v9]) (q115 47) rfl (Nat.le_of_ble_eq_true rfl) rfl ?_
        refine w_aln (p := 50) (q115 49) rfl rfl ?_
        refine w_il (p := 52) (q115 50) rfl rfl ?_
        refine w_aln (p := 53) (q115 52) rfl rfl ?_
        refine w_il (p := 55) (q115 53) rfl rfl ?_
        refine w_call (st := [iv x5, .ref 54]) (as := [.ref 17, iv v9]) (as' := [iv v9, .ref 17]) (p := 58) (q115 55) rfl m116 (by decide) (a_ok_i rfl (r17 hB) rfl) rfl rfl (Nat.le_of_ble_eq_true rfl) (by omega) rfl rfl ?_
        refine w_aln (p := 1) (q116 0) rfl rfl ?_
        refine w_gR (p := 4) (j := 0) (v := 18) (q116 1) rfl (r17 hB) (by decide) (f17_0 hB) ?_
        refine w_iln (p := 5) (q116 4) rfl rfl ?_
        obtain ⟨o10, w⟩ := w
        refine w_ia (p := 6) (v := (zz s7 18 v9.toNat)) (q116 5) rfl (r18 hB) (by decide) o10 (iv_zz s7 18 v9.toNat) ?_
        refine w_ldc (p := 8) (n := (-1000000)) (q116 6) rfl (by decide) ?_
        by_cases c11 : (zz s7 18 v9.toNat) ≠ (-1000000)
        · replace w := w.1 c11
          refine w_i2t (q116 8) (inR_zz _ _ _) (by decide) c11 ?_
          refine w_aln (p := 34) (q116 33) rfl rfl ?_
          refine w_gR (p := 37) (j := 0) (v := 18) (q116 34) rfl (r17 hB) (by decide) (f17_0 hB) ?_
          refine w_iln (p := 38) (q116 37) rfl rfl ?_
          refine w_ia (p := 39) (v := (zz s7 18 v9.toNat)) (q116 38) rfl (r18 hB) (by decide) o10 (iv_zz s7 18 v9.toNat) ?_
          refine w_ret (q116 39) rfl ⟨_, _, rfl, ?_⟩
          show a_W _ 115 58 [.ref 17, iv x1, .ref 54, iv x3, iv (x4 + (-1)), iv x5, iv v9] [iv (zz s7 18 v9.toNat), iv x5, .ref 54] _ _
          obtain ⟨o12, w⟩ := w
          refine w_ias (p := 59) (q115 58) rfl (r54 hB) (by decide) o12 ?_
          refine w_inc (p := 62) (ls' := [.ref 17, iv x1, .ref 54, iv x3, iv (x4 + (-1)), iv (x5 + 1), iv v9]) (q115 59) rfl rfl rfl ?_
          refine w_aln (p := 63) (q115 62) rfl rfl ?_
          refine w_aln (p := 64) (q115 63) rfl rfl ?_
          refine w_gR (p := 67) (j := 2) (v := 20) (q115 64) rfl (r17 hB) (by decide) (f17_2 hB) ?_
          refine w_il (p := 69) (q115 67) rfl rfl ?_
          refine w_ia (p := 70) (v := (zz s7 20 v9.toNat)) (q115 69) rfl (r20 hB) (by decide) o10 (iv_zz s7 20 v9.toNat) ?_
          refine w_il (p := 72) (q115 70) rfl rfl ?_
          refine w_call (st := []) (as := [.ref 17, iv (zz s7 20 v9.toNat), iv (x4 + (-1))]) (as' := [iv (x4 + (-1)), iv (zz s7 20 v9.toNat), .ref 17]) (p := 75) (q115 72) rfl m117 (by decide) (a_ok_i rfl (r17 hB) rfl) rfl rfl (Nat.le_of_ble_eq_true rfl) (by omega) rfl rfl ?_
          refine w_iln (p := 1) (q117 0) rfl rfl ?_
          by_cases c13 : 0 ≤ (zz s7 20 v9.toNat)
          · replace w := w.1 c13
            refine w_i1t (q117 1) (inR_zz _ _ _) c13 ?_
            refine w_aln (p := 7) (q117 6) rfl rfl ?_
            refine w_gR (p := 10) (j := 6) (v := 24) (q117 7) rfl (r17 hB) (by decide) (f17_6 hB) ?_
            refine w_iln (p := 11) (q117 10) rfl rfl ?_
            refine w_iln (p := 12) (q117 11) rfl rfl ?_
            refine w_ias (p := 13) (q117 12) rfl (r24 hB) (by decide) o6 ?_
            refine w_iln (p := 14) (q117 13) rfl rfl ?_
            refine w_ic (p := 15) (q117 14) rfl ?_
            refine w_add (p := 16) (q117 15) rfl ?_
            refine w_ret (q117 16) rfl ⟨_, _, rfl, ?_⟩
            show a_W _ 115 75 [.ref 17, iv x1, .ref 54, iv x3, iv (x4 + (-1)), iv (x5 + 1), iv v9] [iv ((x4 + (-1)) + 1)] _ _
            refine w_is (p := 77) (ls' := [.ref 17, iv x1, .ref 54, iv x3, iv ((x4 + (-1)) + 1), iv (x5 + 1), iv v9]) (q115 75) rfl (Nat.le_of_ble_eq_true rfl) rfl ?_
            refine w_aln (p := 78) (q115 77) rfl rfl ?_
            refine w_aln (p := 79) (q115 78) rfl rfl ?_
            refine w_gR (p := 82) (j := 1) (v := 19) (q115 79) rfl (r17 hB) (by decide) (f17_1 hB) ?_
            refine w_il (p := 84) (q115 82) rfl rfl ?_
            refine w_ia (p := 85) (v := (zz s7 19 v9.toNat)) (q115 84) rfl (r19 hB) (by decide) o10 (iv_zz s7 19 v9.toNat) ?_
            refine w_il (p := 87) (q115 85) rfl rfl ?_
            refine w_call (st := []) (as := [.ref 17, iv (zz s7 19 v9.toNat), iv ((x4 + (-1)) + 1)]) (as' := [iv ((x4 + (-1)) + 1), iv (zz s7 19 v9.toNat), .ref 17]) (p := 90) (q115 87) rfl m117 (by decide) (a_ok_i rfl (r17 hB) rfl) rfl rfl (Nat.le_of_ble_eq_true rfl) (by omega) rfl rfl ?_
            refine w_iln (p := 1) (q117 0) rfl rfl ?_
            by_cases c14 : 0 ≤ (zz s7 19 v9.toNat)
            · replace w := w.1 c14
              refine w_i1t (q117 1) (inR_zz _ _ _) c14 ?_
              refine w_aln (p := 7) (q117 6) rfl rfl ?_
              refine w_gR (p := 10) (j := 6) (v := 24) (q117 7) rfl (r17 hB) (by decide) (f17_6 hB) ?_
              refine w_iln (p := 11) (q117 10) rfl rfl ?_
              refine w_iln (p := 12) (q117 11) rfl rfl ?_
              obtain ⟨o15, w⟩ := w
              refine w_ias (p := 13) (q117 12) rfl (r24 hB) (by decide) o15 ?_
              refine w_iln (p := 14) (q117 13) rfl rfl ?_
              refine w_ic (p := 15) (q117 14) rfl ?_
              refine w_add (p := 16) (q117 15) rfl ?_
              refine w_ret (q117 16) rfl ⟨_, _, rfl, ?_⟩
              show a_W _ 115 90 [.ref 17, iv x1, .ref 54, iv x3, iv ((x4 + (-1)) + 1), iv (x5 + 1), iv v9] [iv (((x4 + (-1)) + 1) + 1)] _ _
              refine w_is (p := 92) (ls' := [.ref 17, iv x1, .ref 54, iv x3, iv (((x4 + (-1)) + 1) + 1), iv (x5 + 1), iv v9]) (q115 90) rfl (Nat.le_of_ble_eq_true rfl) rfl ?_
              refine w_goto (q115 92) ?_
              exact w
            · replace w := w.2 (Int.not_le.mp c14)
              refine w_i1f (p := 4) (q117 1) rfl (inR_zz _ _ _) c14 ?_
              refine w_iln (p := 5) (q117 4) rfl rfl ?_
              refine w_ret (q117 5) rfl ⟨_, _, rfl, ?_⟩
              show a_W _ 115 90 [.ref 17, iv x1, .ref 54, iv x3, iv ((x4 + (-1)) + 1), iv (x5 + 1), iv v9] [iv ((x4 + (-1)) + 1)] _ _
              refine w_is (p := 92) (ls' := [.ref 17, iv x1, .ref 54, iv x3, iv ((x4 + (-1)) + 1), iv (x5 + 1), iv v9]) (q115 90) rfl (Nat.le_of_ble_eq_true rfl) rfl ?_
              refine w_goto (q115 92) ?_
              exact w
          · replace w := w.2 (Int.not_le.mp c13)
            refine w_i1f (p := 4) (q117 1) rfl (inR_zz _ _ _) c13 ?_
            refine w_iln (p := 5) (q117 4) rfl rfl ?_
            refine w_ret (q117 5) rfl ⟨_, _, rfl, ?_⟩
            show a_W _ 115 75 [.ref 17, iv x1, .ref 54, iv x3, iv (x4 + (-1)), iv (x5 + 1), iv v9] [iv (x4 + (-1))] _ _
            refine w_is (p := 77) (ls' := [.ref 17, iv x1, .ref 54, iv x3, iv (x4 + (-1)), iv (x5 + 1), iv v9]) (q115 75) rfl (Nat.le_of_ble_eq_true rfl) rfl ?_
            refine w_aln (p := 78) (q115 77) rfl rfl ?_
            refine w_aln (p := 79) (q115 78) rfl rfl ?_
            refine w_gR (p := 82) (j := 1) (v := 19) (q115 79) rfl (r17 hB) (by decide) (f17_1 hB) ?_
            refine w_il (p := 84) (q115 82) rfl rfl ?_
            refine w_ia (p := 85) (v := (zz s7 19 v9.toNat)) (q115 84) rfl (r19 hB) (by decide) o10 (iv_zz s7 19 v9.toNat) ?_
            refine w_il (p := 87) (q115 85) rfl rfl ?_
            refine w_call (st := []) (as := [.ref 17, iv (zz s7 19 v9.toNat), iv (x4 + (-1))]) (as' := [iv (x4 + (-1)), iv (zz s7 19 v9.toNat), .ref 17]) (p := 90) (q115 87) rfl m117 (by decide) (a_ok_i rfl (r17 hB) rfl) rfl rfl (Nat.le_of_ble_eq_true rfl) (by omega) rfl rfl ?_
            refine w_iln (p := 1) (q117 0) rfl rfl ?_
            by_cases c16 : 0 ≤ (zz s7 19 v9.toNat)
            · replace w := w.1 c16
              refine w_i1t (q117 1) (inR_zz _ _ _) c16 ?_
              refine w_aln (p := 7) (q117 6) rfl rfl ?_
              refine w_gR (p := 10) (j := 6) (v := 24) (q117 7) rfl (r17 hB) (by decide) (f17_6 hB) ?_
              refine w_iln (p := 11) (q117 10) rfl rfl ?_
              refine w_iln (p := 12) (q117 11) rfl rfl ?_
              refine w_ias (p := 13) (q117 12) rfl (r24 hB) (by decide) o6 ?_
              refine w_iln (p := 14) (q117 13) rfl rfl ?_
              refine w_ic (p := 15) (q117 14) rfl ?_
              refine w_add (p := 16) (q117 15) rfl ?_
              refine w_ret (q117 16) rfl ⟨_, _, rfl, ?_⟩
              show a_W _ 115 90 [.ref 17, iv x1, .ref 54, iv x3, iv (x4 + (-1)), iv (x5 + 1), iv v9] [iv ((x4 + (-1)) + 1)] _ _
              refine w_is (p := 92) (ls' := [.ref 17, iv x1, .ref 54, iv x3, iv ((x4 + (-1)) + 1), iv (x5 + 1), iv v9]) (q115 90) rfl (Nat.le_of_ble_eq_true rfl) rfl ?_
              refine w_goto (q115 92) ?_
              exact w
            · replace w := w.2 (Int.not_le.mp c16)
              refine w_i1f (p := 4) (q117 1) rfl (inR_zz _ _ _) c16 ?_
              refine w_iln (p := 5) (q117 4) rfl rfl ?_
              refine w_ret (q117 5) rfl ⟨_, _, rfl, ?_⟩
              show a_W _ 115 90 [.ref 17, iv x1, .ref 54, iv x3, iv (x4 + (-1)), iv (x5 + 1), iv v9] [iv (x4 + (-1))] _ _
              refine w_is (p := 92) (ls' := [.ref 17, iv x1, .ref 54, iv x3, iv (x4 + (-1)), iv (x5 + 1), iv v9]) (q115 90) rfl (Nat.le_of_ble_eq_true rfl) rfl ?_
              refine w_goto (q115 92) ?_
              exact w
        · replace w := w.2 (Decidable.not_not.mp c11)
          refine w_i2f (p := 11) (q116 8) rfl (inR_zz _ _ _) (by decide) c11 ?_
          refine w_aln (p := 12) (q116 11) rfl rfl ?_
          refine w_gR (p := 15) (j := 0) (v := 18) (q116 12) rfl (r17 hB) (by decide) (f17_0 hB) ?_
          refine w_iln (p := 16) (q116 15) rfl rfl ?_
          refine w_ic (p := 17) (q116 16) rfl ?_
          refine w_aln (p := 18) (q116 17) rfl rfl ?_
          refine w_gI (p := 21) (j := 9) (v := (zz s7 17 9)) (q116 18) rfl (r17 hB) (by decide) (iv_zz s7 17 9) ?_
          refine w_sub (p := 22) (q116 21) rfl ?_
          refine w_ias (p := 23) (q116 22) rfl (r18 hB) (by decide) o10 ?_
          refine w_aln (p := 24) (q116 23) rfl rfl ?_
          refine w_dupr (p := 25) (q116 24) rfl ?_
          refine w_gI (p := 28) (j := 9) (v := (zz s7 17 9)) (q116 25) rfl (r17 hB) (by decide) (iv_zz s7 17 9) ?_
          refine w_ic (p := 29) (q116 28) rfl ?_
          refine w_add (p := 30) (q116 29) rfl ?_
          refine w_pI (p := 33) (j := 9) (q116 30) rfl (r17 hB) (by decide) rfl ?_
          refine w_aln (p := 34) (q116 33) rfl rfl ?_
          refine w_gR (p := 37) (j := 0) (v := 18) (q116 34) rfl (r17 hB) (by decide) (f17_0 hB) ?_
          refine w_iln (p := 38) (q116 37) rfl rfl ?_
          refine w_ia (p := 39) (v := ((-1) - (zz s7 17 9))) (q116 38) rfl (r18 hB) (by decide) o10 (by unfold zu a_up; simp) ?_
          refine w_ret (q116 39) rfl ⟨_, _, rfl, ?_⟩
          show a_W _ 115 58 [.ref 17, iv x1, .ref 54, iv x3, iv (x4 + (-1)), iv x5, iv v9] [iv ((-1) - (zz s7 17 9)), iv x5, .ref 54] _ _
          obtain ⟨o17, w⟩ := w
          refine w_ias (p := 59) (q115 58) rfl (r54 hB) (by decide) o17 ?_
          refine w_inc (p := 62) (ls' := [.ref 17, iv x1, .ref 54, iv x3, iv (x4 + (-1)), iv (x5 + 1), iv v9]) (q115 59) rfl rfl rfl ?_
          refine w_aln (p := 63) (q115 62) rfl rfl ?_
          refine w_aln (p := 64) (q115 63) rfl rfl ?_
          refine w_gR (p := 67) (j := 2) (v := 20) (q115 64) rfl (r17 hB) (by decide) (f17_2 hB) ?_
          refine w_il (p := 69) (q115 67) rfl rfl ?_
          refine w_ia (p := 70) (v := (zz s7 20 v9.toNat)) (q115 69) rfl (r20 hB) (by decide) o10 (iv_zz s7 20 v9.toNat) ?_
          refine w_il (p := 72) (q115 70) rfl rfl ?_
          refine w_call (st := []) (as := [.ref 17, iv (zz s7 20 v9.toNat), iv (x4 + (-1))]) (as' := [iv (x4 + (-1)), iv (zz s7 20 v9.toNat), .ref 17]) (p := 75) (q115 72) rfl m117 (by decide) (a_ok_i rfl (r17 hB) rfl) rfl rfl (Nat.le_of_ble_eq_true rfl) (by omega) rfl rfl ?_
          refine w_iln (p := 1) (q117 0) rfl rfl ?_
          by_cases c18 : 0 ≤ (zz s7 20 v9.toNat)
          · replace w := w.1 c18
            refine w_i1t (q117 1) (inR_zz _ _ _) c18 ?_
            refine w_aln (p := 7) (q117 6) rfl rfl ?_
            refine w_gR (p := 10) (j := 6) (v := 24) (q117 7) rfl (r17 hB) (by decide) (f17_6 hB) ?_
            refine w_iln (p := 11) (q117 10) rfl rfl ?_
            refine w_iln (p := 12) (q117 11) rfl rfl ?_
            refine w_ias (p := 13) (q117 12) rfl (r24 hB) (by decide) o6 ?_
            refine w_iln (p := 14) (q117 13) rfl rfl ?_
            refine w_ic (p := 15) (q117 14) rfl ?_
            refine w_add (p := 16) (q117 15) rfl ?_
            refine w_ret (q117 16) rfl ⟨_, _, rfl, ?_⟩
            show a_W _ 115 75 [.ref 17, iv x1, .ref 54, iv x3, iv (x4 + (-1)), iv (x5 + 1), iv v9] [iv ((x4 + (-1)) + 1)] _ _
            refine w_is (p := 77) (ls' := [.ref 17, iv x1, .ref 54, iv x3, iv ((x4 + (-1)) + 1), iv (x5 + 1), iv v9]) (q115 75) rfl (Nat.le_of_ble_eq_true rfl) rfl ?_
            refine w_aln (p := 78) (q115 77) rfl rfl ?_
            refine w_aln (p := 79) (q115 78) rfl rfl ?_
            refine w_gR (p := 82) (j := 1) (v := 19) (q115 79) rfl (r17 hB) (by decide) (f17_1 hB) ?_
            refine w_il (p := 84) (q115 82) rfl rfl ?_
            refine w_ia (p := 85) (v := (zz s7 19 v9.toNat)) (q115 84) rfl (r19 hB) (by decide) o10 (iv_zz s7 19 v9.toNat) ?_
            refine w_il (p := 87) (q115 85) rfl rfl ?_
            refine w_call (st := []) (as := [.ref 17, iv (zz s7 19 v9.toNat), iv ((x4 + (-1)) + 1)]) (as' := [iv ((x4 + (-1)) + 1), iv (zz s7 19 v9.toNat), .ref 17]) (p := 90) (q115 87) rfl m117 (by decide) (a_ok_i rfl (r17 hB) rfl) rfl rfl (Nat.le_of_ble_eq_true rfl) (by omega) rfl rfl ?_
            refine w_iln (p := 1) (q117 0) rfl rfl ?_
            by_cases c19 : 0 ≤ (zz s7 19 v9.toNat)
            · replace w := w.1 c19
              refine w_i1t (q117 1) (inR_zz _ _ _) c19 ?_
              refine w_aln (p := 7) (q117 6) rfl rfl ?_
              refine w_gR (p := 10) (j := 6) (v := 24) (q117 7) rfl (r17 hB) (by decide) (f17_6 hB) ?_
              refine w_iln (p := 11) (q117 10) rfl rfl ?_
              refine w_iln (p := 12) (q117 11) rfl rfl ?_
              obtain ⟨o20, w⟩ := w
              refine w_ias (p := 13) (q117 12) rfl (r24 hB) (by decide) o20 ?_
              refine w_iln (p := 14) (q117 13) rfl rfl ?_
              refine w_ic (p := 15) (q117 14) rfl ?_
              refine w_add (p := 16) (q117 15) rfl ?_
              refine w_ret (q117 16) rfl ⟨_, _, rfl, ?_⟩
              show a_W _ 115 90 [.ref 17, iv x1, .ref 54, iv x3, iv ((x4 + (-1)) + 1), iv (x5 + 1), iv v9] [iv (((x4 + (-1)) + 1) + 1)] _ _
              refine w_is (p := 92) (ls' := [.ref 17, iv x1, .ref 54, iv x3, iv (((x4 + (-1)) + 1) + 1), iv (x5 + 1), iv v9]) (q115 90) rfl (Nat.le_of_ble_eq_true rfl) rfl ?_
              refine w_goto (q115 92) ?_
              exact w
            · replace w := w.2 (Int.not_le.mp c19)
              refine w_i1f (p := 4) (q117 1) rfl (inR_zz _ _ _) c19 ?_
              refine w_iln (p := 5) (q117 4) rfl rfl ?_
              refine w_ret (q117 5) rfl ⟨_, _, rfl, ?_⟩
              show a_W _ 115 90 [.ref 17, iv x1, .ref 54, iv x3, iv ((x4 + (-1)) + 1), iv (x5 + 1), iv v9] [iv ((x4 + (-1)) + 1)] _ _
              refine w_is (p := 92) (ls' := [.ref 17, iv x1, .ref 54, iv x3, iv ((x4 + (-1)) + 1), iv (x5 + 1), iv v9]) (q115 90) rfl (Nat.le_of_ble_eq_true rfl) rfl ?_
              refine w_goto (q115 92) ?_
              exact w
          · replace w := w.2 (Int.not_le.mp c18)
            refine w_i1f (p := 4) (q117 1) rfl (inR_zz _ _ _) c18 ?_
            refine w_iln (p := 5) (q117 4) rfl rfl ?_
            refine w_ret (q117 5) rfl ⟨_, _, rfl, ?_⟩
            show a_W _ 115 75 [.ref 17, iv x1, .ref 54, iv x3, iv (x4 + (-1)), iv (x5 + 1), iv v9] [iv (x4 + (-1))] _ _
            refine w_is (p := 77) (ls' := [.ref 17, iv x1, .ref 54, iv x3, iv (x4 + (-1)), iv (x5 + 1), iv v9]) (q115 75) rfl (Nat.le_of_ble_eq_true rfl) rfl ?_
            refine w_aln (p := 78) (q115 77) rfl rfl ?_
            refine w_aln (p := 79) (q115 78) rfl rfl ?_
            refine w_gR (p := 82) (j := 1) (v := 19) (q115 79) rfl (r17 hB) (by decide) (f17_1 hB) ?_
            refine w_il (p := 84) (q115 82) rfl rfl ?_
            refine w_ia (p := 85) (v := (zz s7 19 v9.toNat)) (q115 84) rfl (r19 hB) (by decide) o10 (iv_zz s7 19 v9.toNat) ?_
            refine w_il (p := 87) (q115 85) rfl rfl ?_
            refine w_call (st := []) (as := [.ref 17, iv (zz s7 19 v9.toNat), iv (x4 + (-1))]) (as' := [iv (x4 + (-1)), iv (zz s7 19 v9.toNat), .ref 17]) (p := 90) (q115 87) rfl m117 (by decide) (a_ok_i rfl (r17 hB) rfl) rfl rfl (Nat.le_of_ble_eq_true rfl) (by omega) rfl rfl ?_
            refine w_iln (p := 1) (q117 0) rfl rfl ?_
            by_cases c21 : 0 ≤ (zz s7 19 v9.toNat)
            · replace w := w.1 c21
              refine w_i1t (q117 1) (inR_zz _ _ _) c21 ?_
              refine w_aln (p := 7) (q117 6) rfl rfl ?_
              refine w_gR (p := 10) (j := 6) (v := 24) (q117 7) rfl (r17 hB) (by decide) (f17_6 hB) ?_
              refine w_iln (p := 11) (q117 10) rfl rfl ?_
              refine w_iln (p := 12) (q117 11) rfl rfl ?_
              refine w_ias (p := 13) (q117 12) rfl (r24 hB) (by decide) o6 ?_
              refine w_iln (p := 14) (q117 13) rfl rfl ?_
              refine w_ic (p := 15) (q117 14) rfl ?_
              refine w_add (p := 16) (q117 15) rfl ?_
              refine w_ret (q117 16) rfl ⟨_, _, rfl, ?_⟩
              show a_W _ 115 90 [.ref 17, iv x1, .ref 54, iv x3, iv (x4 + (-1)), iv (x5 + 1), iv v9] [iv ((x4 + (-1)) + 1)] _ _
              refine w_is (p := 92) (ls' := [.ref 17, iv x1, .ref 54, iv x3, iv ((x4 + (-1)) + 1), iv (x5 + 1), iv v9]) (q115 90) rfl (Nat.le_of_ble_eq_true rfl) rfl ?_
              refine w_goto (q115 92) ?_
              exact w
            · replace w := w.2 (Int.not_le.mp c21)
              refine w_i1f (p := 4) (q117 1) rfl (inR_zz _ _ _) c21 ?_
              refine w_iln (p := 5) (q117 4) rfl rfl ?_
              refine w_ret (q117 5) rfl ⟨_, _, rfl, ?_⟩
              show a_W _ 115 90 [.ref 17, iv x1, .ref 54, iv x3, iv (x4 + (-1)), iv (x5 + 1), iv v9] [iv (x4 + (-1))] _ _
              refine w_is (p := 92) (ls' := [.ref 17, iv x1, .ref 54, iv x3, iv (x4 + (-1)), iv (x5 + 1), iv v9]) (q115 90) rfl (Nat.le_of_ble_eq_true rfl) rfl ?_
              refine w_goto (q115 92) ?_
              exact w
theorem w115f_95 {d : Nat} {B : aH} {Q : aR → Prop} (hB : a_Can B) (x1 x3 x4 x5 : Int) (u6 : Value) (s : Nat → Nat → Int32) (l : Nat → Nat → Int64) (w : Q (.inl (some (iv x5)), (mkH B s l))) : a_W d 115 95 [.ref 17, iv x1, .ref 54, iv x3, iv x4, iv x5, u6] [] (mkH B s l) Q := by
  refine w_il (p := 97) (q115 95) rfl rfl ?_
  exact w_ret (q115 97) rfl w
theorem w118_0 {d : Nat} {B : aH} {Q : aR → Prop} (hB : a_Can B) (x1 x2 : Int) (s : Nat → Nat → Int32) (l : Nat → Nat → Int64) (w : (inR x1 ∧ ((0 < x1 → ((0 ≤ x2 ∧ x2 < 501) ∧ Q (.inl (some (iv (x2 + 1))), (mkH B (zu s 55 x2.toNat x1) l)))) ∧ (x1 ≤ 0 → Q (.inl (some (iv x2)), (mkH B s l)))))) : a_W d 118 0 [.ref 51, iv x1, iv x2] [] (mkH B s l) Q := by
  refine w_iln (p := 1) (q118 0) rfl rfl ?_
  obtain ⟨h1, w⟩ := w
  by_cases c2 : 0 < x1
  · replace w := w.1 c2
    refine w_i1t (q118 1) h1 c2 ?_
    refine w_aln (p := 7) (q118 6) rfl rfl ?_
    refine w_gR (p := 10) (j := 3) (v := 55) (q118 7) rfl (r51 hB) (by decide) (f51_3 hB) ?_
    refine w_iln (p := 11) (q118 10) rfl rfl ?_
    refine w_iln (p := 12) (q118 11) rfl rfl ?_
    obtain ⟨o3, w⟩ := w
    refine w_ias (p := 13) (q118 12) rfl (r55 hB) (by decide) o3 ?_
    refine w_iln (p := 14) (q118 13) rfl rfl ?_
    refine w_ic (p := 15) (q118 14) rfl ?_
    refine w_add (p := 16) (q118 15) rfl ?_
    exact w_ret (q118 16) rfl w
  · replace w := w.2 (Int.not_lt.mp c2)
    refine w_i1f (p := 4) (q118 1) rfl h1 c2 ?_
    refine w_iln (p := 5) (q118 4) rfl rfl ?_
    exact w_ret (q118 5) rfl w
