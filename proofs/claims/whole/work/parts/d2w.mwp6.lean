/-! printed by wip/am/mkd3.py: the reference makes a function type -/
theorem w138_0 {d : Nat} {B : aH} {Q : aR → Prop} (hB : a_Can B) (hd : 1 ≤ d) (x1 x2 : Int) (s : Nat → Nat → Int32) (l : Nat → Nat → Int64) (w : ((0 ≤ (zz s 56 16) ∧ (zz s 56 16) < 60000) ∧ Q (.inl (some (iv (((zz s 56 16) + 1) - 1))), (mkH B (zu (zu (zu (zu (zu s 64 (zz s 56 16).toNat 2) 65 (zz s 56 16).toNat x1) 66 (zz s 56 16).toNat x2) 67 (zz s 56 16).toNat (-1)) 56 16 ((zz s 56 16) + 1)) l)))) : a_W d 138 0 [.ref 56, iv x1, iv x2] [] (mkH B s l) Q := by
  refine w_aln (p := 1) (q138 0) rfl rfl ?_
  refine w_ic (p := 2) (q138 1) rfl ?_
  refine w_iln (p := 3) (q138 2) rfl rfl ?_
  refine w_iln (p := 4) (q138 3) rfl rfl ?_
  refine w_call (st := []) (as := [.ref 56, iv 2, iv x1, iv x2]) (as' := [iv x2, iv x1, iv 2, .ref 56]) (p := 7) (q138 4) rfl m137 (by decide) (a_ok_i rfl (r56 hB) rfl) rfl rfl (Nat.le_of_ble_eq_true rfl) (by omega) rfl rfl ?_
  refine w_aln (p := 1) (q137 0) rfl rfl ?_
  refine w_gR (p := 4) (j := 12) (v := 64) (q137 1) rfl (r56 hB) (by decide) (f56_12 hB) ?_
  refine w_aln (p := 5) (q137 4) rfl rfl ?_
  refine w_gI (p := 8) (j := 16) (v := (zz s 56 16)) (q137 5) rfl (r56 hB) (by decide) (iv_zz s 56 16) ?_
  refine w_iln (p := 9) (q137 8) rfl rfl ?_
  obtain ⟨o1, w⟩ := w
  refine w_ias (p := 10) (q137 9) rfl (r64 hB) (by decide) o1 ?_
  refine w_aln (p := 11) (q137 10) rfl rfl ?_
  refine w_gR (p := 14) (j := 13) (v := 65) (q137 11) rfl (r56 hB) (by decide) (f56_13 hB) ?_
  refine w_aln (p := 15) (q137 14) rfl rfl ?_
  refine w_gI (p := 18) (j := 16) (v := (zz s 56 16)) (q137 15) rfl (r56 hB) (by decide) (iv_zz s 56 16) ?_
  refine w_iln (p := 19) (q137 18) rfl rfl ?_
  refine w_ias (p := 20) (q137 19) rfl (r65 hB) (by decide) o1 ?_
  refine w_aln (p := 21) (q137 20) rfl rfl ?_
  refine w_gR (p := 24) (j := 14) (v := 66) (q137 21) rfl (r56 hB) (by decide) (f56_14 hB) ?_
  refine w_aln (p := 25) (q137 24) rfl rfl ?_
  refine w_gI (p := 28) (j := 16) (v := (zz s 56 16)) (q137 25) rfl (r56 hB) (by decide) (iv_zz s 56 16) ?_
  refine w_iln (p := 29) (q137 28) rfl rfl ?_
  refine w_ias (p := 30) (q137 29) rfl (r66 hB) (by decide) o1 ?_
  refine w_aln (p := 31) (q137 30) rfl rfl ?_
  refine w_gR (p := 34) (j := 15) (v := 67) (q137 31) rfl (r56 hB) (by decide) (f56_15 hB) ?_
  refine w_aln (p := 35) (q137 34) rfl rfl ?_
  refine w_gI (p := 38) (j := 16) (v := (zz s 56 16)) (q137 35) rfl (r56 hB) (by decide) (iv_zz s 56 16) ?_
  refine w_ic (p := 39) (q137 38) rfl ?_
  refine w_ias (p := 40) (q137 39) rfl (r67 hB) (by decide) o1 ?_
  refine w_aln (p := 41) (q137 40) rfl rfl ?_
  refine w_dupr (p := 42) (q137 41) rfl ?_
  refine w_gI (p := 45) (j := 16) (v := (zz s 56 16)) (q137 42) rfl (r56 hB) (by decide) (iv_zz s 56 16) ?_
  refine w_ic (p := 46) (q137 45) rfl ?_
  refine w_add (p := 47) (q137 46) rfl ?_
  refine w_pI (p := 50) (j := 16) (q137 47) rfl (r56 hB) (by decide) rfl ?_
  refine w_aln (p := 51) (q137 50) rfl rfl ?_
  refine w_gI (p := 54) (j := 16) (v := ((zz s 56 16) + 1)) (q137 51) rfl (r56 hB) (by decide) rfl ?_
  refine w_ic (p := 55) (q137 54) rfl ?_
  refine w_sub (p := 56) (q137 55) rfl ?_
  refine w_ret (q137 56) rfl ⟨_, _, rfl, ?_⟩
  show a_W _ 138 7 [.ref 56, iv x1, iv x2] [iv (((zz s 56 16) + 1) - 1)] _ _
  exact w_ret (q138 7) rfl w
