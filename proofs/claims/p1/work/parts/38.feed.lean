/-! printed by wip/am/mk38.py: more rules; feed -/
section
variable {d y pc p a b : Nat} {w : List Nat} {ls ls' st : List Value} {h B : aH} {s : Nat → Nat → Int32} {l : Nat → Nat → Int64} {Q : aR → Prop}
theorem ofI_div {x z : Int} (hx : inR x) (h0 : 0 ≤ x) (hz : 0 < z ∧ z < 2147483648) : Int32.ofInt x / Int32.ofInt z = Int32.ofInt (x / z) := by
  apply Int32.toInt_inj.mp
  have h1 : x / z ≤ x := Int.ediv_le_self _ h0
  have h2 : 0 ≤ x / z := Int.ediv_nonneg h0 (by omega)
  rw [Int32.toInt_div, toI hx, toI ⟨by omega, by omega⟩, toI ⟨by omega, by omega⟩, Int.tdiv_eq_ediv_of_nonneg h0]
  exact Int.bmod_eq_of_le (by omega) (by omega)
theorem w_div {x z : Int} (hc : aCode y pc = some (.idiv, a, b, w)) (hp : pc + 1 = p) (hx : inR x) (h0 : 0 ≤ x) (hz : 0 < z ∧ z < 2147483648) (K : a_W d y p ls (iv (x / z) :: st) h Q) : a_W d y pc ls (iv z :: iv x :: st) h Q := by
  subst hp
  refine w_st hc ?_ K
  have e : ¬ Int32.ofInt z = 0 := by
    show ¬ Int32.ofInt z = Int32.ofInt 0
    rw [ofI_eq ⟨by omega, by omega⟩ ⟨by decide, by decide⟩]
    omega
  show (if Int32.ofInt z = 0 then none else some (Sum.inl (pc + 1, ls, Value.int (Int32.ofInt x / Int32.ofInt z) :: st, h))) = _
  rw [if_neg e, ofI_div hx h0 hz]
theorem w_rem {x z : Int} (hc : aCode y pc = some (.irem, a, b, w)) (hp : pc + 1 = p) (hx : inR x) (h0 : 0 ≤ x) (hz : 0 < z ∧ z < 2147483648) (K : a_W d y p ls (iv (x % z) :: st) h Q) : a_W d y pc ls (iv z :: iv x :: st) h Q := by
  subst hp
  refine w_st hc ?_ K
  have e : ¬ Int32.ofInt z = 0 := by
    show ¬ Int32.ofInt z = Int32.ofInt 0
    rw [ofI_eq ⟨by omega, by omega⟩ ⟨by decide, by decide⟩]
    omega
  show (if Int32.ofInt z = 0 then none else some (Sum.inl (pc + 1, ls, Value.int (Int32.ofInt x - Int32.ofInt x / Int32.ofInt z * Int32.ofInt z) :: st, h))) = _
  rw [if_neg e, ofI_div hx h0 hz, ← Int32.ofInt_mul, ← Int32.ofInt_sub]
  have e2 : x - x / z * z = x % z := by
    have := Int.emod_add_mul_ediv x z
    have e3 : x / z * z = z * (x / z) := Int.mul_comm _ _
    omega
  rw [e2]
end
theorem w17_0 {d : Nat} {B : aH} {Q : aR → Prop} (hB : a_Can B) (x1 : Int) (s : Nat → Nat → Int32) (l : Nat → Nat → Int64) (w : a_W d 17 3 [.ref 1, iv x1, iv 24] [] (mkH B s l) Q) : a_W d 17 0 [.ref 1, iv x1, .retAddr 0] [] (mkH B s l) Q := by
  refine w_bp (p := 2) (q17 0) rfl (by decide) ?_
  refine w_isn (p := 3) (ls' := [.ref 1, iv x1, iv 24]) (q17 2) rfl (Nat.le_of_ble_eq_true rfl) rfl ?_
  exact w
theorem w17_3 {d : Nat} {B : aH} {Q : aR → Prop} (hB : a_Can B) (x1 x2 : Int) (s : Nat → Nat → Int32) (l : Nat → Nat → Int64) (w : (inR x2 ∧ ((x2 < 0 → Q (.inl none, (mkH B s l))) ∧ (0 ≤ x2 → ((8000 ≤ (zz s 1 2) → Q (.inl none, (mkH B s l))) ∧ ((zz s 1 2) < 8000 → ((0 ≤ (zz s 1 2) ∧ (zz s 1 2) < 8000) ∧ (-128 ≤ (((Int32.ofInt ((((Int32.ofInt x1).toUInt32 >>> ((Int32.ofInt x2).toUInt32 &&& Int32.toUInt32 31)).toInt32).toInt)).toInt8.toInt32).toInt) ∧ (((Int32.ofInt ((((Int32.ofInt x1).toUInt32 >>> ((Int32.ofInt x2).toUInt32 &&& Int32.toUInt32 31)).toInt32).toInt)).toInt8.toInt32).toInt) ≤ 127) ∧ a_W d 17 3 [.ref 1, iv x1, iv (x2 + (-8))] [] (mkH B (zu (zu s 2 (zz s 1 2).toNat (((Int32.ofInt ((((Int32.ofInt x1).toUInt32 >>> ((Int32.ofInt x2).toUInt32 &&& Int32.toUInt32 31)).toInt32).toInt)).toInt8.toInt32).toInt)) 1 2 ((zz s 1 2) + 1)) l) Q))))))) : a_W d 17 3 [.ref 1, iv x1, iv x2] [] (mkH B s l) Q := by
  refine w_iln (p := 4) (q17 3) rfl rfl ?_
  obtain ⟨h1, w⟩ := w
  by_cases c2 : x2 < 0
  · replace w := w.1 c2
    refine w_i1t (q17 4) h1 c2 ?_
    exact w_rv (q17 46) rfl w
  · replace w := w.2 (Int.not_lt.mp c2)
    refine w_i1f (p := 7) (q17 4) rfl h1 c2 ?_
    refine w_aln (p := 8) (q17 7) rfl rfl ?_
    refine w_gI (p := 11) (j := 2) (v := (zz s 1 2)) (q17 8) rfl (r1 hB) (by decide) (iv_zz s 1 2) ?_
    refine w_sp (p := 14) (q17 11) rfl (by decide) ?_
    by_cases c3 : 8000 ≤ (zz s 1 2)
    · replace w := w.1 c3
      refine w_i2t (q17 14) (inR_zz _ _ _) (by decide) c3 ?_
      exact w_rv (q17 46) rfl w
    · replace w := w.2 (Int.not_le.mp c3)
      refine w_i2f (p := 17) (q17 14) rfl (inR_zz _ _ _) (by decide) c3 ?_
      refine w_aln (p := 18) (q17 17) rfl rfl ?_
      refine w_gR (p := 21) (j := 0) (v := 2) (q17 18) rfl (r1 hB) (by decide) (f1_0 hB) ?_
      refine w_aln (p := 22) (q17 21) rfl rfl ?_
      refine w_gI (p := 25) (j := 2) (v := (zz s 1 2)) (q17 22) rfl (r1 hB) (by decide) (iv_zz s 1 2) ?_
      refine w_iln (p := 26) (q17 25) rfl rfl ?_
      refine w_iln (p := 27) (q17 26) rfl rfl ?_
      refine w_ushr (p := 28) (q17 27) rfl ?_
      refine w_i2b (p := 29) (q17 28) rfl ?_
      obtain ⟨o4, w⟩ := w
      obtain ⟨o5, w⟩ := w
      refine w_bas (p := 30) (v := (((Int32.ofInt ((((Int32.ofInt x1).toUInt32 >>> ((Int32.ofInt x2).toUInt32 &&& Int32.toUInt32 31)).toInt32).toInt)).toInt8.toInt32).toInt)) (q17 29) rfl (r2 hB) (by decide) o4 (nar_b o5) ?_
      refine w_aln (p := 31) (q17 30) rfl rfl ?_
      refine w_dupr (p := 32) (q17 31) rfl ?_
      refine w_gI (p := 35) (j := 2) (v := (zz s 1 2)) (q17 32) rfl (r1 hB) (by decide) (iv_zz s 1 2) ?_
      refine w_ic (p := 36) (q17 35) rfl ?_
      refine w_add (p := 37) (q17 36) rfl ?_
      refine w_pI (p := 40) (j := 2) (q17 37) rfl (r1 hB) (by decide) rfl ?_
      refine w_inc (p := 43) (ls' := [.ref 1, iv x1, iv (x2 + (-8))]) (q17 40) rfl rfl rfl ?_
      refine w_goto (q17 43) ?_
      exact w
theorem w15_0 {d : Nat} {B : aH} {Q : aR → Prop} (hB : a_Can B) (hd : 1 ≤ d) (x1 x2 x3 x4 x5 : Int) (s : Nat → Nat → Int32) (l : Nat → Nat → Int64) (w : (((zz s 1 2) ≤ 7980 → a_W (d - 1) 17 0 [.ref 1, iv x1, .retAddr 0] [] (mkH B s l) (fun r => ∃ (s2 : Nat → Nat → Int32) (l3 : Nat → Nat → Int64), r = (.inl none, mkH B s2 l3) ∧ a_W (d - 1) 17 0 [.ref 1, iv x2, .retAddr 0] [] (mkH B s2 l3) (fun r => ∃ (s4 : Nat → Nat → Int32) (l5 : Nat → Nat → Int64), r = (.inl none, mkH B s4 l5) ∧ a_W (d - 1) 17 0 [.ref 1, iv x3, .retAddr 0] [] (mkH B s4 l5) (fun r => ∃ (s6 : Nat → Nat → Int32) (l7 : Nat → Nat → Int64), r = (.inl none, mkH B s6 l7) ∧ a_W (d - 1) 17 0 [.ref 1, iv x4, .retAddr 0] [] (mkH B s6 l7) (fun r => ∃ (s8 : Nat → Nat → Int32) (l9 : Nat → Nat → Int64), r = (.inl none, mkH B s8 l9) ∧ a_W (d - 1) 17 0 [.ref 1, iv x5, .retAddr 0] [] (mkH B s8 l9) (fun r => ∃ (s10 : Nat → Nat → Int32) (l11 : Nat → Nat → Int64), r = (.inl none, mkH B s10 l11) ∧ Q (.inl (some (iv 1)), (mkH B s10 l11)))))))) ∧ (7980 < (zz s 1 2) → Q (.inl (some (iv 0)), (mkH B s l))))) : a_W d 15 0 [.ref 0, iv x1, iv x2, iv x3, iv x4, iv x5] [] (mkH B s l) Q := by
  refine w_aln (p := 1) (q15 0) rfl rfl ?_
  refine w_gR (p := 4) (j := 0) (v := 1) (q15 1) rfl (r0 hB) (by decide) (f0_0 hB) ?_
  refine w_call (st := []) (as := [.ref 1]) (as' := [.ref 1]) (p := 7) (q15 4) rfl m16 (by decide) (a_ok_i rfl (r1 hB) rfl) rfl rfl (Nat.le_of_ble_eq_true rfl) (by omega) rfl rfl ?_
  refine w_aln (p := 1) (q16 0) rfl rfl ?_
  refine w_gI (p := 4) (j := 2) (v := (zz s 1 2)) (q16 1) rfl (r1 hB) (by decide) (iv_zz s 1 2) ?_
  refine w_sp (p := 7) (q16 4) rfl (by decide) ?_
  by_cases c1 : (zz s 1 2) ≤ 7980
  · replace w := w.1 c1
    refine w_i2t (q16 7) (inR_zz _ _ _) (by decide) c1 ?_
    refine w_ic (p := 15) (q16 14) rfl ?_
    refine w_ret (q16 15) rfl ⟨_, _, rfl, ?_⟩
    show a_W _ 15 7 [.ref 0, iv x1, iv x2, iv x3, iv x4, iv x5] [iv 0] _ _
    refine w_i1t (q15 7) (by decide) (show zc _ _ _ by unfold zc; omega) ?_
    refine w_aln (p := 13) (q15 12) rfl rfl ?_
    refine w_gR (p := 16) (j := 0) (v := 1) (q15 13) rfl (r0 hB) (by decide) (f0_0 hB) ?_
    refine w_iln (p := 17) (q15 16) rfl rfl ?_
    refine w_call (st := []) (as := [.ref 1, iv x1]) (as' := [iv x1, .ref 1]) (p := 20) (q15 17) rfl m17 (by decide) (a_ok_i rfl (r1 hB) rfl) rfl rfl (Nat.le_of_ble_eq_true rfl) (by omega) rfl rfl (a_W.imp w ?_)
    rintro _ ⟨s2, l3, rfl, w⟩
    refine ⟨none, _, rfl, ?_⟩
    show a_W _ 15 20 [.ref 0, iv x1, iv x2, iv x3, iv x4, iv x5] [] (mkH B s2 l3) _
    refine w_aln (p := 21) (q15 20) rfl rfl ?_
    refine w_gR (p := 24) (j := 0) (v := 1) (q15 21) rfl (r0 hB) (by decide) (f0_0 hB) ?_
    refine w_iln (p := 25) (q15 24) rfl rfl ?_
    refine w_call (st := []) (as := [.ref 1, iv x2]) (as' := [iv x2, .ref 1]) (p := 28) (q15 25) rfl m17 (by decide) (a_ok_i rfl (r1 hB) rfl) rfl rfl (Nat.le_of_ble_eq_true rfl) (by omega) rfl rfl (a_W.imp w ?_)
    rintro _ ⟨s4, l5, rfl, w⟩
    refine ⟨none, _, rfl, ?_⟩
    show a_W _ 15 28 [.ref 0, iv x1, iv x2, iv x3, iv x4, iv x5] [] (mkH B s4 l5) _
    refine w_aln (p := 29) (q15 28) rfl rfl ?_
    refine w_gR (p := 32) (j := 0) (v := 1) (q15 29) rfl (r0 hB) (by decide) (f0_0 hB) ?_
    refine w_iln (p := 33) (q15 32) rfl rfl ?_
    refine w_call (st := []) (as := [.ref 1, iv x3]) (as' := [iv x3, .ref 1]) (p := 36) (q15 33) rfl m17 (by decide) (a_ok_i rfl (r1 hB) rfl) rfl rfl (Nat.le_of_ble_eq_true rfl) (by omega) rfl rfl (a_W.imp w ?_)
    rintro _ ⟨s6, l7, rfl, w⟩
    refine ⟨none, _, rfl, ?_⟩
    show a_W _ 15 36 [.ref 0, iv x1, iv x2, iv x3, iv x4, iv x5] [] (mkH B s6 l7) _
    refine w_aln (p := 37) (q15 36) rfl rfl ?_
    refine w_gR (p := 40) (j := 0) (v := 1) (q15 37) rfl (r0 hB) (by decide) (f0_0 hB) ?_
    refine w_il (p := 42) (q15 40) rfl rfl ?_
    refine w_call (st := []) (as := [.ref 1, iv x4]) (as' := [iv x4, .ref 1]) (p := 45) (q15 42) rfl m17 (by decide) (a_ok_i rfl (r1 hB) rfl) rfl rfl (Nat.le_of_ble_eq_true rfl) (by omega) rfl rfl (a_W.imp w ?_)
    rintro _ ⟨s8, l9, rfl, w⟩
    refine ⟨none, _, rfl, ?_⟩
    show a_W _ 15 45 [.ref 0, iv x1, iv x2, iv x3, iv x4, iv x5] [] (mkH B s8 l9) _
    refine w_aln (p := 46) (q15 45) rfl rfl ?_
    refine w_gR (p := 49) (j := 0) (v := 1) (q15 46) rfl (r0 hB) (by decide) (f0_0 hB) ?_
    refine w_il (p := 51) (q15 49) rfl rfl ?_
    refine w_call (st := []) (as := [.ref 1, iv x5]) (as' := [iv x5, .ref 1]) (p := 54) (q15 51) rfl m17 (by decide) (a_ok_i rfl (r1 hB) rfl) rfl rfl (Nat.le_of_ble_eq_true rfl) (by omega) rfl rfl (a_W.imp w ?_)
    rintro _ ⟨s10, l11, rfl, w⟩
    refine ⟨none, _, rfl, ?_⟩
    show a_W _ 15 54 [.ref 0, iv x1, iv x2, iv x3, iv x4, iv x5] [] (mkH B s10 l11) _
    refine w_ic (p := 55) (q15 54) rfl ?_
    exact w_ret (q15 55) rfl w
  · replace w := w.2 (Int.not_le.mp c1)
    refine w_i2f (p := 10) (q16 7) rfl (inR_zz _ _ _) (by decide) c1 ?_
    refine w_ic (p := 11) (q16 10) rfl ?_
    refine w_goto (q16 11) ?_
    refine w_ret (q16 15) rfl ⟨_, _, rfl, ?_⟩
    show a_W _ 15 7 [.ref 0, iv x1, iv x2, iv x3, iv x4, iv x5] [iv 1] _ _
    refine w_i1f (p := 10) (q15 7) rfl (by decide) (show ¬ zc _ _ _ by unfold zc; omega) ?_
    refine w_ic (p := 11) (q15 10) rfl ?_
    exact w_ret (q15 11) rfl w
theorem w142_0 {d : Nat} {B : aH} {Q : aR → Prop} (hB : a_Can B) (x1 x2 x3 x4 x5 : Int) (s : Nat → Nat → Int32) (l : Nat → Nat → Int64) (w : (((zz s 56 2) ≠ 8000 → a_W d 142 20 [.ref 56, iv x1, iv x2, iv x3, iv x4, iv x5, iv 0, .retAddr 0] [] (mkH B (zu s 56 0 0) l) Q) ∧ ((zz s 56 2) = 8000 → Q (.inl (some (iv 0)), (mkH B (zu s 56 0 0) l))))) : a_W d 142 0 [.ref 56, iv x1, iv x2, iv x3, iv x4, iv x5, .retAddr 0, .retAddr 0] [] (mkH B s l) Q := by
  refine w_aln (p := 1) (q142 0) rfl rfl ?_
  refine w_ic (p := 2) (q142 1) rfl ?_
  refine w_pI (p := 5) (j := 0) (q142 2) rfl (r56 hB) (by decide) rfl ?_
  refine w_aln (p := 6) (q142 5) rfl rfl ?_
  refine w_gI (p := 9) (j := 2) (v := (zz s 56 2)) (q142 6) rfl (r56 hB) (by decide) (iv_zz s 56 2) ?_
  refine w_sp (p := 12) (q142 9) rfl (by decide) ?_
  by_cases c1 : (zz s 56 2) ≠ 8000
  · replace w := w.1 c1
    refine w_i2t (q142 12) (inR_zz _ _ _) (by decide) c1 ?_
    refine w_ic (p := 18) (q142 17) rfl ?_
    refine w_is (p := 20) (ls' := [.ref 56, iv x1, iv x2, iv x3, iv x4, iv x5, iv 0, .retAddr 0]) (q142 18) rfl (Nat.le_of_ble_eq_true rfl) rfl ?_
    exact w
  · replace w := w.2 (Decidable.not_not.mp c1)
    refine w_i2f (p := 15) (q142 12) rfl (inR_zz _ _ _) (by decide) c1 ?_
    refine w_ic (p := 16) (q142 15) rfl ?_
    exact w_ret (q142 16) rfl w
theorem w142_20 {d : Nat} {B : aH} {Q : aR → Prop} (hB : a_Can B) (x1 x2 x3 x4 x5 x6 : Int) (u7 : Value) (s : Nat → Nat → Int32) (l : Nat → Nat → Int64) (w : (inR x6 ∧ ((20 ≤ x6 → Q (.inl (some (iv 1)), (mkH B s l))) ∧ (x6 < 20 → ((4 ≤ x6 → ((8 ≤ x6 → ((12 ≤ x6 → ((16 ≤ x6 → (0 ≤ x6 ∧ ((0 ≤ (zz s 56 2) ∧ (zz s 56 2) < 8000) ∧ a_W d 142 20 [.ref 56, iv x1, iv x2, iv x3, iv x4, iv x5, iv (x6 + 1), iv x5] [] (mkH B (zu (zu s 57 (zz s 56 2).toNat ((Int32.ofInt ((Int32.ofInt x5 >>> (Int32.ofInt (24 - (8 * (x6 % 4))) &&& 31)).toInt) &&& Int32.ofInt 255).toInt)) 56 2 ((zz s 56 2) + 1)) l) Q))) ∧ (x6 < 16 → (0 ≤ x6 ∧ ((0 ≤ (zz s 56 2) ∧ (zz s 56 2) < 8000) ∧ a_W d 142 20 [.ref 56, iv x1, iv x2, iv x3, iv x4, iv x5, iv (x6 + 1), iv x4] [] (mkH B (zu (zu s 57 (zz s 56 2).toNat ((Int32.ofInt ((Int32.ofInt x4 >>> (Int32.ofInt (24 - (8 * (x6 % 4))) &&& 31)).toInt) &&& Int32.ofInt 255).toInt)) 56 2 ((zz s 56 2) + 1)) l) Q))))) ∧ (x6 < 12 → (0 ≤ x6 ∧ ((0 ≤ (zz s 56 2) ∧ (zz s 56 2) < 8000) ∧ a_W d 142 20 [.ref 56, iv x1, iv x2, iv x3, iv x4, iv x5, iv (x6 + 1), iv x3] [] (mkH B (zu (zu s 57 (zz s 56 2).toNat ((Int32.ofInt ((Int32.ofInt x3 >>> (Int32.ofInt (24 - (8 * (x6 % 4))) &&& 31)).toInt) &&& Int32.ofInt 255).toInt)) 56 2 ((zz s 56 2) + 1)) l) Q))))) ∧ (x6 < 8 → (0 ≤ x6 ∧ ((0 ≤ (zz s 56 2) ∧ (zz s 56 2) < 8000) ∧ a_W d 142 20 [.ref 56, iv x1, iv x2, iv x3, iv x4, iv x5, iv (x6 + 1), iv x2] [] (mkH B (zu (zu s 57 (zz s 56 2).toNat ((Int32.ofInt ((Int32.ofInt x2 >>> (Int32.ofInt (24 - (8 * (x6 % 4))) &&& 31)).toInt) &&& Int32.ofInt 255).toInt)) 56 2 ((zz s 56 2) + 1)) l) Q))))) ∧ (x6 < 4 → (0 ≤ x6 ∧ ((0 ≤ (zz s 56 2) ∧ (zz s 56 2) < 8000) ∧ a_W d 142 20 [.ref 56, iv x1, iv x2, iv x3, iv x4, iv x5, iv (x6 + 1), iv x1] [] (mkH B (zu (zu s 57 (zz s 56 2).toNat ((Int32.ofInt ((Int32.ofInt x1 >>> (Int32.ofInt (24 - (8 * (x6 % 4))) &&& 31)).toInt) &&& Int32.ofInt 255).toInt)) 56 2 ((zz s 56 2) + 1)) l) Q)))))))) : a_W d 142 20 [.ref 56, iv x1, iv x2, iv x3, iv x4, iv x5, iv x6, u7] [] (mkH B s l) Q := by
  refine w_il (p := 22) (q142 20) rfl rfl ?_
  refine w_bp (p := 24) (q142 22) rfl (by decide) ?_
  obtain ⟨h1, w⟩ := w
  by_cases c2 : 20 ≤ x6
  · replace w := w.1 c2
    refine w_i2t (q142 24) h1 (by decide) c2 ?_
    refine w_ic (p := 118) (q142 117) rfl ?_
    exact w_ret (q142 118) rfl w
  · replace w := w.2 (Int.not_le.mp c2)
    refine w_i2f (p := 27) (q142 24) rfl h1 (by decide) c2 ?_
    refine w_il (p := 29) (q142 27) rfl rfl ?_
    refine w_ic (p := 30) (q142 29) rfl ?_
    by_cases c3 : 4 ≤ x6
    · replace w := w.1 c3
      refine w_i2t (q142 30) h1 (by decide) c3 ?_
      refine w_il (p := 39) (q142 37) rfl rfl ?_
      refine w_bp (p := 41) (q142 39) rfl (by decide) ?_
      by_cases c4 : 8 ≤ x6
      · replace w := w.1 c4
        refine w_i2t (q142 41) h1 (by decide) c4 ?_
        refine w_il (p := 50) (q142 48) rfl rfl ?_
        refine w_bp (p := 52) (q142 50) rfl (by decide) ?_
        by_cases c5 : 12 ≤ x6
        · replace w := w.1 c5
          refine w_i2t (q142 52) h1 (by decide) c5 ?_
          refine w_il (p := 61) (q142 59) rfl rfl ?_
          refine w_bp (p := 63) (q142 61) rfl (by decide) ?_
          by_cases c6 : 16 ≤ x6
          · replace w := w.1 c6
            refine w_i2t (q142 63) h1 (by decide) c6 ?_
            refine w_il (p := 73) (q142 71) rfl rfl ?_
            refine w_is (p := 75) (ls' := [.ref 56, iv x1, iv x2, iv x3, iv x4, iv x5, iv x6, iv x5]) (q142 73) rfl (Nat.le_of_ble_eq_true rfl) rfl ?_
            refine w_aln (p := 76) (q142 75) rfl rfl ?_
            refine w_gR (p := 79) (j := 1) (v := 57) (q142 76) rfl (r56 hB) (by decide) (f56_1 hB) ?_
            refine w_aln (p := 80) (q142 79) rfl rfl ?_
            refine w_gI (p := 83) (j := 2) (v := (zz s 56 2)) (q142 80) rfl (r56 hB) (by decide) (iv_zz s 56 2) ?_
            refine w_il (p := 85) (q142 83) rfl rfl ?_
            refine w_bp (p := 87) (q142 85) rfl (by decide) ?_
            refine w_bp (p := 89) (q142 87) rfl (by decide) ?_
            refine w_il (p := 91) (q142 89) rfl rfl ?_
            refine w_ic (p := 92) (q142 91) rfl ?_
            obtain ⟨o7, w⟩ := w
            refine w_rem (p := 93) (q142 92) rfl h1 o7 (by decide) ?_
            refine w_mulz (p := 94) (q142 93) rfl ?_
            refine w_sub (p := 95) (q142 94) rfl ?_
            refine w_shr (p := 96) (q142 95) rfl ?_
            refine w_sp (p := 99) (q142 96) rfl (by decide) ?_
            refine w_and (p := 100) (q142 99) rfl ?_
            obtain ⟨o8, w⟩ := w
            refine w_ias (p := 101) (q142 100) rfl (r57 hB) (by decide) o8 ?_
            refine w_aln (p := 102) (q142 101) rfl rfl ?_
            refine w_dupr (p := 103) (q142 102) rfl ?_
            refine w_gI (p := 106) (j := 2) (v := (zz s 56 2)) (q142 103) rfl (r56 hB) (by decide) (iv_zz s 56 2) ?_
            refine w_ic (p := 107) (q142 106) rfl ?_
            refine w_add (p := 108) (q142 107) rfl ?_
            refine w_pI (p := 111) (j := 2) (q142 108) rfl (r56 hB) (by decide) rfl ?_
            refine w_inc (p := 114) (ls' := [.ref 56, iv x1, iv x2, iv x3, iv x4, iv x5, iv (x6 + 1), iv x5]) (q142 111) rfl rfl rfl ?_
            refine w_goto (q142 114) ?_
            exact w
          · replace w := w.2 (Int.not_le.mp c6)
            refine w_i2f (p := 66) (q142 63) rfl h1 (by decide) c6 ?_
            refine w_il (p := 68) (q142 66) rfl rfl ?_
            refine w_goto (q142 68) ?_
            refine w_is (p := 75) (ls' := [.ref 56, iv x1, iv x2, iv x3, iv x4, iv x5, iv x6, iv x4]) (q142 73) rfl (Nat.le_of_ble_eq_true rfl) rfl ?_
            refine w_aln (p := 76) (q142 75) rfl rfl ?_
            refine w_gR (p := 79) (j := 1) (v := 57) (q142 76) rfl (r56 hB) (by decide) (f56_1 hB) ?_
            refine w_aln (p := 80) (q142 79) rfl rfl ?_
            refine w_gI (p := 83) (j := 2) (v := (zz s 56 2)) (q142 80) rfl (r56 hB) (by decide) (iv_zz s 56 2) ?_
            refine w_il (p := 85) (q142 83) rfl rfl ?_
            refine w_bp (p := 87) (q142 85) rfl (by decide) ?_
            refine w_bp (p := 89) (q142 87) rfl (by decide) ?_
            refine w_il (p := 91) (q142 89) rfl rfl ?_
            refine w_ic (p := 92) (q142 91) rfl ?_
            obtain ⟨o9, w⟩ := w
            refine w_rem (p := 93) (q142 92) rfl h1 o9 (by decide) ?_
            refine w_mulz (p := 94) (q142 93) rfl ?_
            refine w_sub (p := 95) (q142 94) rfl ?_
            refine w_shr (p := 96) (q142 95) rfl ?_
            refine w_sp (p := 99) (q142 96) rfl (by decide) ?_
            refine w_and (p := 100) (q142 99) rfl ?_
            obtain ⟨o10, w⟩ := w
            refine w_ias (p := 101) (q142 100) rfl (r57 hB) (by decide) o10 ?_
            refine w_aln (p := 102) (q142 101) rfl rfl ?_
            refine w_dupr (p := 103) (q142 102) rfl ?_
            refine w_gI (p := 106) (j := 2) (v := (zz s 56 2)) (q142 103) rfl (r56 hB) (by decide) (iv_zz s 56 2) ?_
            refine w_ic (p := 107) (q142 106) rfl ?_
            refine w_add (p := 108) (q142 107) rfl ?_
            refine w_pI (p := 111) (j := 2) (q142 108) rfl (r56 hB) (by decide) rfl ?_
            refine w_inc (p := 114) (ls' := [.ref 56, iv x1, iv x2, iv x3, iv x4, iv x5, iv (x6 + 1), iv x4]) (q142 111) rfl rfl rfl ?_
            refine w_goto (q142 114) ?_
            exact w
        · replace w := w.2 (Int.not_le.mp c5)
          refine w_i2f (p := 55) (q142 52) rfl h1 (by decide) c5 ?_
          refine w_iln (p := 56) (q142 55) rfl rfl ?_
          refine w_goto (q142 56) ?_
          refine w_is (p := 75) (ls' := [.ref 56, iv x1, iv x2, iv x3, iv x4, iv x5, iv x6, iv x3]) (q142 73) rfl (Nat.le_of_ble_eq_true rfl) rfl ?_
          refine w_aln (p := 76) (q142 75) rfl rfl ?_
          refine w_gR (p := 79) (j := 1) (v := 57) (q142 76) rfl (r56 hB) (by decide) (f56_1 hB) ?_
          refine w_aln (p := 80) (q142 79) rfl rfl ?_
          refine w_gI (p := 83) (j := 2) (v := (zz s 56 2)) (q142 80) rfl (r56 hB) (by decide) (iv_zz s 56 2) ?_
          refine w_il (p := 85) (q142 83) rfl rfl ?_
          refine w_bp (p := 87) (q142 85) rfl (by decide) ?_
          refine w_bp (p := 89) (q142 87) rfl (by decide) ?_
          refine w_il (p := 91) (q142 89) rfl rfl ?_
          refine w_ic (p := 92) (q142 91) rfl ?_
          obtain ⟨o11, w⟩ := w
          refine w_rem (p := 93) (q142 92) rfl h1 o11 (by decide) ?_
          refine w_mulz (p := 94) (q142 93) rfl ?_
          refine w_sub (p := 95) (q142 94) rfl ?_
          refine w_shr (p := 96) (q142 95) rfl ?_
          refine w_sp (p := 99) (q142 96) rfl (by decide) ?_
          refine w_and (p := 100) (q142 99) rfl ?_
          obtain ⟨o12, w⟩ := w
          refine w_ias (p := 101) (q142 100) rfl (r57 hB) (by decide) o12 ?_
          refine w_aln (p := 102) (q142 101) rfl rfl ?_
          refine w_dupr (p := 103) (q142 102) rfl ?_
          refine w_gI (p := 106) (j := 2) (v := (zz s 56 2)) (q142 103) rfl (r56 hB) (by decide) (iv_zz s 56 2) ?_
          refine w_ic (p := 107) (q142 106) rfl ?_
          refine w_add (p := 108) (q142 107) rfl ?_
          refine w_pI (p := 111) (j := 2) (q142 108) rfl (r56 hB) (by decide) rfl ?_
          refine w_inc (p := 114) (ls' := [.ref 56, iv x1, iv x2, iv x3, iv x4, iv x5, iv (x6 + 1), iv x3]) (q142 111) rfl rfl rfl ?_
          refine w_goto (q142 114) ?_
          exact w
      · replace w := w.2 (Int.not_le.mp c4)
        refine w_i2f (p := 44) (q142 41) rfl h1 (by decide) c4 ?_
        refine w_iln (p := 45) (q142 44) rfl rfl ?_
        refine w_goto (q142 45) ?_
        refine w_is (p := 75) (ls' := [.ref 56, iv x1, iv x2, iv x3, iv x4, iv x5, iv x6, iv x2]) (q142 73) rfl (Nat.le_of_ble_eq_true rfl) rfl ?_
        refine w_aln (p := 76) (q142 75) rfl rfl ?_
        refine w_gR (p := 79) (j := 1) (v := 57) (q142 76) rfl (r56 hB) (by decide) (f56_1 hB) ?_
        refine w_aln (p := 80) (q142 79) rfl rfl ?_
        refine w_gI (p := 83) (j := 2) (v := (zz s 56 2)) (q142 80) rfl (r56 hB) (by decide) (iv_zz s 56 2) ?_
        refine w_il (p := 85) (q142 83) rfl rfl ?_
        refine w_bp (p := 87) (q142 85) rfl (by decide) ?_
        refine w_bp (p := 89) (q142 87) rfl (by decide) ?_
        refine w_il (p := 91) (q142 89) rfl rfl ?_
        refine w_ic (p := 92) (q142 91) rfl ?_
        obtain ⟨o13, w⟩ := w
        refine w_rem (p := 93) (q142 92) rfl h1 o13 (by decide) ?_
        refine w_mulz (p := 94) (q142 93) rfl ?_
        refine w_sub (p := 95) (q142 94) rfl ?_
        refine w_shr (p := 96) (q142 95) rfl ?_
        refine w_sp (p := 99) (q142 96) rfl (by decide) ?_
        refine w_and (p := 100) (q142 99) rfl ?_
        obtain ⟨o14, w⟩ := w
        refine w_ias (p := 101) (q142 100) rfl (r57 hB) (by decide) o14 ?_
        refine w_aln (p := 102) (q142 101) rfl rfl ?_
        refine w_dupr (p := 103) (q142 102) rfl ?_
        refine w_gI (p := 106) (j := 2) (v := (zz s 56 2)) (q142 103) rfl (r56 hB) (by decide) (iv_zz s 56 2) ?_
        refine w_ic (p := 107) (q142 106) rfl ?_
        refine w_add (p := 108) (q142 107) rfl ?_
        refine w_pI (p := 111) (j := 2) (q142 108) rfl (r56 hB) (by decide) rfl ?_
        refine w_inc (p := 114) (ls' := [.ref 56, iv x1, iv x2, iv x3, iv x4, iv x5, iv (x6 + 1), iv x2]) (q142 111) rfl rfl rfl ?_
        refine w_goto (q142 114) ?_
        exact w
    · replace w := w.2 (Int.not_le.mp c3)
      refine w_i2f (p := 33) (q142 30) rfl h1 (by decide) c3 ?_
      refine w_iln (p := 34) (q142 33) rfl rfl ?_
      refine w_goto (q142 34) ?_
      refine w_is (p := 75) (ls' := [.ref 56, iv x1, iv x2, iv x3, iv x4, iv x5, iv x6, iv x1]) (q142 73) rfl (Nat.le_of_ble_eq_true rfl) rfl ?_
      refine w_aln (p := 76) (q142 75) rfl rfl ?_
      refine w_gR (p := 79) (j := 1) (v := 57) (q142 76) rfl (r56 hB) (by decide) (f56_1 hB) ?_
      refine w_aln (p := 80) (q142 79) rfl rfl ?_
      refine w_gI (p := 83) (j := 2) (v := (zz s 56 2)) (q142 80) rfl (r56 hB) (by decide) (iv_zz s 56 2) ?_
      refine w_il (p := 85) (q142 83) rfl rfl ?_
      refine w_bp (p := 87) (q142 85) rfl (by decide) ?_
      refine w_bp (p := 89) (q142 87) rfl (by decide) ?_
      refine w_il (p := 91) (q142 89) rfl rfl ?_
      refine w_ic (p := 92) (q142 91) rfl ?_
      obtain ⟨o15, w⟩ := w
      refine w_rem (p := 93) (q142 92) rfl h1 o15 (by decide) ?_
      refine w_mulz (p := 94) (q142 93) rfl ?_
      refine w_sub (p := 95) (q142 94) rfl ?_
      refine w_shr (p := 96) (q142 95) rfl ?_
      refine w_sp (p := 99) (q142 96) rfl (by decide) ?_
      refine w_and (p := 100) (q142 99) rfl ?_
      obtain ⟨o16, w⟩ := w
      refine w_ias (p := 101) (q142 100) rfl (r57 hB) (by decide) o16 ?_
      refine w_aln (p := 102) (q142 101) rfl rfl ?_
      refine w_dupr (p := 103) (q142 102) rfl ?_
      refine w_gI (p := 106) (j := 2) (v := (zz s 56 2)) (q142 103) rfl (r56 hB) (by decide) (iv_zz s 56 2) ?_
      refine w_ic (p := 107) (q142 106) rfl ?_
      refine w_add (p := 108) (q142 107) rfl ?_
      refine w_pI (p := 111) (j := 2) (q142 108) rfl (r56 hB) (by decide) rfl ?_
      refine w_inc (p := 114) (ls' := [.ref 56, iv x1, iv x2, iv x3, iv x4, iv x5, iv (x6 + 1), iv x1]) (q142 111) rfl rfl rfl ?_
      refine w_goto (q142 114) ?_
      exact w
/-- a byte of an int: as the reader keeps it, as the reference keeps it -/
def eb (v x : Int) : Int := (((Int32.ofInt ((((Int32.ofInt v).toUInt32 >>> ((Int32.ofInt x).toUInt32 &&& Int32.toUInt32 31)).toInt32).toInt)).toInt8.toInt32).toInt)
def mb (v x : Int) : Int := (Int32.ofInt ((Int32.ofInt v >>> (Int32.ofInt x &&& 31)).toInt) &&& Int32.ofInt 255).toInt
theorem inR_eb (v x : Int) : inR (eb v x) := inR_i32 _
theorem inR_mb (v x : Int) : inR (mb v x) := inR_i32 _
theorem eb_rng (v x : Int) : -128 ≤ eb v x ∧ eb v x ≤ 127 := by
  unfold eb
  rw [Int8.toInt_toInt32]
  have h1 := Int8.le_toInt (Int32.ofInt ((((Int32.ofInt v).toUInt32 >>> ((Int32.ofInt x).toUInt32 &&& Int32.toUInt32 31)).toInt32).toInt)).toInt8
  have h2 := Int8.toInt_lt (Int32.ofInt ((((Int32.ofInt v).toUInt32 >>> ((Int32.ofInt x).toUInt32 &&& Int32.toUInt32 31)).toInt32).toInt)).toInt8
  omega
def XA (f : Nat) (v : Int) (s s' : Nat → Nat → Int32) : Prop := zz s' 1 2 = (f : Int) + 4 ∧ (∀ i : Nat, i < 4 → zz s' 2 (f + i) = eb v (24 - 8 * (i : Int))) ∧ (∀ j, j < f → zz s' 2 j = zz s 2 j) ∧ (∀ j, j ≠ 2 → zz s' 1 j = zz s 1 j) ∧ (∀ k, k ≠ 1 → k ≠ 2 → s' k = s k)
theorem x_app_loop {d : Nat} {B : aH} (hB : a_Can B) (v : Int) (l : Nat → Nat → Int64) (f : Nat) (h4 : f + 4 ≤ 8000) (s0 : Nat → Nat → Int32) : ∀ (n i : Nat) (s : Nat → Nat → Int32), n + i = 4 → zz s 1 2 = (f : Int) + i → (∀ j : Nat, j < i → zz s 2 (f + j) = eb v (24 - 8 * (j : Int))) → (∀ j, j < f → zz s 2 j = zz s0 2 j) → (∀ j, j ≠ 2 → zz s 1 j = zz s0 1 j) → (∀ k, k ≠ 1 → k ≠ 2 → s k = s0 k) → a_W d 17 3 [.ref 1, iv v, iv (24 - 8 * (i : Int))] [] (mkH B s l) (fun r => ∃ s', r = (.inl none, mkH B s' l) ∧ XA f v s0 s') := by
  intro n
  induction n with
  | zero =>
    intro i s hi h1 h2 h3 h5 h6
    have hi4 : i = 4 := by omega
    subst hi4
    refine w17_3 hB v _ s l ⟨⟨by omega, by omega⟩, fun _ => ?_, fun hc => absurd hc (by omega)⟩
    exact ⟨s, rfl, by rw [h1]; omega, h2, h3, h5, h6⟩
  | succ n ih =>
    intro i s hi h1 h2 h3 h5 h6
    refine w17_3 hB v _ s l ⟨⟨by omega, by omega⟩, fun hc => absurd hc (by omega), fun _ => ⟨fun hc => absurd hc (by omega), fun _ => ⟨⟨by omega, by omega⟩, eb_rng v _, ?_⟩⟩⟩
    have e : (24 - 8 * (i : Int)) + (-8) = 24 - 8 * ((i + 1 : Nat) : Int) := by omega
    have ef : (zz s 1 2).toNat = f + i := by omega
    rw [e, ef]
    show a_W d 17 3 _ [] (mkH B (zu (zu s 2 (f + i) (eb v (24 - 8 * (i : Int)))) 1 2 (zz s 1 2 + 1)) l) _
    refine ih (i + 1) _ (by omega) ?_ ?_ ?_ ?_ ?_
    · rw [zz_same _ _ _ ⟨by omega, by omega⟩]
      omega
    · intro j hj
      rw [zz_ne _ _ _ _ _ _ (by omega)]
      by_cases hji : j = i
      · subst hji
        rw [zz_same _ _ _ (inR_eb _ _)]
      · rw [zz_ne _ _ _ _ _ _ (by omega)]
        exact h2 j (by omega)
    · intro j hj
      rw [zz_ne _ _ _ _ _ _ (by omega), zz_ne _ _ _ _ _ _ (by omega)]
      exact h3 j hj
    · intro j hj
      rw [zz_ne _ _ _ _ _ _ (by omega), zz_ne _ _ _ _ _ _ (by omega)]
      exact h5 j hj
    · intro k hk1 hk2
      rw [zu_ne _ _ _ _ _ hk1, zu_ne _ _ _ _ _ hk2]
      exact h6 k hk1 hk2
theorem x_append {d : Nat} {B : aH} (hB : a_Can B) (v : Int) (s : Nat → Nat → Int32) (l : Nat → Nat → Int64) (f : Nat) (hf : zz s 1 2 = f) (h4 : f + 4 ≤ 8000) : a_W d 17 0 [.ref 1, iv v, .retAddr 0] [] (mkH B s l) (fun r => ∃ s', r = (.inl none, mkH B s' l) ∧ XA f v s s') := by
  refine w17_0 hB v s l ?_
  exact x_app_loop hB v l f h4 s 4 0 s rfl (by omega) (fun j hj => absurd hj (Nat.not_lt_zero _)) (fun _ _ => rfl) (fun _ _ => rfl) (fun _ _ _ => rfl)
def argf (a b c e g : Int) (i : Nat) : Int := if i < 4 then a else if i < 8 then b else if i < 12 then c else if i < 16 then e else g
/-- what feed does, of either object: its cell, its bytes' cell -/
def FD (o t : Nat) (bf : Int → Int → Int) (f : Nat) (a b c e g : Int) (s s' : Nat → Nat → Int32) : Prop := zz s' o 2 = (f : Int) + 20 ∧ (∀ i : Nat, i < 20 → zz s' t (f + i) = bf (argf a b c e g i) (24 - 8 * ((i % 4 : Nat) : Int))) ∧ (∀ j, j < f → zz s' t j = zz s t j) ∧ (∀ k, k ≠ o → k ≠ t → s' k = s k)
theorem x_feed {d : Nat} {B : aH} (hB : a_Can B) (hd : 1 ≤ d) (a b c e g : Int) (s : Nat → Nat → Int32) (l : Nat → Nat → Int64) (f : Nat) (hf : zz s 1 2 = f) (h20 : f + 20 ≤ 8000) : a_W d 15 0 [.ref 0, iv a, iv b, iv c, iv e, iv g] [] (mkH B s l) (fun r => ∃ s', r = (.inl (some (iv 1)), mkH B s' l) ∧ FD 1 2 eb f a b c e g s s' ∧ (∀ j, j ≠ 2 → zz s' 1 j = zz s 1 j)) := by
  refine w15_0 hB hd a b c e g s l ⟨fun _ => ?_, fun hc => absurd hc (by omega)⟩
  refine a_W.imp (x_append hB a s l f hf (by omega)) ?_
  rintro _ ⟨s1, rfl, a1⟩
  refine ⟨s1, l, rfl, a_W.imp (x_append hB b s1 l (f + 4) (by rw [a1.1]; omega) (by omega)) ?_⟩
  rintro _ ⟨s2, rfl, a2⟩
  refine ⟨s2, l, rfl, a_W.imp (x_append hB c s2 l (f + 8) (by rw [a2.1]; omega) (by omega)) ?_⟩
  rintro _ ⟨s3, rfl, a3⟩
  refine ⟨s3, l, rfl, a_W.imp (x_append hB e s3 l (f + 12) (by rw [a3.1]; omega) (by omega)) ?_⟩
  rintro _ ⟨s4, rfl, a4⟩
  refine ⟨s4, l, rfl, a_W.imp (x_append hB g s4 l (f + 16) (by rw [a4.1]; omega) (by omega)) ?_⟩
  rintro _ ⟨s5, rfl, a5⟩
  refine ⟨s5, l, rfl, s5, rfl, ⟨?_, ?_, ?_, ?_⟩, ?_⟩
  · rw [a5.1]
    omega
  · intro i hi
    unfold argf
    by_cases h1 : i < 4
    · rw [if_pos h1, a5.2.2.1 _ (by omega), a4.2.2.1 _ (by omega), a3.2.2.1 _ (by omega), a2.2.2.1 _ (by omega), a1.2.1 i h1, Nat.mod_eq_of_lt h1]
    · rw [if_neg h1]
      by_cases h2 : i < 8
      · have e1 : f + i = f + 4 + (i - 4) := by omega
        rw [if_pos h2, a5.2.2.1 _ (by omega), a4.2.2.1 _ (by omega), a3.2.2.1 _ (by omega), e1, a2.2.1 (i - 4) (by omega), show i % 4 = i - 4 by omega]
      · rw [if_neg h2]
        by_cases h3 : i < 12
        · have e1 : f + i = f + 8 + (i - 8) := by omega
          rw [if_pos h3, a5.2.2.1 _ (by omega), a4.2.2.1 _ (by omega), e1, a3.2.1 (i - 8) (by omega), show i % 4 = i - 8 by omega]
        · rw [if_neg h3]
          by_cases h4 : i < 16
          · have e1 : f + i = f + 12 + (i - 12) := by omega
            rw [if_pos h4, a5.2.2.1 _ (by omega), e1, a4.2.1 (i - 12) (by omega), show i % 4 = i - 12 by omega]
          · have e1 : f + i = f + 16 + (i - 16) := by omega
            rw [if_neg h4, e1, a5.2.1 (i - 16) (by omega), show i % 4 = i - 16 by omega]
  · intro j hj
    rw [a5.2.2.1 _ (by omega), a4.2.2.1 _ (by omega), a3.2.2.1 _ (by omega), a2.2.2.1 _ (by omega), a1.2.2.1 _ hj]
  · intro k h1 h2
    rw [a5.2.2.2.2 k h1 h2, a4.2.2.2.2 k h1 h2, a3.2.2.2.2 k h1 h2, a2.2.2.2.2 k h1 h2, a1.2.2.2.2 k h1 h2]
  · intro j hj
    rw [a5.2.2.2.1 j hj, a4.2.2.2.1 j hj, a3.2.2.2.1 j hj, a2.2.2.2.1 j hj, a1.2.2.2.1 j hj]
theorem x_feed0 {d : Nat} {B : aH} (hB : a_Can B) (hd : 1 ≤ d) (a b c e g : Int) (s : Nat → Nat → Int32) (l : Nat → Nat → Int64) (hf : 7980 < zz s 1 2) : a_W d 15 0 [.ref 0, iv a, iv b, iv c, iv e, iv g] [] (mkH B s l) (fun r => r = (.inl (some (iv 0)), mkH B s l)) := w15_0 hB hd a b c e g s l ⟨fun hc => absurd hc (by omega), fun _ => rfl⟩
theorem m_feed_loop {d : Nat} {B : aH} (hB : a_Can B) (a b c e g : Int) (l : Nat → Nat → Int64) (f : Nat) (h4 : f + 20 ≤ 8000) (s0 : Nat → Nat → Int32) : ∀ (n i : Nat) (u : Value) (s : Nat → Nat → Int32), n + i = 20 → zz s 56 2 = (f : Int) + i → (∀ j : Nat, j < i → zz s 57 (f + j) = mb (argf a b c e g j) (24 - 8 * ((j % 4 : Nat) : Int))) → (∀ j, j < f → zz s 57 j = zz s0 57 j) → (∀ k, k ≠ 56 → k ≠ 57 → s k = s0 k) → (∀ j, j ≠ 2 → zz s 56 j = zz s0 56 j) → a_W d 142 20 [.ref 56, iv a, iv b, iv c, iv e, iv g, iv (i : Int), u] [] (mkH B s l) (fun r => ∃ s', r = (.inl (some (iv 1)), mkH B s' l) ∧ FD 56 57 mb f a b c e g s0 s' ∧ (∀ j, j ≠ 2 → zz s' 56 j = zz s0 56 j)) := by
  intro n
  induction n with
  | zero =>
    intro i u s hi h1 h2 h3 h5 h6
    have hi4 : i = 20 := by omega
    subst hi4
    refine w142_20 hB a b c e g _ u s l ⟨⟨by omega, by omega⟩, fun _ => ?_, fun hc => absurd hc (by omega)⟩
    exact ⟨s, rfl, ⟨by rw [h1]; omega, h2, h3, h5⟩, h6⟩
  | succ n ih =>
    intro i u s hi h1 h2 h3 h5 h6
    have ef : (zz s 56 2).toNat = f + i := by omega
    have em : (i : Int) % 4 = ((i % 4 : Nat) : Int) := by omega
    have go : ∀ v : Int, v = argf a b c e g i → a_W d 142 20 [.ref 56, iv a, iv b, iv c, iv e, iv g, iv ((i : Int) + 1), iv v] [] (mkH B (zu (zu s 57 (zz s 56 2).toNat (mb v (24 - (8 * ((i : Int) % 4))))) 56 2 ((zz s 56 2) + 1)) l) (fun r => ∃ s', r = (.inl (some (iv 1)), mkH B s' l) ∧ FD 56 57 mb f a b c e g s0 s' ∧ (∀ j, j ≠ 2 → zz s' 56 j = zz s0 56 j)) := by
      intro v hv
      have e1 : (i : Int) + 1 = ((i + 1 : Nat) : Int) := by omega
      rw [ef, em, e1]
      refine ih (i + 1) _ _ (by omega) ?_ ?_ ?_ ?_ ?_
      · rw [zz_same _ _ _ ⟨by omega, by omega⟩]
        omega
      · intro j hj
        rw [zz_ne _ _ _ _ _ _ (by omega)]
        by_cases hji : j = i
        · subst hji
          rw [zz_same _ _ _ (inR_mb _ _), hv]
        · rw [zz_ne _ _ _ _ _ _ (by omega)]
          exact h2 j (by omega)
      · intro j hj
        rw [zz_ne _ _ _ _ _ _ (by omega), zz_ne _ _ _ _ _ _ (by omega)]
        exact h3 j hj
      · intro k hk1 hk2
        rw [zu_ne _ _ _ _ _ hk1, zu_ne _ _ _ _ _ hk2]
        exact h5 k hk1 hk2
      · intro j hj
        rw [zz_ne _ _ _ _ _ _ (by omega), zz_ne _ _ _ _ _ _ (by omega)]
        exact h6 j hj
    refine w142_20 hB a b c e g _ u s l ⟨⟨by omega, by omega⟩, fun hc => absurd hc (by omega), fun _ => ⟨fun c1 => ⟨fun c2 => ⟨fun c3 => ⟨fun c4 => ⟨by omega, ⟨by omega, by omega⟩, go g ?_⟩, fun c4 => ⟨by omega, ⟨by omega, by omega⟩, go e ?_⟩⟩, fun c3 => ⟨by omega, ⟨by omega, by omega⟩, go c ?_⟩⟩, fun c2 => ⟨by omega, ⟨by omega, by omega⟩, go b ?_⟩⟩, fun c1 => ⟨by omega, ⟨by omega, by omega⟩, go a ?_⟩⟩⟩
    all_goals (unfold argf; (repeat rw [if_neg (by omega)]) <;> (try rw [if_pos (by omega)]))
theorem m_feed {d : Nat} {B : aH} (hB : a_Can B) (a b c e g : Int) (s : Nat → Nat → Int32) (l : Nat → Nat → Int64) (f : Nat) (hf : zz s 56 2 = f) (h20 : f + 20 ≤ 8000) : a_W d 142 0 [.ref 56, iv a, iv b, iv c, iv e, iv g, .retAddr 0, .retAddr 0] [] (mkH B s l) (fun r => ∃ s', r = (.inl (some (iv 1)), mkH B s' l) ∧ FD 56 57 mb f a b c e g s s' ∧ zz s' 56 0 = 0 ∧ (∀ j, j ≠ 2 → j ≠ 0 → zz s' 56 j = zz s 56 j)) := by
  refine w142_0 hB a b c e g s l ⟨fun _ => ?_, fun hc => absurd hc (by omega)⟩
  refine a_W.imp (m_feed_loop hB a b c e g l f h20 (zu s 56 0 0) 20 0 _ (zu s 56 0 0) rfl (by rw [zz_ne _ _ _ _ _ _ (by omega)]; omega) (fun j hj => absurd hj (Nat.not_lt_zero _)) (fun _ _ => rfl) (fun _ _ _ => rfl) (fun _ _ => rfl)) ?_
  rintro _ ⟨s', rfl, h1, h2⟩
  refine ⟨s', rfl, ⟨h1.1, h1.2.1, fun j hj => ?_, fun k hk1 hk2 => ?_⟩, ?_, fun j hj h0 => ?_⟩
  · rw [h1.2.2.1 j hj, zz_ne _ _ _ _ _ _ (by omega)]
  · rw [h1.2.2.2 k hk1 hk2, zu_ne _ _ _ _ _ hk1]
  · rw [h2 0 (by omega), zz_same _ _ _ ⟨by omega, by omega⟩]
  · rw [h2 j hj, zz_ne _ _ _ _ _ _ (by omega)]
theorem m_feed0 {d : Nat} {B : aH} (hB : a_Can B) (a b c e g : Int) (s : Nat → Nat → Int32) (l : Nat → Nat → Int64) (hf : zz s 56 2 = 8000) : a_W d 142 0 [.ref 56, iv a, iv b, iv c, iv e, iv g, .retAddr 0, .retAddr 0] [] (mkH B s l) (fun r => r = (.inl (some (iv 0)), mkH B (zu s 56 0 0) l)) := w142_0 hB a b c e g s l ⟨fun hc => absurd hf hc, fun _ => rfl⟩
