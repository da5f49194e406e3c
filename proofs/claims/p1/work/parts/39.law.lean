/-! printed by wip/am/mk39.py: the law and its helpers -/
section
variable {d y pc p a b : Nat} {w : List Nat} {ls ls' st : List Value} {h B : aH} {s : Nat → Nat → Int32} {l : Nat → Nat → Int64} {Q : aR → Prop}
theorem w_iaS {n : Nat} {i v : Int} (hc : aCode y pc = some (.iaload, a, b, w)) (hp : pc + 1 = p) (hS : B.2.2.1 aSc = (1000, n)) (hn : n ≤ 1000000) (h0 : 0 ≤ i ∧ i < n) (hv : Value.int (s aSc i.toNat) = iv v) (K : a_W d y p ls (iv v :: st) (mkH B s l) Q) : a_W d y pc ls (iv i :: .ref aSc :: st) (mkH B s l) Q := by
  subst hp
  exact w_st hc (by
    show a_go _ _ _ (if _ then _ else _) = _
    rw [if_pos (show _ ∧ _ ∧ _ from ⟨Or.inr ⟨rfl, rfl⟩, by show (B.2.2.1 _).1 = _; rw [hS], by show a_in _ (B.2.2.1 _).2 = _; rw [hS]; exact inC h0.1 h0.2 hn⟩)]
    rw [toN h0.1 (by omega), hv]
    rfl) K
theorem w_lenS {n : Nat} (hc : aCode y pc = some (.arraylength, a, b, w)) (hp : pc + 1 = p) (hS : B.2.2.1 aSc = (1000, n)) (K : a_W d y p ls (iv n :: st) (mkH B s l) Q) : a_W d y pc ls (.ref aSc :: st) (mkH B s l) Q := by
  subst hp
  exact w_st hc (by
    show a_go _ _ _ (if _ then _ else _) = _
    rw [if_pos (show _ ∨ _ from Or.inr ⟨rfl, by show (B.2.2.1 _).1 = _; rw [hS]⟩)]
    show some (Sum.inl (pc + 1, ls, Value.int (Int32.ofNat (B.2.2.1 _).2) :: st, _)) = _
    rw [hS]
    rfl) K
theorem w_callc {z : Nat} {i : Instr} {as as' : List Value} {mz : aMe} {lz : List Value} (hy : a_ctch y = true) (hc : aCode y pc = some (i, z, b, w)) (hi : a_isC i = true) (hz : aMeL[z]? = some mz) (hz0 : z ≠ 1000) (hok : a_ok mz as h = true) (hb : as.length = b / 2) (hr : as.reverse = as') (hsum : (st.map fun v => v.category).sum ≤ 8) (hd : 0 < d) (hlz : a_loc mz as = lz) (hp : pc + 3 = p) (hrk : ∀ h2, a_rok y (.inl (some (.int 1)), h2) = true)
    (hk : a_W (d - 1) z 0 lz [] h (fun r => (∃ v h2, r = (.inl v, h2) ∧ a_W d y p ls (v.toList ++ st) h2 Q) ∨ (∃ ci h2, r = (.inr ci, h2) ∧ Q (.inl (some (iv 1)), h2)))) : a_W d y pc ls (as' ++ st) h Q := by
  subst hlz
  subst hp
  subst hr
  obtain ⟨e, rfl⟩ : ∃ e, d = e + 1 := ⟨d - 1, by omega⟩
  obtain ⟨n, r, hn, ⟨v, h2, rfl, m, r2, hm, hq⟩ | ⟨ci, h2, rfl, hq⟩⟩ := hk
  · obtain ⟨k, hk2⟩ := a_Ev.call (d := e) hc hi hz hz0 hok hb hsum ⟨n, hn⟩ ⟨m, hm⟩
    exact ⟨k, r2, hk2, hq⟩
  · obtain ⟨k, hk2⟩ := a_Ev.catch (d := e) (ls := ls) hy hc hi hz hz0 hok hb hsum ⟨n, hn⟩ (hrk h2)
    exact ⟨k, _, hk2, hq⟩
end
theorem w20_0 {d : Nat} {B : aH} {Q : aR → Prop} (hB : a_Can B) (hd : 1 ≤ d) (x1 : Int) (s : Nat → Nat → Int32) (l : Nat → Nat → Int64) (w : a_W (d - 1) 21 0 [.ref 0, iv x1, .retAddr 0] [] (mkH B s l) (fun r => (∃ (v3 : Int) (s1 : Nat → Nat → Int32) (l2 : Nat → Nat → Int64), r = (.inl (some (iv v3)), mkH B s1 l2) ∧ Q (.inl (some (iv 0)), (mkH B s1 (a_up l2 105 0 ((Int32.ofInt v3).toInt64))))) ∨ (∃ (ci : Nat) (h2 : aH), r = (.inr ci, h2) ∧ Q (.inl (some (iv 1)), h2)))) : a_W d 20 0 [.ref 0, iv x1, .ref 105, .retAddr 0] [] (mkH B s l) Q := by
  refine w_aln (p := 1) (q20 0) rfl rfl ?_
  refine w_ic (p := 2) (q20 1) rfl ?_
  refine w_aln (p := 3) (q20 2) rfl rfl ?_
  refine w_iln (p := 4) (q20 3) rfl rfl ?_
  refine w_callc rfl (st := [iv 0, .ref 105]) (as := [.ref 0, iv x1]) (as' := [iv x1, .ref 0]) (p := 7) (q20 4) rfl m21 (by decide) (a_ok_i rfl (r0 hB) rfl) rfl rfl (Nat.le_of_ble_eq_true rfl) (by omega) rfl rfl (fun _ => rfl) (a_W.imp w ?_)
  rintro _ (⟨v3, s1, l2, rfl, w⟩ | ⟨ci, h2, rfl, w⟩)
  · refine Or.inl ⟨some (iv v3), _, rfl, ?_⟩
    show a_W _ 20 7 [.ref 0, iv x1, .ref 105, .retAddr 0] [iv v3, iv 0, .ref 105] (mkH B s1 l2) _
    refine w_i2l (p := 8) (q20 7) rfl ?_
    refine w_las (p := 9) (q20 8) rfl (r105 hB) (by decide) (by decide) ?_
    refine w_goto (q20 9) ?_
    refine w_ic (p := 16) (q20 15) rfl ?_
    exact w_ret (q20 16) rfl w
  · exact Or.inr ⟨ci, h2, rfl, w⟩
theorem w119_0 {d : Nat} {B : aH} {Q : aR → Prop} (hB : a_Can B) (hd : 1 ≤ d) (x1 : Int) (s : Nat → Nat → Int32) (l : Nat → Nat → Int64) (w : a_W (d - 1) 120 0 [.ref 0, iv x1] [] (mkH B s l) (fun r => (∃ (v3 : Int) (s1 : Nat → Nat → Int32) (l2 : Nat → Nat → Int64), r = (.inl (some (iv v3)), mkH B s1 l2) ∧ Q (.inl (some (iv 0)), (mkH B s1 (a_up l2 105 0 ((Int32.ofInt v3).toInt64))))) ∨ (∃ (ci : Nat) (h2 : aH), r = (.inr ci, h2) ∧ Q (.inl (some (iv 1)), h2)))) : a_W d 119 0 [.ref 0, iv x1, .ref 105, .retAddr 0] [] (mkH B s l) Q := by
  refine w_aln (p := 1) (q119 0) rfl rfl ?_
  refine w_ic (p := 2) (q119 1) rfl ?_
  refine w_aln (p := 3) (q119 2) rfl rfl ?_
  refine w_iln (p := 4) (q119 3) rfl rfl ?_
  refine w_callc rfl (st := [iv 0, .ref 105]) (as := [.ref 0, iv x1]) (as' := [iv x1, .ref 0]) (p := 7) (q119 4) rfl m120 (by decide) (a_ok_i rfl (r0 hB) rfl) rfl rfl (Nat.le_of_ble_eq_true rfl) (by omega) rfl rfl (fun _ => rfl) (a_W.imp w ?_)
  rintro _ (⟨v3, s1, l2, rfl, w⟩ | ⟨ci, h2, rfl, w⟩)
  · refine Or.inl ⟨some (iv v3), _, rfl, ?_⟩
    show a_W _ 119 7 [.ref 0, iv x1, .ref 105, .retAddr 0] [iv v3, iv 0, .ref 105] (mkH B s1 l2) _
    refine w_i2l (p := 8) (q119 7) rfl ?_
    refine w_las (p := 9) (q119 8) rfl (r105 hB) (by decide) (by decide) ?_
    refine w_goto (q119 9) ?_
    refine w_ic (p := 16) (q119 15) rfl ?_
    exact w_ret (q119 16) rfl w
  · exact Or.inr ⟨ci, h2, rfl, w⟩
theorem w125_0 {d : Nat} {B : aH} {Q : aR → Prop} (hB : a_Can B) (hd : 1 ≤ d) (x1 : Int) (s : Nat → Nat → Int32) (l : Nat → Nat → Int64) (w : a_W (d - 1) 126 0 [.ref 0, iv x1] [] (mkH B s l) (fun r => (∃ (v3 : Int) (s1 : Nat → Nat → Int32) (l2 : Nat → Nat → Int64), r = (.inl (some (iv v3)), mkH B s1 l2) ∧ Q (.inl (some (iv 0)), (mkH B s1 (a_up l2 105 0 ((Int32.ofInt v3).toInt64))))) ∨ (∃ (ci : Nat) (h2 : aH), r = (.inr ci, h2) ∧ Q (.inl (some (iv 1)), h2)))) : a_W d 125 0 [.ref 0, iv x1, .ref 105, .retAddr 0] [] (mkH B s l) Q := by
  refine w_aln (p := 1) (q125 0) rfl rfl ?_
  refine w_ic (p := 2) (q125 1) rfl ?_
  refine w_aln (p := 3) (q125 2) rfl rfl ?_
  refine w_iln (p := 4) (q125 3) rfl rfl ?_
  refine w_callc rfl (st := [iv 0, .ref 105]) (as := [.ref 0, iv x1]) (as' := [iv x1, .ref 0]) (p := 7) (q125 4) rfl m126 (by decide) (a_ok_i rfl (r0 hB) rfl) rfl rfl (Nat.le_of_ble_eq_true rfl) (by omega) rfl rfl (fun _ => rfl) (a_W.imp w ?_)
  rintro _ (⟨v3, s1, l2, rfl, w⟩ | ⟨ci, h2, rfl, w⟩)
  · refine Or.inl ⟨some (iv v3), _, rfl, ?_⟩
    show a_W _ 125 7 [.ref 0, iv x1, .ref 105, .retAddr 0] [iv v3, iv 0, .ref 105] (mkH B s1 l2) _
    refine w_i2l (p := 8) (q125 7) rfl ?_
    refine w_las (p := 9) (q125 8) rfl (r105 hB) (by decide) (by decide) ?_
    refine w_goto (q125 9) ?_
    refine w_ic (p := 16) (q125 15) rfl ?_
    exact w_ret (q125 16) rfl w
  · exact Or.inr ⟨ci, h2, rfl, w⟩
theorem w130_0 {d : Nat} {B : aH} {Q : aR → Prop} (hB : a_Can B) (hd : 1 ≤ d) (x1 : Int) (s : Nat → Nat → Int32) (l : Nat → Nat → Int64) (w : a_W (d - 1) 131 0 [.ref 0, iv x1] [] (mkH B s l) (fun r => (∃ (v3 : Int) (s1 : Nat → Nat → Int32) (l2 : Nat → Nat → Int64), r = (.inl (some (iv v3)), mkH B s1 l2) ∧ Q (.inl (some (iv 0)), (mkH B s1 (a_up l2 105 0 ((Int32.ofInt v3).toInt64))))) ∨ (∃ (ci : Nat) (h2 : aH), r = (.inr ci, h2) ∧ Q (.inl (some (iv 1)), h2)))) : a_W d 130 0 [.ref 0, iv x1, .ref 105, .retAddr 0] [] (mkH B s l) Q := by
  refine w_aln (p := 1) (q130 0) rfl rfl ?_
  refine w_ic (p := 2) (q130 1) rfl ?_
  refine w_aln (p := 3) (q130 2) rfl rfl ?_
  refine w_iln (p := 4) (q130 3) rfl rfl ?_
  refine w_callc rfl (st := [iv 0, .ref 105]) (as := [.ref 0, iv x1]) (as' := [iv x1, .ref 0]) (p := 7) (q130 4) rfl m131 (by decide) (a_ok_i rfl (r0 hB) rfl) rfl rfl (Nat.le_of_ble_eq_true rfl) (by omega) rfl rfl (fun _ => rfl) (a_W.imp w ?_)
  rintro _ (⟨v3, s1, l2, rfl, w⟩ | ⟨ci, h2, rfl, w⟩)
  · refine Or.inl ⟨some (iv v3), _, rfl, ?_⟩
    show a_W _ 130 7 [.ref 0, iv x1, .ref 105, .retAddr 0] [iv v3, iv 0, .ref 105] (mkH B s1 l2) _
    refine w_i2l (p := 8) (q130 7) rfl ?_
    refine w_las (p := 9) (q130 8) rfl (r105 hB) (by decide) (by decide) ?_
    refine w_goto (q130 9) ?_
    refine w_ic (p := 16) (q130 15) rfl ?_
    exact w_ret (q130 16) rfl w
  · exact Or.inr ⟨ci, h2, rfl, w⟩
theorem w133_0 {d : Nat} {B : aH} {Q : aR → Prop} (hB : a_Can B) (hd : 1 ≤ d) (x1 x2 : Int) (s : Nat → Nat → Int32) (l : Nat → Nat → Int64) (w : a_W (d - 1) 134 0 [.ref 0, iv x1, iv x2] [] (mkH B s l) (fun r => (∃ (v3 : Int) (s1 : Nat → Nat → Int32) (l2 : Nat → Nat → Int64), r = (.inl (some (iv v3)), mkH B s1 l2) ∧ Q (.inl (some (iv 0)), (mkH B s1 (a_up l2 105 0 ((Int32.ofInt v3).toInt64))))) ∨ (∃ (ci : Nat) (h2 : aH), r = (.inr ci, h2) ∧ Q (.inl (some (iv 1)), h2)))) : a_W d 133 0 [.ref 0, iv x1, iv x2, .ref 105, .retAddr 0] [] (mkH B s l) Q := by
  refine w_aln (p := 1) (q133 0) rfl rfl ?_
  refine w_ic (p := 2) (q133 1) rfl ?_
  refine w_aln (p := 3) (q133 2) rfl rfl ?_
  refine w_iln (p := 4) (q133 3) rfl rfl ?_
  refine w_iln (p := 5) (q133 4) rfl rfl ?_
  refine w_callc rfl (st := [iv 0, .ref 105]) (as := [.ref 0, iv x1, iv x2]) (as' := [iv x2, iv x1, .ref 0]) (p := 8) (q133 5) rfl m134 (by decide) (a_ok_i rfl (r0 hB) rfl) rfl rfl (Nat.le_of_ble_eq_true rfl) (by omega) rfl rfl (fun _ => rfl) (a_W.imp w ?_)
  rintro _ (⟨v3, s1, l2, rfl, w⟩ | ⟨ci, h2, rfl, w⟩)
  · refine Or.inl ⟨some (iv v3), _, rfl, ?_⟩
    show a_W _ 133 8 [.ref 0, iv x1, iv x2, .ref 105, .retAddr 0] [iv v3, iv 0, .ref 105] (mkH B s1 l2) _
    refine w_i2l (p := 9) (q133 8) rfl ?_
    refine w_las (p := 10) (q133 9) rfl (r105 hB) (by decide) (by decide) ?_
    refine w_goto (q133 10) ?_
    refine w_ic (p := 18) (q133 17) rfl ?_
    exact w_ret (q133 18) rfl w
  · exact Or.inr ⟨ci, h2, rfl, w⟩
set_option maxRecDepth 10000 in
theorem w0_23 {d : Nat} {B : aH} {Q : aR → Prop} (hB : a_Can B) (hd : 1 ≤ d) {L : Nat} (hL : L ≤ 1000000) (hS : B.2.2.1 aSc = (1000, L)) (x4 : Int) (u5 u6 : Value) (s : Nat → Nat → Int32) (l : Nat → Nat → Int64) (w : (inR x4 ∧ inR ((L : Int) - 6) ∧ ((((L : Int) - 6) < x4 → Q (.inl (some (iv 1)), (mkH B s l))) ∧ (x4 ≤ ((L : Int) - 6) → ((0 ≤ x4 ∧ x4 < (L : Int)) ∧ ((((Int32.ofInt (zz s aSc x4.toNat) &&& Int32.ofInt 7).toInt) = 0 → ((0 ≤ (x4 + 1) ∧ (x4 + 1) < (L : Int)) ∧ ((0 ≤ (x4 + 2) ∧ (x4 + 2) < (L : Int)) ∧ ((0 ≤ (x4 + 3) ∧ (x4 + 3) < (L : Int)) ∧ ((0 ≤ (x4 + 4) ∧ (x4 + 4) < (L : Int)) ∧ ((0 ≤ (x4 + 5) ∧ (x4 + 5) < (L : Int)) ∧ a_W (d - 1) 15 0 [.ref 0, iv (zz s aSc (x4 + 1).toNat), iv (zz s aSc (x4 + 2).toNat), iv (zz s aSc (x4 + 3).toNat), iv (zz s aSc (x4 + 4).toNat), iv (zz s aSc (x4 + 5).toNat)] [] (mkH B s l) (fun r => ∃ (v14 : Int) (B13 : aH) (s11 : Nat → Nat → Int32) (l12 : Nat → Nat → Int64), r = (.inl (some (iv v14)), mkH B13 s11 l12) ∧ a_Can B13 ∧ B13.2.2.1 aSc = (1000, L) ∧ a_W (d - 1) 142 0 [.ref 56, iv (zz s11 aSc (x4 + 1).toNat), iv (zz s11 aSc (x4 + 2).toNat), iv (zz s11 aSc (x4 + 3).toNat), iv (zz s11 aSc (x4 + 4).toNat), iv (zz s11 aSc (x4 + 5).toNat), .retAddr 0, .retAddr 0] [] (mkH B13 s11 l12) (fun r => ∃ (v18 : Int) (B17 : aH) (s15 : Nat → Nat → Int32) (l16 : Nat → Nat → Int64), r = (.inl (some (iv v18)), mkH B17 s15 l16) ∧ a_Can B17 ∧ B17.2.2.1 aSc = (1000, L) ∧ (inR v14 ∧ inR v18 ∧ ((v14 = v18 → a_W d 0 23 [.ref aSc, .ref 0, .ref 56, .ref 105, iv (x4 + 6), u5, u6] [] (mkH B17 s15 l16) Q) ∧ (v14 ≠ v18 → Q (.inl (some (iv 0)), (mkH B17 s15 l16))))))))))))) ∧ (((Int32.ofInt (zz s aSc x4.toNat) &&& Int32.ofInt 7).toInt) = 1 → ((0 ≤ (x4 + 1) ∧ (x4 + 1) < (L : Int)) ∧ a_W (d - 1) 20 0 [.ref 0, iv (zz s aSc (x4 + 1).toNat), .ref 105, .retAddr 0] [] (mkH B s l) (fun r => ∃ (v27 : Int) (B26 : aH) (s24 : Nat → Nat → Int32) (l25 : Nat → Nat → Int64), r = (.inl (some (iv v27)), mkH B26 s24 l25) ∧ a_Can B26 ∧ B26.2.2.1 aSc = (1000, L) ∧ a_W (d - 1) 143 0 [.ref 56, iv (zz s24 aSc (x4 + 1).toNat), .retAddr 0, .retAddr 0] [] (mkH B26 s24 l25) (fun r => ∃ (v31 : Int) (B30 : aH) (s28 : Nat → Nat → Int32) (l29 : Nat → Nat → Int64), r = (.inl (some (iv v31)), mkH B30 s28 l29) ∧ a_Can B30 ∧ B30.2.2.1 aSc = (1000, L) ∧ (inR v27 ∧ (((zz s28 56 0) = v27 → ((v27 ≠ 0 → a_W d 0 23 [.ref aSc, .ref 0, .ref 56, .ref 105, iv (x4 + 6), iv v27, iv v31] [] (mkH B30 s28 l29) Q) ∧ (v27 = 0 → (((l29 105 0) = ((Int32.ofInt v31).toInt64) → a_W d 0 23 [.ref aSc, .ref 0, .ref 56, .ref 105, iv (x4 + 6), iv v27, iv v31] [] (mkH B30 s28 l29) Q) ∧ ((l29 105 0) ≠ ((Int32.ofInt v31).toInt64) → Q (.inl (some (iv 0)), (mkH B30 s28 l29))))))) ∧ ((zz s28 56 0) ≠ v27 → Q (.inl (some (iv 0)), (mkH B30 s28 l29))))))))) ∧ (((Int32.ofInt (zz s aSc x4.toNat) &&& Int32.ofInt 7).toInt) = 2 → ((0 ≤ (x4 + 1) ∧ (x4 + 1) < (L : Int)) ∧ a_W (d - 1) 119 0 [.ref 0, iv (zz s aSc (x4 + 1).toNat), .ref 105, .retAddr 0] [] (mkH B s l) (fun r => ∃ (v41 : Int) (B40 : aH) (s38 : Nat → Nat → Int32) (l39 : Nat → Nat → Int64), r = (.inl (some (iv v41)), mkH B40 s38 l39) ∧ a_Can B40 ∧ B40.2.2.1 aSc = (1000, L) ∧ a_W (d - 1) 202 0 [.ref 56, iv (zz s38 aSc (x4 + 1).toNat), .retAddr 0, .retAddr 0, .retAddr 0, .retAddr 0] [] (mkH B40 s38 l39) (fun r => ∃ (v45 : Int) (B44 : aH) (s42 : Nat → Nat → Int32) (l43 : Nat → Nat → Int64), r = (.inl (some (iv v45)), mkH B44 s42 l43) ∧ a_Can B44 ∧ B44.2.2.1 aSc = (1000, L) ∧ (inR v41 ∧ (((zz s42 56 0) = v41 → ((v41 ≠ 0 → a_W d 0 23 [.ref aSc, .ref 0, .ref 56, .ref 105, iv (x4 + 6), iv v41, iv v45] [] (mkH B44 s42 l43) Q) ∧ (v41 = 0 → (((l43 105 0) = ((Int32.ofInt v45).toInt64) → a_W d 0 23 [.ref aSc, .ref 0, .ref 56, .ref 105, iv (x4 + 6), iv v41, iv v45] [] (mkH B44 s42 l43) Q) ∧ ((l43 105 0) ≠ ((Int32.ofInt v45).toInt64) → Q (.inl (some (iv 0)), (mkH B44 s42 l43))))))) ∧ ((zz s42 56 0) ≠ v41 → Q (.inl (some (iv 0)), (mkH B44 s42 l43))))))))) ∧ (((Int32.ofInt (zz s aSc x4.toNat) &&& Int32.ofInt 7).toInt) = 3 → ((0 ≤ (x4 + 1) ∧ (x4 + 1) < (L : Int)) ∧ a_W (d - 1) 125 0 [.ref 0, iv (zz s aSc (x4 + 1).toNat), .ref 105, .retAddr 0] [] (mkH B s l) (fun r => ∃ (v55 : Int) (B54 : aH) (s52 : Nat → Nat → Int32) (l53 : Nat → Nat → Int64), r = (.inl (some (iv v55)), mkH B54 s52 l53) ∧ a_Can B54 ∧ B54.2.2.1 aSc = (1000, L) ∧ a_W (d - 1) 203 0 [.ref 56, iv (zz s52 aSc (x4 + 1).toNat), .retAddr 0] [] (mkH B54 s52 l53) (fun r => ∃ (v59 : Int) (B58 : aH) (s56 : Nat → Nat → Int32) (l57 : Nat → Nat → Int64), r = (.inl (some (iv v59)), mkH B58 s56 l57) ∧ a_Can B58 ∧ B58.2.2.1 aSc = (1000, L) ∧ (inR v55 ∧ (((zz s56 56 0) = v55 → ((v55 ≠ 0 → a_W d 0 23 [.ref aSc, .ref 0, .ref 56, .ref 105, iv (x4 + 6), iv v55, iv v59] [] (mkH B58 s56 l57) Q) ∧ (v55 = 0 → (((l57 105 0) = ((Int32.ofInt v59).toInt64) → a_W d 0 23 [.ref aSc, .ref 0, .ref 56, .ref 105, iv (x4 + 6), iv v55, iv v59] [] (mkH B58 s56 l57) Q) ∧ ((l57 105 0) ≠ ((Int32.ofInt v59).toInt64) → Q (.inl (some (iv 0)), (mkH B58 s56 l57))))))) ∧ ((zz s56 56 0) ≠ v55 → Q (.inl (some (iv 0)), (mkH B58 s56 l57))))))))) ∧ (((Int32.ofInt (zz s aSc x4.toNat) &&& Int32.ofInt 7).toInt) = 4 → (((zz s 1 10) = (zz s 56 22) → a_W d 0 23 [.ref aSc, .ref 0, .ref 56, .ref 105, iv (x4 + 6), u5, u6] [] (mkH B (zu s 56 0 0) l) Q) ∧ ((zz s 1 10) ≠ (zz s 56 22) → Q (.inl (some (iv 0)), (mkH B (zu s 56 0 0) l))))) ∧ (((Int32.ofInt (zz s aSc x4.toNat) &&& Int32.ofInt 7).toInt) = 5 → (((zz s 1 11) = (zz s 56 23) → a_W d 0 23 [.ref aSc, .ref 0, .ref 56, .ref 105, iv (x4 + 6), u5, u6] [] (mkH B (zu s 56 0 0) l) Q) ∧ ((zz s 1 11) ≠ (zz s 56 23) → Q (.inl (some (iv 0)), (mkH B (zu s 56 0 0) l))))) ∧ (((Int32.ofInt (zz s aSc x4.toNat) &&& Int32.ofInt 7).toInt) = 6 → ((0 ≤ (x4 + 1) ∧ (x4 + 1) < (L : Int)) ∧ a_W (d - 1) 130 0 [.ref 0, iv (zz s aSc (x4 + 1).toNat), .ref 105, .retAddr 0] [] (mkH B s l) (fun r => ∃ (v73 : Int) (B72 : aH) (s70 : Nat → Nat → Int32) (l71 : Nat → Nat → Int64), r = (.inl (some (iv v73)), mkH B72 s70 l71) ∧ a_Can B72 ∧ B72.2.2.1 aSc = (1000, L) ∧ a_W (d - 1) 206 0 [.ref 56, iv (zz s70 aSc (x4 + 1).toNat)] [] (mkH B72 s70 l71) (fun r => ∃ (v77 : Int) (B76 : aH) (s74 : Nat → Nat → Int32) (l75 : Nat → Nat → Int64), r = (.inl (some (iv v77)), mkH B76 s74 l75) ∧ a_Can B76 ∧ B76.2.2.1 aSc = (1000, L) ∧ (inR v73 ∧ (((zz s74 56 0) = v73 → ((v73 ≠ 0 → a_W d 0 23 [.ref aSc, .ref 0, .ref 56, .ref 105, iv (x4 + 6), iv v73, iv v77] [] (mkH B76 s74 l75) Q) ∧ (v73 = 0 → (((l75 105 0) = ((Int32.ofInt v77).toInt64) → a_W d 0 23 [.ref aSc, .ref 0, .ref 56, .ref 105, iv (x4 + 6), iv v73, iv v77] [] (mkH B76 s74 l75) Q) ∧ ((l75 105 0) ≠ ((Int32.ofInt v77).toInt64) → Q (.inl (some (iv 0)), (mkH B76 s74 l75))))))) ∧ ((zz s74 56 0) ≠ v73 → Q (.inl (some (iv 0)), (mkH B76 s74 l75))))))))) ∧ (((Int32.ofInt (zz s aSc x4.toNat) &&& Int32.ofInt 7).toInt) = 7 → ((0 ≤ (x4 + 1) ∧ (x4 + 1) < (L : Int)) ∧ ((0 ≤ (x4 + 2) ∧ (x4 + 2) < (L : Int)) ∧ a_W (d - 1) 133 0 [.ref 0, iv (zz s aSc (x4 + 1).toNat), iv (zz s aSc (x4 + 2).toNat), .ref 105, .retAddr 0] [] (mkH B s l) (fun r => ∃ (v88 : Int) (B87 : aH) (s85 : Nat → Nat → Int32) (l86 : Nat → Nat → Int64), r = (.inl (some (iv v88)), mkH B87 s85 l86) ∧ a_Can B87 ∧ B87.2.2.1 aSc = (1000, L) ∧ a_W (d - 1) 207 0 [.ref 56, iv (zz s85 aSc (x4 + 1).toNat), iv (zz s85 aSc (x4 + 2).toNat)] [] (mkH B87 s85 l86) (fun r => ∃ (v92 : Int) (B91 : aH) (s89 : Nat → Nat → Int32) (l90 : Nat → Nat → Int64), r = (.inl (some (iv v92)), mkH B91 s89 l90) ∧ a_Can B91 ∧ B91.2.2.1 aSc = (1000, L) ∧ (inR v88 ∧ (((zz s89 56 0) = v88 → ((v88 ≠ 0 → a_W d 0 23 [.ref aSc, .ref 0, .ref 56, .ref 105, iv (x4 + 6), iv v88, iv v92] [] (mkH B91 s89 l90) Q) ∧ (v88 = 0 → (((l90 105 0) = ((Int32.ofInt v92).toInt64) → a_W d 0 23 [.ref aSc, .ref 0, .ref 56, .ref 105, iv (x4 + 6), iv v88, iv v92] [] (mkH B91 s89 l90) Q) ∧ ((l90 105 0) ≠ ((Int32.ofInt v92).toInt64) → Q (.inl (some (iv 0)), (mkH B91 s89 l90))))))) ∧ ((zz s89 56 0) ≠ v88 → Q (.inl (some (iv 0)), (mkH B91 s89 l90)))))))))) ∧ (((Int32.ofInt (zz s aSc x4.toNat) &&& Int32.ofInt 7).toInt) ≠ 0 ∧ ((Int32.ofInt (zz s aSc x4.toNat) &&& Int32.ofInt 7).toInt) ≠ 1 ∧ ((Int32.ofInt (zz s aSc x4.toNat) &&& Int32.ofInt 7).toInt) ≠ 2 ∧ ((Int32.ofInt (zz s aSc x4.toNat) &&& Int32.ofInt 7).toInt) ≠ 3 ∧ ((Int32.ofInt (zz s aSc x4.toNat) &&& Int32.ofInt 7).toInt) ≠ 4 ∧ ((Int32.ofInt (zz s aSc x4.toNat) &&& Int32.ofInt 7).toInt) ≠ 5 ∧ ((Int32.ofInt (zz s aSc x4.toNat) &&& Int32.ofInt 7).toInt) ≠ 6 ∧ ((Int32.ofInt (zz s aSc x4.toNat) &&& Int32.ofInt 7).toInt) ≠ 7 → a_W d 0 23 [.ref aSc, .ref 0, .ref 56, .ref 105, iv (x4 + 6), u5, u6] [] (mkH B s l) Q))))))) : a_W d 0 23 [.ref aSc, .ref 0, .ref 56, .ref 105, iv x4, u5, u6] [] (mkH B s l) Q := by
  refine w_il (p := 25) (q0 23) rfl rfl ?_
  refine w_aln (p := 26) (q0 25) rfl rfl ?_
  refine w_lenS (p := 27) (q0 26) rfl hS ?_
  refine w_bp (p := 29) (q0 27) rfl (by decide) ?_
  refine w_sub (p := 30) (q0 29) rfl ?_
  obtain ⟨h1, w⟩ := w
  obtain ⟨h2, w⟩ := w
  by_cases c3 : ((L : Int) - 6) < x4
  · replace w := w.1 c3
    refine w_i2t (q0 30) h1 h2 c3 ?_
    refine w_ic (p := 486) (q0 485) rfl ?_
    exact w_ret (q0 486) rfl w
  · replace w := w.2 (Int.not_lt.mp c3)
    refine w_i2f (p := 33) (q0 30) rfl h1 h2 c3 ?_
    refine w_aln (p := 34) (q0 33) rfl rfl ?_
    refine w_il (p := 36) (q0 34) rfl rfl ?_
    obtain ⟨o4, w⟩ := w
    refine w_iaS (p := 37) (v := (zz s aSc x4.toNat)) (q0 36) rfl hS hL o4 (iv_zz s aSc x4.toNat) ?_
    refine w_bp (p := 39) (q0 37) rfl (by decide) ?_
    refine w_and (p := 40) (q0 39) rfl ?_
    by_cases c5 : ((Int32.ofInt (zz s aSc x4.toNat) &&& Int32.ofInt 7).toInt) = 0
    · replace w := w.1 c5
      refine w_sw (p := 88) (q0 40) (inR_i32 _) (by intro g; rw [c5]; rfl) ?_
      refine w_aln (p := 89) (q0 88) rfl rfl ?_
      refine w_aln (p := 90) (q0 89) rfl rfl ?_
      refine w_il (p := 92) (q0 90) rfl rfl ?_
      refine w_ic (p := 93) (q0 92) rfl ?_
      refine w_add (p := 94) (q0 93) rfl ?_
      obtain ⟨o6, w⟩ := w
      refine w_iaS (p := 95) (v := (zz s aSc (x4 + 1).toNat)) (q0 94) rfl hS hL o6 (iv_zz s aSc (x4 + 1).toNat) ?_
      refine w_aln (p := 96) (q0 95) rfl rfl ?_
      refine w_il (p := 98) (q0 96) rfl rfl ?_
      refine w_ic (p := 99) (q0 98) rfl ?_
      refine w_add (p := 100) (q0 99) rfl ?_
      obtain ⟨o7, w⟩ := w
      refine w_iaS (p := 101) (v := (zz s aSc (x4 + 2).toNat)) (q0 100) rfl hS hL o7 (iv_zz s aSc (x4 + 2).toNat) ?_
      refine w_aln (p := 102) (q0 101) rfl rfl ?_
      refine w_il (p := 104) (q0 102) rfl rfl ?_
      refine w_ic (p := 105) (q0 104) rfl ?_
      refine w_add (p := 106) (q0 105) rfl ?_
      obtain ⟨o8, w⟩ := w
      refine w_iaS (p := 107) (v := (zz s aSc (x4 + 3).toNat)) (q0 106) rfl hS hL o8 (iv_zz s aSc (x4 + 3).toNat) ?_
      refine w_aln (p := 108) (q0 107) rfl rfl ?_
      refine w_il (p := 110) (q0 108) rfl rfl ?_
      refine w_ic (p := 111) (q0 110) rfl ?_
      refine w_add (p := 112) (q0 111) rfl ?_
      obtain ⟨o9, w⟩ := w
      refine w_iaS (p := 113) (v := (zz s aSc (x4 + 4).toNat)) (q0 112) rfl hS hL o9 (iv_zz s aSc (x4 + 4).toNat) ?_
      refine w_aln (p := 114) (q0 113) rfl rfl ?_
      refine w_il (p := 116) (q0 114) rfl rfl ?_
      refine w_ic (p := 117) (q0 116) rfl ?_
      refine w_add (p := 118) (q0 117) rfl ?_
      obtain ⟨o10, w⟩ := w
      refine w_iaS (p := 119) (v := (zz s aSc (x4 + 5).toNat)) (q0 118) rfl hS hL o10 (iv_zz s aSc (x4 + 5).toNat) ?_
      refine w_call (st := []) (as := [.ref 0, iv (zz s aSc (x4 + 1).toNat), iv (zz s aSc (x4 + 2).toNat), iv (zz s aSc (x4 + 3).toNat), iv (zz s aSc (x4 + 4).toNat), iv (zz s aSc (x4 + 5).toNat)]) (as' := [iv (zz s aSc (x4 + 5).toNat), iv (zz s aSc (x4 + 4).toNat), iv (zz s aSc (x4 + 3).toNat), iv (zz s aSc (x4 + 2).toNat), iv (zz s aSc (x4 + 1).toNat), .ref 0]) (p := 122) (q0 119) rfl m15 (by decide) (a_ok_i rfl (r0 hB) rfl) rfl rfl (Nat.le_of_ble_eq_true rfl) (by omega) rfl rfl (a_W.imp w ?_)
      rintro _ ⟨v14, B13, s11, l12, rfl, hB13, kB13, w⟩
      refine ⟨some (iv v14), _, rfl, ?_⟩
      show a_W _ 0 122 [.ref aSc, .ref 0, .ref 56, .ref 105, iv x4, u5, u6] [iv v14] (mkH B13 s11 l12) _
      refine w_aln (p := 123) (q0 122) rfl rfl ?_
      refine w_aln (p := 124) (q0 123) rfl rfl ?_
      refine w_il (p := 126) (q0 124) rfl rfl ?_
      refine w_ic (p := 127) (q0 126) rfl ?_
      refine w_add (p := 128) (q0 127) rfl ?_
      refine w_iaS (p := 129) (v := (zz s11 aSc (x4 + 1).toNat)) (q0 128) rfl kB13 hL o6 (iv_zz s11 aSc (x4 + 1).toNat) ?_
      refine w_aln (p := 130) (q0 129) rfl rfl ?_
      refine w_il (p := 132) (q0 130) rfl rfl ?_
      refine w_ic (p := 133) (q0 132) rfl ?_
      refine w_add (p := 134) (q0 133) rfl ?_
      refine w_iaS (p := 135) (v := (zz s11 aSc (x4 + 2).toNat)) (q0 134) rfl kB13 hL o7 (iv_zz s11 aSc (x4 + 2).toNat) ?_
      refine w_aln (p := 136) (q0 135) rfl rfl ?_
      refine w_il (p := 138) (q0 136) rfl rfl ?_
      refine w_ic (p := 139) (q0 138) rfl ?_
      refine w_add (p := 140) (q0 139) rfl ?_
      refine w_iaS (p := 141) (v := (zz s11 aSc (x4 + 3).toNat)) (q0 140) rfl kB13 hL o8 (iv_zz s11 aSc (x4 + 3).toNat) ?_
      refine w_aln (p := 142) (q0 141) rfl rfl ?_
      refine w_il (p := 144) (q0 142) rfl rfl ?_
      refine w_ic (p := 145) (q0 144) rfl ?_
      refine w_add (p := 146) (q0 145) rfl ?_
      refine w_iaS (p := 147) (v := (zz s11 aSc (x4 + 4).toNat)) (q0 146) rfl kB13 hL o9 (iv_zz s11 aSc (x4 + 4).toNat) ?_
      refine w_aln (p := 148) (q0 147) rfl rfl ?_
      refine w_il (p := 150) (q0 148) rfl rfl ?_
      refine w_ic (p := 151) (q0 150) rfl ?_
      refine w_add (p := 152) (q0 151) rfl ?_
      refine w_iaS (p := 153) (v := (zz s11 aSc (x4 + 5).toNat)) (q0 152) rfl kB13 hL o10 (iv_zz s11 aSc (x4 + 5).toNat) ?_
      refine w_call (st := [iv v14]) (as := [.ref 56, iv (zz s11 aSc (x4 + 1).toNat), iv (zz s11 aSc (x4 + 2).toNat), iv (zz s11 aSc (x4 + 3).toNat), iv (zz s11 aSc (x4 + 4).toNat), iv (zz s11 aSc (x4 + 5).toNat)]) (as' := [iv (zz s11 aSc (x4 + 5).toNat), iv (zz s11 aSc (x4 + 4).toNat), iv (zz s11 aSc (x4 + 3).toNat), iv (zz s11 aSc (x4 + 2).toNat), iv (zz s11 aSc (x4 + 1).toNat), .ref 56]) (p := 156) (q0 153) rfl m142 (by decide) (a_ok_i rfl (r56 hB13) rfl) rfl rfl (Nat.le_of_ble_eq_true rfl) (by omega) rfl rfl (a_W.imp w ?_)
      rintro _ ⟨v18, B17, s15, l16, rfl, hB17, kB17, w⟩
      refine ⟨some (iv v18), _, rfl, ?_⟩
      show a_W _ 0 156 [.ref aSc, .ref 0, .ref 56, .ref 105, iv x4, u5, u6] [iv v18, iv v14] (mkH B17 s15 l16) _
      obtain ⟨h19, w⟩ := w
      obtain ⟨h20, w⟩ := w
      by_cases c21 : v14 = v18
      · replace w := w.1 c21
        refine w_i2t (q0 156) h19 h20 c21 ?_
        refine w_inc (p := 482) (ls' := [.ref aSc, .ref 0, .ref 56, .ref 105, iv (x4 + 6), u5, u6]) (q0 479) rfl rfl rfl ?_
        refine w_goto (q0 482) ?_
        exact w
      · replace w := w.2 c21
        refine w_i2f (p := 159) (q0 156) rfl h19 h20 c21 ?_
        refine w_ic (p := 160) (q0 159) rfl ?_
        exact w_ret (q0 160) rfl w
    by_cases c22 : ((Int32.ofInt (zz s aSc x4.toNat) &&& Int32.ofInt 7).toInt) = 1
    · replace w := w.2.1 c22
      refine w_sw (p := 161) (q0 40) (inR_i32 _) (by intro g; rw [c22]; rfl) ?_
      refine w_aln (p := 162) (q0 161) rfl rfl ?_
      refine w_aln (p := 163) (q0 162) rfl rfl ?_
      refine w_il (p := 165) (q0 163) rfl rfl ?_
      refine w_ic (p := 166) (q0 165) rfl ?_
      refine w_add (p := 167) (q0 166) rfl ?_
      obtain ⟨o23, w⟩ := w
      refine w_iaS (p := 168) (v := (zz s aSc (x4 + 1).toNat)) (q0 167) rfl hS hL o23 (iv_zz s aSc (x4 + 1).toNat) ?_
      refine w_aln (p := 169) (q0 168) rfl rfl ?_
      refine w_call (st := []) (as := [.ref 0, iv (zz s aSc (x4 + 1).toNat), .ref 105]) (as' := [.ref 105, iv (zz s aSc (x4 + 1).toNat), .ref 0]) (p := 172) (q0 169) rfl m20 (by decide) (a_ok_s rfl rfl) rfl rfl (Nat.le_of_ble_eq_true rfl) (by omega) rfl rfl (a_W.imp w ?_)
      rintro _ ⟨v27, B26, s24, l25, rfl, hB26, kB26, w⟩
      refine ⟨some (iv v27), _, rfl, ?_⟩
      show a_W _ 0 172 [.ref aSc, .ref 0, .ref 56, .ref 105, iv x4, u5, u6] [iv v27] (mkH B26 s24 l25) _
      refine w_is (p := 174) (ls' := [.ref aSc, .ref 0, .ref 56, .ref 105, iv x4, iv v27, u6]) (q0 172) rfl (Nat.le_of_ble_eq_true rfl) rfl ?_
      refine w_aln (p := 175) (q0 174) rfl rfl ?_
      refine w_aln (p := 176) (q0 175) rfl rfl ?_
      refine w_il (p := 178) (q0 176) rfl rfl ?_
      refine w_ic (p := 179) (q0 178) rfl ?_
      refine w_add (p := 180) (q0 179) rfl ?_
      refine w_iaS (p := 181) (v := (zz s24 aSc (x4 + 1).toNat)) (q0 180) rfl kB26 hL o23 (iv_zz s24 aSc (x4 + 1).toNat) ?_
      refine w_call (st := []) (as := [.ref 56, iv (zz s24 aSc (x4 + 1).toNat)]) (as' := [iv (zz s24 aSc (x4 + 1).toNat), .ref 56]) (p := 184) (q0 181) rfl m143 (by decide) (a_ok_i rfl (r56 hB26) rfl) rfl rfl (Nat.le_of_ble_eq_true rfl) (by omega) rfl rfl (a_W.imp w ?_)
      rintro _ ⟨v31, B30, s28, l29, rfl, hB30, kB30, w⟩
      refine ⟨some (iv v31), _, rfl, ?_⟩
      show a_W _ 0 184 [.ref aSc, .ref 0, .ref 56, .ref 105, iv x4, iv v27, u6] [iv v31] (mkH B30 s28 l29) _
      refine w_is (p := 186) (ls' := [.ref aSc, .ref 0, .ref 56, .ref 105, iv x4, iv v27, iv v31]) (q0 184) rfl (Nat.le_of_ble_eq_true rfl) rfl ?_
      refine w_aln (p := 187) (q0 186) rfl rfl ?_
      refine w_call (st := []) (as := [.ref 56]) (as' := [.ref 56]) (p := 190) (q0 187) rfl m141 (by decide) (a_ok_i rfl (r56 hB30) rfl) rfl rfl (Nat.le_of_ble_eq_true rfl) (by omega) rfl rfl ?_
      refine w_aln (p := 1) (q141 0) rfl rfl ?_
      refine w_gI (p := 4) (j := 0) (v := (zz s28 56 0)) (q141 1) rfl (r56 hB30) (by decide) (iv_zz s28 56 0) ?_
      refine w_ret (q141 4) rfl ⟨_, _, rfl, ?_⟩
      show a_W _ 0 190 [.ref aSc, .ref 0, .ref 56, .ref 105, iv x4, iv v27, iv v31] [iv (zz s28 56 0)] _ _
      refine w_il (p := 192) (q0 190) rfl rfl ?_
      obtain ⟨h32, w⟩ := w
      by_cases c33 : (zz s28 56 0) = v27
      · replace w := w.1 c33
        refine w_i2t (q0 192) (inR_zz _ _ _) h32 c33 ?_
        refine w_il (p := 199) (q0 197) rfl rfl ?_
        by_cases c34 : v27 ≠ 0
        · replace w := w.1 c34
          refine w_i1t (q0 199) h32 c34 ?_
          refine w_goto (q0 214) ?_
          refine w_inc (p := 482) (ls' := [.ref aSc, .ref 0, .ref 56, .ref 105, iv (x4 + 6), iv v27, iv v31]) (q0 479) rfl rfl rfl ?_
          refine w_goto (q0 482) ?_
          exact w
        · replace w := w.2 (Decidable.not_not.mp c34)
          refine w_i1f (p := 202) (q0 199) rfl h32 c34 ?_
          refine w_aln (p := 203) (q0 202) rfl rfl ?_
          refine w_ic (p := 204) (q0 203) rfl ?_
          refine w_la (p := 205) (q0 204) rfl (r105 hB30) (by decide) (by decide) ?_
          refine w_il (p := 207) (q0 205) rfl rfl ?_
          refine w_i2l (p := 208) (q0 207) rfl ?_
          refine w_lcmp (p := 209) (q0 208) rfl ?_
          by_cases c35 : (l29 105 0) = ((Int32.ofInt v31).toInt64)
          · replace w := w.1 c35
            refine w_i1t (q0 209) (inR_i32 _) (lc0 c35) ?_
            refine w_goto (q0 214) ?_
            refine w_inc (p := 482) (ls' := [.ref aSc, .ref 0, .ref 56, .ref 105, iv (x4 + 6), iv v27, iv v31]) (q0 479) rfl rfl rfl ?_
            refine w_goto (q0 482) ?_
            exact w
          · replace w := w.2 c35
            refine w_i1f (p := 212) (q0 209) rfl (inR_i32 _) (lc1 c35) ?_
            refine w_ic (p := 213) (q0 212) rfl ?_
            exact w_ret (q0 213) rfl w
      · replace w := w.2 c33
        refine w_i2f (p := 195) (q0 192) rfl (inR_zz _ _ _) h32 c33 ?_
        refine w_ic (p := 196) (q0 195) rfl ?_
        exact w_ret (q0 196) rfl w
    by_cases c36 : ((Int32.ofInt (zz s aSc x4.toNat) &&& Int32.ofInt 7).toInt) = 2
    · replace w := w.2.2.1 c36
      refine w_sw (p := 217) (q0 40) (inR_i32 _) (by intro g; rw [c36]; rfl) ?_
      refine w_aln (p := 218) (q0 217) rfl rfl ?_
      refine w_aln (p := 219) (q0 218) rfl rfl ?_
      refine w_il (p := 221) (q0 219) rfl rfl ?_
      refine w_ic (p := 222) (q0 221) rfl ?_
      refine w_add (p := 223) (q0 222) rfl ?_
      obtain ⟨o37, w⟩ := w
      refine w_iaS (p := 224) (v := (zz s aSc (x4 + 1).toNat)) (q0 223) rfl hS hL o37 (iv_zz s aSc (x4 + 1).toNat) ?_
      refine w_aln (p := 225) (q0 224) rfl rfl ?_
      refine w_call (st := []) (as := [.ref 0, iv (zz s aSc (x4 + 1).toNat), .ref 105]) (as' := [.ref 105, iv (zz s aSc (x4 + 1).toNat), .ref 0]) (p := 228) (q0 225) rfl m119 (by decide) (a_ok_s rfl rfl) rfl rfl (Nat.le_of_ble_eq_true rfl) (by omega) rfl rfl (a_W.imp w ?_)
      rintro _ ⟨v41, B40, s38, l39, rfl, hB40, kB40, w⟩
      refine ⟨some (iv v41), _, rfl, ?_⟩
      show a_W _ 0 228 [.ref aSc, .ref 0, .ref 56, .ref 105, iv x4, u5, u6] [iv v41] (mkH B40 s38 l39) _
      refine w_is (p := 230) (ls' := [.ref aSc, .ref 0, .ref 56, .ref 105, iv x4, iv v41, u6]) (q0 228) rfl (Nat.le_of_ble_eq_true rfl) rfl ?_
      refine w_aln (p := 231) (q0 230) rfl rfl ?_
      refine w_aln (p := 232) (q0 231) rfl rfl ?_
      refine w_il (p := 234) (q0 232) rfl rfl ?_
      refine w_ic (p := 235) (q0 234) rfl ?_
      refine w_add (p := 236) (q0 235) rfl ?_
      refine w_iaS (p := 237) (v := (zz s38 aSc (x4 + 1).toNat)) (q0 236) rfl kB40 hL o37 (iv_zz s38 aSc (x4 + 1).toNat) ?_
      refine w_call (st := []) (as := [.ref 56, iv (zz s38 aSc (x4 + 1).toNat)]) (as' := [iv (zz s38 aSc (x4 + 1).toNat), .ref 56]) (p := 240) (q0 237) rfl m202 (by decide) (a_ok_i rfl (r56 hB40) rfl) rfl rfl (Nat.le_of_ble_eq_true rfl) (by omega) rfl rfl (a_W.imp w ?_)
      rintro _ ⟨v45, B44, s42, l43, rfl, hB44, kB44, w⟩
      refine ⟨some (iv v45), _, rfl, ?_⟩
      show a_W _ 0 240 [.ref aSc, .ref 0, .ref 56, .ref 105, iv x4, iv v41, u6] [iv v45] (mkH B44 s42 l43) _
      refine w_is (p := 242) (ls' := [.ref aSc, .ref 0, .ref 56, .ref 105, iv x4, iv v41, iv v45]) (q0 240) rfl (Nat.le_of_ble_eq_true rfl) rfl ?_
      refine w_aln (p := 243) (q0 242) rfl rfl ?_
      refine w_call (st := []) (as := [.ref 56]) (as' := [.ref 56]) (p := 246) (q0 243) rfl m141 (by decide) (a_ok_i rfl (r56 hB44) rfl) rfl rfl (Nat.le_of_ble_eq_true rfl) (by omega) rfl rfl ?_
      refine w_aln (p := 1) (q141 0) rfl rfl ?_
      refine w_gI (p := 4) (j := 0) (v := (zz s42 56 0)) (q141 1) rfl (r56 hB44) (by decide) (iv_zz s42 56 0) ?_
      refine w_ret (q141 4) rfl ⟨_, _, rfl, ?_⟩
      show a_W _ 0 246 [.ref aSc, .ref 0, .ref 56, .ref 105, iv x4, iv v41, iv v45] [iv (zz s42 56 0)] _ _
      refine w_il (p := 248) (q0 246) rfl rfl ?_
      obtain ⟨h46, w⟩ := w
      by_cases c47 : (zz s42 56 0) = v41
      · replace w := w.1 c47
        refine w_i2t (q0 248) (inR_zz _ _ _) h46 c47 ?_
        refine w_il (p := 255) (q0 253) rfl rfl ?_
        by_cases c48 : v41 ≠ 0
        · replace w := w.1 c48
          refine w_i1t (q0 255) h46 c48 ?_
          refine w_goto (q0 270) ?_
          refine w_inc (p := 482) (ls' := [.ref aSc, .ref 0, .ref 56, .ref 105, iv (x4 + 6), iv v41, iv v45]) (q0 479) rfl rfl rfl ?_
          refine w_goto (q0 482) ?_
          exact w
        · replace w := w.2 (Decidable.not_not.mp c48)
          refine w_i1f (p := 258) (q0 255) rfl h46 c48 ?_
          refine w_aln (p := 259) (q0 258) rfl rfl ?_
          refine w_ic (p := 260) (q0 259) rfl ?_
          refine w_la (p := 261) (q0 260) rfl (r105 hB44) (by decide) (by decide) ?_
          refine w_il (p := 263) (q0 261) rfl rfl ?_
          refine w_i2l (p := 264) (q0 263) rfl ?_
          refine w_lcmp (p := 265) (q0 264) rfl ?_
          by_cases c49 : (l43 105 0) = ((Int32.ofInt v45).toInt64)
          · replace w := w.1 c49
            refine w_i1t (q0 265) (inR_i32 _) (lc0 c49) ?_
            refine w_goto (q0 270) ?_
            refine w_inc (p := 482) (ls' := [.ref aSc, .ref 0, .ref 56, .ref 105, iv (x4 + 6), iv v41, iv v45]) (q0 479) rfl rfl rfl ?_
            refine w_goto (q0 482) ?_
            exact w
          · replace w := w.2 c49
            refine w_i1f (p := 268) (q0 265) rfl (inR_i32 _) (lc1 c49) ?_
            refine w_ic (p := 269) (q0 268) rfl ?_
            exact w_ret (q0 269) rfl w
      · replace w := w.2 c47
        refine w_i2f (p := 251) (q0 248) rfl (inR_zz _ _ _) h46 c47 ?_
        refine w_ic (p := 252) (q0 251) rfl ?_
        exact w_ret (q0 252) rfl w
    by_cases c50 : ((Int32.ofInt (zz s aSc x4.toNat) &&& Int32.ofInt 7).toInt) = 3
    · replace w := w.2.2.2.1 c50
      refine w_sw (p := 273) (q0 40) (inR_i32 _) (by intro g; rw [c50]; rfl) ?_
      refine w_aln (p := 274) (q0 273) rfl rfl ?_
      refine w_aln (p := 275) (q0 274) rfl rfl ?_
      refine w_il (p := 277) (q0 275) rfl rfl ?_
      refine w_ic (p := 278) (q0 277) rfl ?_
      refine w_add (p := 279) (q0 278) rfl ?_
      obtain ⟨o51, w⟩ := w
      refine w_iaS (p := 280) (v := (zz s aSc (x4 + 1).toNat)) (q0 279) rfl hS hL o51 (iv_zz s aSc (x4 + 1).toNat) ?_
      refine w_aln (p := 281) (q0 280) rfl rfl ?_
      refine w_call (st := []) (as := [.ref 0, iv (zz s aSc (x4 + 1).toNat), .ref 105]) (as' := [.ref 105, iv (zz s aSc (x4 + 1).toNat), .ref 0]) (p := 284) (q0 281) rfl m125 (by decide) (a_ok_s rfl rfl) rfl rfl (Nat.le_of_ble_eq_true rfl) (by omega) rfl rfl (a_W.imp w ?_)
      rintro _ ⟨v55, B54, s52, l53, rfl, hB54, kB54, w⟩
      refine ⟨some (iv v55), _, rfl, ?_⟩
      show a_W _ 0 284 [.ref aSc, .ref 0, .ref 56, .ref 105, iv x4, u5, u6] [iv v55] (mkH B54 s52 l53) _
      refine w_is (p := 286) (ls' := [.ref aSc, .ref 0, .ref 56, .ref 105, iv x4, iv v55, u6]) (q0 284) rfl (Nat.le_of_ble_eq_true rfl) rfl ?_
      refine w_aln (p := 287) (q0 286) rfl rfl ?_
      refine w_aln (p := 288) (q0 287) rfl rfl ?_
      refine w_il (p := 290) (q0 288) rfl rfl ?_
      refine w_ic (p := 291) (q0 290) rfl ?_
      refine w_add (p := 292) (q0 291) rfl ?_
      refine w_iaS (p := 293) (v := (zz s52 aSc (x4 + 1).toNat)) (q0 292) rfl kB54 hL o51 (iv_zz s52 aSc (x4 + 1).toNat) ?_
      refine w_call (st := []) (as := [.ref 56, iv (zz s52 aSc (x4 + 1).toNat)]) (as' := [iv (zz s52 aSc (x4 + 1).toNat), .ref 56]) (p := 296) (q0 293) rfl m203 (by decide) (a_ok_i rfl (r56 hB54) rfl) rfl rfl (Nat.le_of_ble_eq_true rfl) (by omega) rfl rfl (a_W.imp w ?_)
      rintro _ ⟨v59, B58, s56, l57, rfl, hB58, kB58, w⟩
      refine ⟨some (iv v59), _, rfl, ?_⟩
      show a_W _ 0 296 [.ref aSc, .ref 0, .ref 56, .ref 105, iv x4, iv v55, u6] [iv v59] (mkH B58 s56 l57) _
      refine w_is (p := 298) (ls' := [.ref aSc, .ref 0, .ref 56, .ref 105, iv x4, iv v55, iv v59]) (q0 296) rfl (Nat.le_of_ble_eq_true rfl) rfl ?_
      refine w_aln (p := 299) (q0 298) rfl rfl ?_
      refine w_call (st := []) (as := [.ref 56]) (as' := [.ref 56]) (p := 302) (q0 299) rfl m141 (by decide) (a_ok_i rfl (r56 hB58) rfl) rfl rfl (Nat.le_of_ble_eq_true rfl) (by omega) rfl rfl ?_
      refine w_aln (p := 1) (q141 0) rfl rfl ?_
      refine w_gI (p := 4) (j := 0) (v := (zz s56 56 0)) (q141 1) rfl (r56 hB58) (by decide) (iv_zz s56 56 0) ?_
      refine w_ret (q141 4) rfl ⟨_, _, rfl, ?_⟩
      show a_W _ 0 302 [.ref aSc, .ref 0, .ref 56, .ref 105, iv x4, iv v55, iv v59] [iv (zz s56 56 0)] _ _
      refine w_il (p := 304) (q0 302) rfl rfl ?_
      obtain ⟨h60, w⟩ := w
      by_cases c61 : (zz s56 56 0) = v55
      · replace w := w.1 c61
        refine w_i2t (q0 304) (inR_zz _ _ _) h60 c61 ?_
        refine w_il (p := 311) (q0 309) rfl rfl ?_
        by_cases c62 : v55 ≠ 0
        · replace w := w.1 c62
          refine w_i1t (q0 311) h60 c62 ?_
          refine w_goto (q0 326) ?_
          refine w_inc (p := 482) (ls' := [.ref aSc, .ref 0, .ref 56, .ref 105, iv (x4 + 6), iv v55, iv v59]) (q0 479) rfl rfl rfl ?_
          refine w_goto (q0 482) ?_
          exact w
        · replace w := w.2 (Decidable.not_not.mp c62)
          refine w_i1f (p := 314) (q0 311) rfl h60 c62 ?_
          refine w_aln (p := 315) (q0 314) rfl rfl ?_
          refine w_ic (p := 316) (q0 315) rfl ?_
          refine w_la (p := 317) (q0 316) rfl (r105 hB58) (by decide) (by decide) ?_
          refine w_il (p := 319) (q0 317) rfl rfl ?_
          refine w_i2l (p := 320) (q0 319) rfl ?_
          refine w_lcmp (p := 321) (q0 320) rfl ?_
          by_cases c63 : (l57 105 0) = ((Int32.ofInt v59).toInt64)
          · replace w := w.1 c63
            refine w_i1t (q0 321) (inR_i32 _) (lc0 c63) ?_
            refine w_goto (q0 326) ?_
            refine w_inc (p := 482) (ls' := [.ref aSc, .ref 0, .ref 56, .ref 105, iv (x4 + 6), iv v55, iv v59]) (q0 479) rfl rfl rfl ?_
            refine w_goto (q0 482) ?_
            exact w
          · replace w := w.2 c63
            refine w_i1f (p := 324) (q0 321) rfl (inR_i32 _) (lc1 c63) ?_
            refine w_ic (p := 325) (q0 324) rfl ?_
            exact w_ret (q0 325) rfl w
      · replace w := w.2 c61
        refine w_i2f (p := 307) (q0 304) rfl (inR_zz _ _ _) h60 c61 ?_
        refine w_ic (p := 308) (q0 307) rfl ?_
        exact w_ret (q0 308) rfl w
    by_cases c64 : ((Int32.ofInt (zz s aSc x4.toNat) &&& Int32.ofInt 7).toInt) = 4
    · replace w := w.2.2.2.2.1 c64
      refine w_sw (p := 329) (q0 40) (inR_i32 _) (by intro g; rw [c64]; rfl) ?_
      refine w_aln (p := 330) (q0 329) rfl rfl ?_
      refine w_call (st := []) (as := [.ref 0]) (as' := [.ref 0]) (p := 333) (q0 330) rfl m18 (by decide) (a_ok_i rfl (r0 hB) rfl) rfl rfl (Nat.le_of_ble_eq_true rfl) (by omega) rfl rfl ?_
      refine w_aln (p := 1) (q18 0) rfl rfl ?_
      refine w_gR (p := 4) (j := 0) (v := 1) (q18 1) rfl (r0 hB) (by decide) (f0_0 hB) ?_
      refine w_gI (p := 7) (j := 10) (v := (zz s 1 10)) (q18 4) rfl (r1 hB) (by decide) (iv_zz s 1 10) ?_
      refine w_ret (q18 7) rfl ⟨_, _, rfl, ?_⟩
      show a_W _ 0 333 [.ref aSc, .ref 0, .ref 56, .ref 105, iv x4, u5, u6] [iv (zz s 1 10)] _ _
      refine w_aln (p := 334) (q0 333) rfl rfl ?_
      refine w_call (st := [iv (zz s 1 10)]) (as := [.ref 56]) (as' := [.ref 56]) (p := 337) (q0 334) rfl m204 (by decide) (a_ok_i rfl (r56 hB) rfl) rfl rfl (Nat.le_of_ble_eq_true rfl) (by omega) rfl rfl ?_
      refine w_aln (p := 1) (q204 0) rfl rfl ?_
      refine w_ic (p := 2) (q204 1) rfl ?_
      refine w_pI (p := 5) (j := 0) (q204 2) rfl (r56 hB) (by decide) rfl ?_
      refine w_aln (p := 6) (q204 5) rfl rfl ?_
      refine w_gI (p := 9) (j := 22) (v := (zz s 56 22)) (q204 6) rfl (r56 hB) (by decide) (iv_zz s 56 22) ?_
      refine w_ret (q204 9) rfl ⟨_, _, rfl, ?_⟩
      show a_W _ 0 337 [.ref aSc, .ref 0, .ref 56, .ref 105, iv x4, u5, u6] [iv (zz s 56 22), iv (zz s 1 10)] _ _
      by_cases c65 : (zz s 1 10) = (zz s 56 22)
      · replace w := w.1 c65
        refine w_i2t (q0 337) (inR_zz _ _ _) (inR_zz _ _ _) c65 ?_
        refine w_inc (p := 482) (ls' := [.ref aSc, .ref 0, .ref 56, .ref 105, iv (x4 + 6), u5, u6]) (q0 479) rfl rfl rfl ?_
        refine w_goto (q0 482) ?_
        exact w
      · replace w := w.2 c65
        refine w_i2f (p := 340) (q0 337) rfl (inR_zz _ _ _) (inR_zz _ _ _) c65 ?_
        refine w_ic (p := 341) (q0 340) rfl ?_
        exact w_ret (q0 341) rfl w
    by_cases c66 : ((Int32.ofInt (zz s aSc x4.toNat) &&& Int32.ofInt 7).toInt) = 5
    · replace w := w.2.2.2.2.2.1 c66
      refine w_sw (p := 342) (q0 40) (inR_i32 _) (by intro g; rw [c66]; rfl) ?_
      refine w_aln (p := 343) (q0 342) rfl rfl ?_
      refine w_call (st := []) (as := [.ref 0]) (as' := [.ref 0]) (p := 346) (q0 343) rfl m19 (by decide) (a_ok_i rfl (r0 hB) rfl) rfl rfl (Nat.le_of_ble_eq_true rfl) (by omega) rfl rfl ?_
      refine w_aln (p := 1) (q19 0) rfl rfl ?_
      refine w_gR (p := 4) (j := 0) (v := 1) (q19 1) rfl (r0 hB) (by decide) (f0_0 hB) ?_
      refine w_gI (p := 7) (j := 11) (v := (zz s 1 11)) (q19 4) rfl (r1 hB) (by decide) (iv_zz s 1 11) ?_
      refine w_ret (q19 7) rfl ⟨_, _, rfl, ?_⟩
      show a_W _ 0 346 [.ref aSc, .ref 0, .ref 56, .ref 105, iv x4, u5, u6] [iv (zz s 1 11)] _ _
      refine w_aln (p := 347) (q0 346) rfl rfl ?_
      refine w_call (st := [iv (zz s 1 11)]) (as := [.ref 56]) (as' := [.ref 56]) (p := 350) (q0 347) rfl m205 (by decide) (a_ok_i rfl (r56 hB) rfl) rfl rfl (Nat.le_of_ble_eq_true rfl) (by omega) rfl rfl ?_
      refine w_aln (p := 1) (q205 0) rfl rfl ?_
      refine w_ic (p := 2) (q205 1) rfl ?_
      refine w_pI (p := 5) (j := 0) (q205 2) rfl (r56 hB) (by decide) rfl ?_
      refine w_aln (p := 6) (q205 5) rfl rfl ?_
      refine w_gI (p := 9) (j := 23) (v := (zz s 56 23)) (q205 6) rfl (r56 hB) (by decide) (iv_zz s 56 23) ?_
      refine w_ret (q205 9) rfl ⟨_, _, rfl, ?_⟩
      show a_W _ 0 350 [.ref aSc, .ref 0, .ref 56, .ref 105, iv x4, u5, u6] [iv (zz s 56 23), iv (zz s 1 11)] _ _
      by_cases c67 : (zz s 1 11) = (zz s 56 23)
      · replace w := w.1 c67
        refine w_i2t (q0 350) (inR_zz _ _ _) (inR_zz _ _ _) c67 ?_
        refine w_inc (p := 482) (ls' := [.ref aSc, .ref 0, .ref 56, .ref 105, iv (x4 + 6), u5, u6]) (q0 479) rfl rfl rfl ?_
        refine w_goto (q0 482) ?_
        exact w
      · replace w := w.2 c67
        refine w_i2f (p := 353) (q0 350) rfl (inR_zz _ _ _) (inR_zz _ _ _) c67 ?_
        refine w_ic (p := 354) (q0 353) rfl ?_
        exact w_ret (q0 354) rfl w
    by_cases c68 : ((Int32.ofInt (zz s aSc x4.toNat) &&& Int32.ofInt 7).toInt) = 6
    · replace w := w.2.2.2.2.2.2.1 c68
      refine w_sw (p := 355) (q0 40) (inR_i32 _) (by intro g; rw [c68]; rfl) ?_
      refine w_aln (p := 356) (q0 355) rfl rfl ?_
      refine w_aln (p := 357) (q0 356) rfl rfl ?_
      refine w_il (p := 359) (q0 357) rfl rfl ?_
      refine w_ic (p := 360) (q0 359) rfl ?_
      refine w_add (p := 361) (q0 360) rfl ?_
      obtain ⟨o69, w⟩ := w
      refine w_iaS (p := 362) (v := (zz s aSc (x4 + 1).toNat)) (q0 361) rfl hS hL o69 (iv_zz s aSc (x4 + 1).toNat) ?_
      refine w_aln (p := 363) (q0 362) rfl rfl ?_
      refine w_call (st := []) (as := [.ref 0, iv (zz s aSc (x4 + 1).toNat), .ref 105]) (as' := [.ref 105, iv (zz s aSc (x4 + 1).toNat), .ref 0]) (p := 366) (q0 363) rfl m130 (by decide) (a_ok_s rfl rfl) rfl rfl (Nat.le_of_ble_eq_true rfl) (by omega) rfl rfl (a_W.imp w ?_)
      rintro _ ⟨v73, B72, s70, l71, rfl, hB72, kB72, w⟩
      refine ⟨some (iv v73), _, rfl, ?_⟩
      show a_W _ 0 366 [.ref aSc, .ref 0, .ref 56, .ref 105, iv x4, u5, u6] [iv v73] (mkH B72 s70 l71) _
      refine w_is (p := 368) (ls' := [.ref aSc, .ref 0, .ref 56, .ref 105, iv x4, iv v73, u6]) (q0 366) rfl (Nat.le_of_ble_eq_true rfl) rfl ?_
      refine w_aln (p := 369) (q0 368) rfl rfl ?_
      refine w_aln (p := 370) (q0 369) rfl rfl ?_
      refine w_il (p := 372) (q0 370) rfl rfl ?_
      refine w_ic (p := 373) (q0 372) rfl ?_
      refine w_add (p := 374) (q0 373) rfl ?_
      refine w_iaS (p := 375) (v := (zz s70 aSc (x4 + 1).toNat)) (q0 374) rfl kB72 hL o69 (iv_zz s70 aSc (x4 + 1).toNat) ?_
      refine w_call (st := []) (as := [.ref 56, iv (zz s70 aSc (x4 + 1).toNat)]) (as' := [iv (zz s70 aSc (x4 + 1).toNat), .ref 56]) (p := 378) (q0 375) rfl m206 (by decide) (a_ok_i rfl (r56 hB72) rfl) rfl rfl (Nat.le_of_ble_eq_true rfl) (by omega) rfl rfl (a_W.imp w ?_)
      rintro _ ⟨v77, B76, s74, l75, rfl, hB76, kB76, w⟩
      refine ⟨some (iv v77), _, rfl, ?_⟩
      show a_W _ 0 378 [.ref aSc, .ref 0, .ref 56, .ref 105, iv x4, iv v73, u6] [iv v77] (mkH B76 s74 l75) _
      refine w_is (p := 380) (ls' := [.ref aSc, .ref 0, .ref 56, .ref 105, iv x4, iv v73, iv v77]) (q0 378) rfl (Nat.le_of_ble_eq_true rfl) rfl ?_
      refine w_aln (p := 381) (q0 380) rfl rfl ?_
      refine w_call (st := []) (as := [.ref 56]) (as' := [.ref 56]) (p := 384) (q0 381) rfl m141 (by decide) (a_ok_i rfl (r56 hB76) rfl) rfl rfl (Nat.le_of_ble_eq_true rfl) (by omega) rfl rfl ?_
      refine w_aln (p := 1) (q141 0) rfl rfl ?_
      refine w_gI (p := 4) (j := 0) (v := (zz s74 56 0)) (q141 1) rfl (r56 hB76) (by decide) (iv_zz s74 56 0) ?_
      refine w_ret (q141 4) rfl ⟨_, _, rfl, ?_⟩
      show a_W _ 0 384 [.ref aSc, .ref 0, .ref 56, .ref 105, iv x4, iv v73, iv v77] [iv (zz s74 56 0)] _ _
      refine w_il (p := 386) (q0 384) rfl rfl ?_
      obtain ⟨h78, w⟩ := w
      by_cases c79 : (zz s74 56 0) = v73
      · replace w := w.1 c79
        refine w_i2t (q0 386) (inR_zz _ _ _) h78 c79 ?_
        refine w_il (p := 393) (q0 391) rfl rfl ?_
        by_cases c80 : v73 ≠ 0
        · replace w := w.1 c80
          refine w_i1t (q0 393) h78 c80 ?_
          refine w_goto (q0 408) ?_
          refine w_inc (p := 482) (ls' := [.ref aSc, .ref 0, .ref 56, .ref 105, iv (x4 + 6), iv v73, iv v77]) (q0 479) rfl rfl rfl ?_
          refine w_goto (q0 482) ?_
          exact w
        · replace w := w.2 (Decidable.not_not.mp c80)
          refine w_i1f (p := 396) (q0 393) rfl h78 c80 ?_
          refine w_aln (p := 397) (q0 396) rfl rfl ?_
          refine w_ic (p := 398) (q0 397) rfl ?_
          refine w_la (p := 399) (q0 398) rfl (r105 hB76) (by decide) (by decide) ?_
          refine w_il (p := 401) (q0 399) rfl rfl ?_
          refine w_i2l (p := 402) (q0 401) rfl ?_
          refine w_lcmp (p := 403) (q0 402) rfl ?_
          by_cases c81 : (l75 105 0) = ((Int32.ofInt v77).toInt64)
          · replace w := w.1 c81
            refine w_i1t (q0 403) (inR_i32 _) (lc0 c81) ?_
            refine w_goto (q0 408) ?_
            refine w_inc (p := 482) (ls' := [.ref aSc, .ref 0, .ref 56, .ref 105, iv (x4 + 6), iv v73, iv v77]) (q0 479) rfl rfl rfl ?_
            refine w_goto (q0 482) ?_
            exact w
          · replace w := w.2 c81
            refine w_i1f (p := 406) (q0 403) rfl (inR_i32 _) (lc1 c81) ?_
            refine w_ic (p := 407) (q0 406) rfl ?_
            exact w_ret (q0 407) rfl w
      · replace w := w.2 c79
        refine w_i2f (p := 389) (q0 386) rfl (inR_zz _ _ _) h78 c79 ?_
        refine w_ic (p := 390) (q0 389) rfl ?_
        exact w_ret (q0 390) rfl w
    by_cases c82 : ((Int32.ofInt (zz s aSc x4.toNat) &&& Int32.ofInt 7).toInt) = 7
    · replace w := w.2.2.2.2.2.2.2.1 c82
      refine w_sw (p := 411) (q0 40) (inR_i32 _) (by intro g; rw [c82]; rfl) ?_
      refine w_aln (p := 412) (q0 411) rfl rfl ?_
      refine w_aln (p := 413) (q0 412) rfl rfl ?_
      refine w_il (p := 415) (q0 413) rfl rfl ?_
      refine w_ic (p := 416) (q0 415) rfl ?_
      refine w_add (p := 417) (q0 416) rfl ?_
      obtain ⟨o83, w⟩ := w
      refine w_iaS (p := 418) (v := (zz s aSc (x4 + 1).toNat)) (q0 417) rfl hS hL o83 (iv_zz s aSc (x4 + 1).toNat) ?_
      refine w_aln (p := 419) (q0 418) rfl rfl ?_
      refine w_il (p := 421) (q0 419) rfl rfl ?_
      refine w_ic (p := 422) (q0 421) rfl ?_
      refine w_add (p := 423) (q0 422) rfl ?_
      obtain ⟨o84, w⟩ := w
      refine w_iaS (p := 424) (v := (zz s aSc (x4 + 2).toNat)) (q0 423) rfl hS hL o84 (iv_zz s aSc (x4 + 2).toNat) ?_
      refine w_aln (p := 425) (q0 424) rfl rfl ?_
      refine w_call (st := []) (as := [.ref 0, iv (zz s aSc (x4 + 1).toNat), iv (zz s aSc (x4 + 2).toNat), .ref 105]) (as' := [.ref 105, iv (zz s aSc (x4 + 2).toNat), iv (zz s aSc (x4 + 1).toNat), .ref 0]) (p := 428) (q0 425) rfl m133 (by decide) (a_ok_s rfl rfl) rfl rfl (Nat.le_of_ble_eq_true rfl) (by omega) rfl rfl (a_W.imp w ?_)
      rintro _ ⟨v88, B87, s85, l86, rfl, hB87, kB87, w⟩
      refine ⟨some (iv v88), _, rfl, ?_⟩
      show a_W _ 0 428 [.ref aSc, .ref 0, .ref 56, .ref 105, iv x4, u5, u6] [iv v88] (mkH B87 s85 l86) _
      refine w_is (p := 430) (ls' := [.ref aSc, .ref 0, .ref 56, .ref 105, iv x4, iv v88, u6]) (q0 428) rfl (Nat.le_of_ble_eq_true rfl) rfl ?_
      refine w_aln (p := 431) (q0 430) rfl rfl ?_
      refine w_aln (p := 432) (q0 431) rfl rfl ?_
      refine w_il (p := 434) (q0 432) rfl rfl ?_
      refine w_ic (p := 435) (q0 434) rfl ?_
      refine w_add (p := 436) (q0 435) rfl ?_
      refine w_iaS (p := 437) (v := (zz s85 aSc (x4 + 1).toNat)) (q0 436) rfl kB87 hL o83 (iv_zz s85 aSc (x4 + 1).toNat) ?_
      refine w_aln (p := 438) (q0 437) rfl rfl ?_
      refine w_il (p := 440) (q0 438) rfl rfl ?_
      refine w_ic (p := 441) (q0 440) rfl ?_
      refine w_add (p := 442) (q0 441) rfl ?_
      refine w_iaS (p := 443) (v := (zz s85 aSc (x4 + 2).toNat)) (q0 442) rfl kB87 hL o84 (iv_zz s85 aSc (x4 + 2).toNat) ?_
      refine w_call (st := []) (as := [.ref 56, iv (zz s85 aSc (x4 + 1).toNat), iv (zz s85 aSc (x4 + 2).toNat)]) (as' := [iv (zz s85 aSc (x4 + 2).toNat), iv (zz s85 aSc (x4 + 1).toNat), .ref 56]) (p := 446) (q0 443) rfl m207 (by decide) (a_ok_i rfl (r56 hB87) rfl) rfl rfl (Nat.le_of_ble_eq_true rfl) (by omega) rfl rfl (a_W.imp w ?_)
      rintro _ ⟨v92, B91, s89, l90, rfl, hB91, kB91, w⟩
      refine ⟨some (iv v92), _, rfl, ?_⟩
      show a_W _ 0 446 [.ref aSc, .ref 0, .ref 56, .ref 105, iv x4, iv v88, u6] [iv v92] (mkH B91 s89 l90) _
      refine w_is (p := 448) (ls' := [.ref aSc, .ref 0, .ref 56, .ref 105, iv x4, iv v88, iv v92]) (q0 446) rfl (Nat.le_of_ble_eq_true rfl) rfl ?_
      refine w_aln (p := 449) (q0 448) rfl rfl ?_
      refine w_call (st := []) (as := [.ref 56]) (as' := [.ref 56]) (p := 452) (q0 449) rfl m141 (by decide) (a_ok_i rfl (r56 hB91) rfl) rfl rfl (Nat.le_of_ble_eq_true rfl) (by omega) rfl rfl ?_
      refine w_aln (p := 1) (q141 0) rfl rfl ?_
      refine w_gI (p := 4) (j := 0) (v := (zz s89 56 0)) (q141 1) rfl (r56 hB91) (by decide) (iv_zz s89 56 0) ?_
      refine w_ret (q141 4) rfl ⟨_, _, rfl, ?_⟩
      show a_W _ 0 452 [.ref aSc, .ref 0, .ref 56, .ref 105, iv x4, iv v88, iv v92] [iv (zz s89 56 0)] _ _
      refine w_il (p := 454) (q0 452) rfl rfl ?_
      obtain ⟨h93, w⟩ := w
      by_cases c94 : (zz s89 56 0) = v88
      · replace w := w.1 c94
        refine w_i2t (q0 454) (inR_zz _ _ _) h93 c94 ?_
        refine w_il (p := 461) (q0 459) rfl rfl ?_
        by_cases c95 : v88 ≠ 0
        · replace w := w.1 c95
          refine w_i1t (q0 461) h93 c95 ?_
          refine w_goto (q0 476) ?_
          refine w_inc (p := 482) (ls' := [.ref aSc, .ref 0, .ref 56, .ref 105, iv (x4 + 6), iv v88, iv v92]) (q0 479) rfl rfl rfl ?_
          refine w_goto (q0 482) ?_
          exact w
        · replace w := w.2 (Decidable.not_not.mp c95)
          refine w_i1f (p := 464) (q0 461) rfl h93 c95 ?_
          refine w_aln (p := 465) (q0 464) rfl rfl ?_
          refine w_ic (p := 466) (q0 465) rfl ?_
          refine w_la (p := 467) (q0 466) rfl (r105 hB91) (by decide) (by decide) ?_
          refine w_il (p := 469) (q0 467) rfl rfl ?_
          refine w_i2l (p := 470) (q0 469) rfl ?_
          refine w_lcmp (p := 471) (q0 470) rfl ?_
          by_cases c96 : (l90 105 0) = ((Int32.ofInt v92).toInt64)
          · replace w := w.1 c96
            refine w_i1t (q0 471) (inR_i32 _) (lc0 c96) ?_
            refine w_goto (q0 476) ?_
            refine w_inc (p := 482) (ls' := [.ref aSc, .ref 0, .ref 56, .ref 105, iv (x4 + 6), iv v88, iv v92]) (q0 479) rfl rfl rfl ?_
            refine w_goto (q0 482) ?_
            exact w
          · replace w := w.2 c96
            refine w_i1f (p := 474) (q0 471) rfl (inR_i32 _) (lc1 c96) ?_
            refine w_ic (p := 475) (q0 474) rfl ?_
            exact w_ret (q0 475) rfl w
      · replace w := w.2 c94
        refine w_i2f (p := 457) (q0 454) rfl (inR_zz _ _ _) h93 c94 ?_
        refine w_ic (p := 458) (q0 457) rfl ?_
        exact w_ret (q0 458) rfl w
    replace w := w.2.2.2.2.2.2.2.2 ⟨c5, c22, c36, c50, c64, c66, c68, c82⟩
    refine w_sw (p := 479) (q0 40) (inR_i32 _) (sw_t (inR_i32 _) (by omega) rfl) ?_
    refine w_inc (p := 482) (ls' := [.ref aSc, .ref 0, .ref 56, .ref 105, iv (x4 + 6), u5, u6]) (q0 479) rfl rfl rfl ?_
    refine w_goto (q0 482) ?_
    exact w
