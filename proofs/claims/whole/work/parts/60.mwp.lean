/-! printed by wip/am/mk60b.py: the reference's text -/
def a_StrA (q : Nat) (cl : List Nat) : Prop := (∀ h : aH, a_jdk 1003 [.ref q] h = some (.inl (some (iv (cl.length : Int))), h)) ∧ (∀ (h : aH) (x : Int), 0 ≤ x ∧ x < (cl.length : Int) → a_jdk 1004 [.ref q, iv x] h = some (.inl (some (iv (cl.getD x.toNat 0 : Int))), h)) ∧ cl.length ≤ 100 ∧ ∀ c ∈ cl, c < 65536
section
variable {d y pc p a b : Nat} {w : List Nat} {ls ls' st : List Value} {h B : aH} {s : Nat → Nat → Int32} {l : Nat → Nat → Int64} {Q : aR → Prop}
theorem inR_sl {q : Nat} {cl : List Nat} (h : a_StrA q cl) : inR (cl.length : Int) := ⟨by omega, by have := h.2.2.1; omega⟩
theorem inR_sc {q : Nat} {cl : List Nat} (h : a_StrA q cl) (k : Nat) : inR (cl.getD k 0 : Int) := by
  have : cl.getD k 0 < 65536 := by
    rw [List.getD_eq_getElem?_getD]
    cases hk : cl[k]? with
    | none => decide
    | some c => exact h.2.2.2 c (List.mem_of_getElem? hk)
  exact ⟨by omega, by omega⟩
theorem w_slen {q : Nat} {cl : List Nat} {i : Instr} (hc : aCode y pc = some (i, 1003, 2, w)) (hp : pc + 3 = p) (hi : a_isC i = true) (hq : a_StrA q cl) (hsum : (st.map fun v => v.category).sum ≤ 8) (hd : 0 < d) (K : a_W d y p ls (iv (cl.length : Int) :: st) h Q) : a_W d y pc ls (.ref q :: st) h Q :=
  w_jdk (as := [.ref q]) (v := some (iv (cl.length : Int))) (h2 := h) hc hp hi rfl (by decide) rfl rfl hsum hd (hq.1 h) K
theorem w_chr {q : Nat} {cl : List Nat} {x : Int} {i : Instr} (hc : aCode y pc = some (i, 1004, 4, w)) (hp : pc + 3 = p) (hi : a_isC i = true) (hq : a_StrA q cl) (hx : 0 ≤ x ∧ x < (cl.length : Int)) (hsum : (st.map fun v => v.category).sum ≤ 8) (hd : 0 < d) (K : a_W d y p ls (iv (cl.getD x.toNat 0 : Int) :: st) h Q) : a_W d y pc ls (iv x :: .ref q :: st) h Q :=
  w_jdk (as := [.ref q, iv x]) (v := some (iv (cl.getD x.toNat 0 : Int))) (h2 := h) hc hp hi rfl (by decide) rfl rfl hsum hd (hq.2.1 h x hx) K
end
def mby (s : aZ) (k : Int) : Int := if k < zz s 56 24 then zz s 57 k.toNat else -1
theorem inR_mby (s : aZ) (k : Int) : inR (mby s k) := by
  unfold mby
  split
  · exact inR_zz _ _ _
  · decide
theorem w151_0 {d : Nat} {B : aH} {Q : aR → Prop} (hB : a_Can B) (x1 : Int) (s : Nat → Nat → Int32) (l : Nat → Nat → Int64) (w : (inR x1 ∧ (((zz s 56 24) ≤ x1 → Q (.inl (some (iv (-1))), (mkH B s l))) ∧ (x1 < (zz s 56 24) → ((0 ≤ x1 ∧ x1 < 8000) ∧ Q (.inl (some (iv (zz s 57 x1.toNat))), (mkH B s l))))))) : a_W d 151 0 [.ref 56, iv x1] [] (mkH B s l) Q := by
  refine w_iln (p := 1) (q151 0) rfl rfl ?_
  refine w_aln (p := 2) (q151 1) rfl rfl ?_
  refine w_gI (p := 5) (j := 24) (v := (zz s 56 24)) (q151 2) rfl (r56 hB) (by decide) (iv_zz s 56 24) ?_
  obtain ⟨h1, w⟩ := w
  by_cases c2 : (zz s 56 24) ≤ x1
  · replace w := w.1 c2
    refine w_i2t (q151 5) h1 (inR_zz _ _ _) c2 ?_
    refine w_ic (p := 18) (q151 17) rfl ?_
    exact w_ret (q151 18) rfl w
  · replace w := w.2 (Int.not_le.mp c2)
    refine w_i2f (p := 8) (q151 5) rfl h1 (inR_zz _ _ _) c2 ?_
    refine w_aln (p := 9) (q151 8) rfl rfl ?_
    refine w_gR (p := 12) (j := 1) (v := 57) (q151 9) rfl (r56 hB) (by decide) (f56_1 hB) ?_
    refine w_iln (p := 13) (q151 12) rfl rfl ?_
    obtain ⟨o3, w⟩ := w
    refine w_ia (p := 14) (v := (zz s 57 x1.toNat)) (q151 13) rfl (r57 hB) (by decide) o3 (iv_zz s 57 x1.toNat) ?_
    refine w_goto (q151 14) ?_
    exact w_ret (q151 18) rfl w
theorem str1048589 : a_StrA 1048589 [60, 61, 62] := by
  refine ⟨fun _ => rfl, fun h x hx => ?_, by decide, by decide⟩
  have hx2 : 0 ≤ x ∧ x < 3 := hx
  obtain rfl | rfl | rfl : x = 0 ∨ x = 1 ∨ x = 2 := by omega
  all_goals rfl
theorem str1048590 : a_StrA 1048590 [61, 61, 62] := by
  refine ⟨fun _ => rfl, fun h x hx => ?_, by decide, by decide⟩
  have hx2 : 0 ≤ x ∧ x < 3 := hx
  obtain rfl | rfl | rfl : x = 0 ∨ x = 1 ∨ x = 2 := by omega
  all_goals rfl
theorem str1048591 : a_StrA 1048591 [92, 47] := by
  refine ⟨fun _ => rfl, fun h x hx => ?_, by decide, by decide⟩
  have hx2 : 0 ≤ x ∧ x < 2 := hx
  obtain rfl | rfl : x = 0 ∨ x = 1 := by omega
  all_goals rfl
theorem str1048592 : a_StrA 1048592 [47, 92] := by
  refine ⟨fun _ => rfl, fun h x hx => ?_, by decide, by decide⟩
  have hx2 : 0 ≤ x ∧ x < 2 := hx
  obtain rfl | rfl : x = 0 ∨ x = 1 := by omega
  all_goals rfl
theorem str1048593 : a_StrA 1048593 [60, 61] := by
  refine ⟨fun _ => rfl, fun h x hx => ?_, by decide, by decide⟩
  have hx2 : 0 ≤ x ∧ x < 2 := hx
  obtain rfl | rfl : x = 0 ∨ x = 1 := by omega
  all_goals rfl
theorem str1048594 : a_StrA 1048594 [60, 45] := by
  refine ⟨fun _ => rfl, fun h x hx => ?_, by decide, by decide⟩
  have hx2 : 0 ≤ x ∧ x < 2 := hx
  obtain rfl | rfl : x = 0 ∨ x = 1 := by omega
  all_goals rfl
theorem str1048595 : a_StrA 1048595 [58, 61] := by
  refine ⟨fun _ => rfl, fun h x hx => ?_, by decide, by decide⟩
  have hx2 : 0 ≤ x ∧ x < 2 := hx
  obtain rfl | rfl : x = 0 ∨ x = 1 := by omega
  all_goals rfl
theorem str1048596 : a_StrA 1048596 [45, 62] := by
  refine ⟨fun _ => rfl, fun h x hx => ?_, by decide, by decide⟩
  have hx2 : 0 ≤ x ∧ x < 2 := hx
  obtain rfl | rfl : x = 0 ∨ x = 1 := by omega
  all_goals rfl
theorem str1048597 : a_StrA 1048597 [98, 121] := by
  refine ⟨fun _ => rfl, fun h x hx => ?_, by decide, by decide⟩
  have hx2 : 0 ≤ x ∧ x < 2 := hx
  obtain rfl | rfl : x = 0 ∨ x = 1 := by omega
  all_goals rfl
theorem str1048598 : a_StrA 1048598 [105, 110] := by
  refine ⟨fun _ => rfl, fun h x hx => ?_, by decide, by decide⟩
  have hx2 : 0 ≤ x ∧ x < 2 := hx
  obtain rfl | rfl : x = 0 ∨ x = 1 := by omega
  all_goals rfl
theorem p151 {d : Nat} {B : aH} (hB : a_Can B) (k : Int) (s : aZ) (l : aZL) (hk : inR k) (h0 : 0 ≤ k) (h8 : zz s 56 24 ≤ 8000) : a_W d 151 0 [.ref 56, iv k] [] (mkH B s l) (fun r => r = (.inl (some (iv (mby s k))), mkH B s l)) := by
  have fin : ∀ v, v = mby s k → ((Sum.inl (some (iv v)), mkH B s l) : aR) = (.inl (some (iv (mby s k))), mkH B s l) := fun v hv => by rw [hv]
  refine w151_0 hB k s l ⟨hk, fun h => fin _ ?_, fun h => ⟨⟨h0, by omega⟩, fin _ ?_⟩⟩
  · unfold mby
    rw [if_neg (by omega)]
  · unfold mby
    rw [if_pos h]
theorem w150_0 {d : Nat} {B : aH} {Q : aR → Prop} (hB : a_Can B) (x1 : Int) (s : Nat → Nat → Int32) (l : Nat → Nat → Int64) (w : a_W d 150 4 [.ref 56, iv x1, iv x1, iv 1, .retAddr 0] [] (mkH B s l) Q) : a_W d 150 0 [.ref 56, iv x1, .retAddr 0, .retAddr 0, .retAddr 0] [] (mkH B s l) Q := by
  refine w_iln (p := 1) (q150 0) rfl rfl ?_
  refine w_isn (p := 2) (ls' := [.ref 56, iv x1, iv x1, .retAddr 0, .retAddr 0]) (q150 1) rfl (Nat.le_of_ble_eq_true rfl) rfl ?_
  refine w_ic (p := 3) (q150 2) rfl ?_
  refine w_isn (p := 4) (ls' := [.ref 56, iv x1, iv x1, iv 1, .retAddr 0]) (q150 3) rfl (Nat.le_of_ble_eq_true rfl) rfl ?_
  exact w
theorem w150_4 {d : Nat} {B : aH} {Q : aR → Prop} (hB : a_Can B) (hd : 1 ≤ d) (x1 x2 x3 : Int) (u4 : Value) (s : Nat → Nat → Int32) (l : Nat → Nat → Int64) (w : (inR x3 ∧ ((x3 = 0 → Q (.inl (some (iv x2)), (mkH B s l))) ∧ (x3 ≠ 0 → (inR x2 ∧ 0 ≤ x2 ∧ zz s 56 24 ≤ 8000 ∧ (((mby s x2) = 9 → a_W d 150 4 [.ref 56, iv x1, iv (x2 + 1), iv 1, iv (mby s x2)] [] (mkH B s l) Q) ∧ ((mby s x2) ≠ 9 → (((mby s x2) = 10 → a_W d 150 4 [.ref 56, iv x1, iv (x2 + 1), iv 1, iv (mby s x2)] [] (mkH B s l) Q) ∧ ((mby s x2) ≠ 10 → (((mby s x2) = 13 → a_W d 150 4 [.ref 56, iv x1, iv (x2 + 1), iv 1, iv (mby s x2)] [] (mkH B s l) Q) ∧ ((mby s x2) ≠ 13 → (((mby s x2) = 32 → a_W d 150 4 [.ref 56, iv x1, iv (x2 + 1), iv 1, iv (mby s x2)] [] (mkH B s l) Q) ∧ ((mby s x2) ≠ 32 → (((mby s x2) ≠ 35 → a_W d 150 4 [.ref 56, iv x1, iv x2, iv 0, iv (mby s x2)] [] (mkH B s l) Q) ∧ ((mby s x2) = 35 → a_W d 150 63 [.ref 56, iv x1, iv x2, iv 1, iv (mby s x2)] [] (mkH B s l) Q))))))))))))))) : a_W d 150 4 [.ref 56, iv x1, iv x2, iv x3, u4] [] (mkH B s l) Q := by
  refine w_iln (p := 5) (q150 4) rfl rfl ?_
  obtain ⟨h1, w⟩ := w
  by_cases c2 : x3 = 0
  · replace w := w.1 c2
    refine w_i1t (q150 5) h1 c2 ?_
    refine w_iln (p := 103) (q150 102) rfl rfl ?_
    exact w_ret (q150 103) rfl w
  · replace w := w.2 c2
    refine w_i1f (p := 8) (q150 5) rfl h1 c2 ?_
    refine w_aln (p := 9) (q150 8) rfl rfl ?_
    refine w_iln (p := 10) (q150 9) rfl rfl ?_
    obtain ⟨h3, w⟩ := w
    obtain ⟨o4, w⟩ := w
    obtain ⟨o5, w⟩ := w
    refine w_call (st := []) (as := [.ref 56, iv x2]) (as' := [iv x2, .ref 56]) (p := 13) (q150 10) rfl m151 (by decide) (a_ok_i rfl (r56 hB) rfl) rfl rfl (Nat.le_of_ble_eq_true rfl) (by omega) rfl rfl (a_W.imp (p151 hB x2 s l h3 o4 o5) ?_)
    rintro _ rfl
    refine ⟨_, _, rfl, ?_⟩
    show a_W _ 150 13 [.ref 56, iv x1, iv x2, iv x3, u4] [iv (mby s x2)] _ _
    refine w_is (p := 15) (ls' := [.ref 56, iv x1, iv x2, iv x3, iv (mby s x2)]) (q150 13) rfl (Nat.le_of_ble_eq_true rfl) rfl ?_
    refine w_il (p := 17) (q150 15) rfl rfl ?_
    refine w_bp (p := 19) (q150 17) rfl (by decide) ?_
    by_cases c6 : (mby s x2) = 9
    · replace w := w.1 c6
      refine w_i2t (q150 19) (inR_mby _ _) (by decide) c6 ?_
      refine w_ic (p := 51) (q150 50) rfl ?_
      refine w_goto (q150 51) ?_
      refine w_isn (p := 56) (ls' := [.ref 56, iv x1, iv x2, iv 1, iv (mby s x2)]) (q150 55) rfl (Nat.le_of_ble_eq_true rfl) rfl ?_
      refine w_il (p := 58) (q150 56) rfl rfl ?_
      refine w_bp (p := 60) (q150 58) rfl (by decide) ?_
      refine w_i2t (q150 60) (inR_mby _ _) (by decide) (show zc _ _ _ by unfold zc; omega) ?_
      refine w_iln (p := 93) (q150 92) rfl rfl ?_
      refine w_i1f (p := 96) (q150 93) rfl (by decide) (show ¬ zc _ _ _ by unfold zc; omega) ?_
      refine w_inc (p := 99) (ls' := [.ref 56, iv x1, iv (x2 + 1), iv 1, iv (mby s x2)]) (q150 96) rfl rfl rfl ?_
      refine w_goto (q150 99) ?_
      exact w
    · replace w := w.2 c6
      refine w_i2f (p := 22) (q150 19) rfl (inR_mby _ _) (by decide) c6 ?_
      refine w_il (p := 24) (q150 22) rfl rfl ?_
      refine w_bp (p := 26) (q150 24) rfl (by decide) ?_
      by_cases c7 : (mby s x2) = 10
      · replace w := w.1 c7
        refine w_i2t (q150 26) (inR_mby _ _) (by decide) c7 ?_
        refine w_ic (p := 51) (q150 50) rfl ?_
        refine w_goto (q150 51) ?_
        refine w_isn (p := 56) (ls' := [.ref 56, iv x1, iv x2, iv 1, iv (mby s x2)]) (q150 55) rfl (Nat.le_of_ble_eq_true rfl) rfl ?_
        refine w_il (p := 58) (q150 56) rfl rfl ?_
        refine w_bp (p := 60) (q150 58) rfl (by decide) ?_
        refine w_i2t (q150 60) (inR_mby _ _) (by decide) (show zc _ _ _ by unfold zc; omega) ?_
        refine w_iln (p := 93) (q150 92) rfl rfl ?_
        refine w_i1f (p := 96) (q150 93) rfl (by decide) (show ¬ zc _ _ _ by unfold zc; omega) ?_
        refine w_inc (p := 99) (ls' := [.ref 56, iv x1, iv (x2 + 1), iv 1, iv (mby s x2)]) (q150 96) rfl rfl rfl ?_
        refine w_goto (q150 99) ?_
        exact w
      · replace w := w.2 c7
        refine w_i2f (p := 29) (q150 26) rfl (inR_mby _ _) (by decide) c7 ?_
        refine w_il (p := 31) (q150 29) rfl rfl ?_
        refine w_bp (p := 33) (q150 31) rfl (by decide) ?_
        by_cases c8 : (mby s x2) = 13
        · replace w := w.1 c8
          refine w_i2t (q150 33) (inR_mby _ _) (by decide) c8 ?_
          refine w_ic (p := 51) (q150 50) rfl ?_
          refine w_goto (q150 51) ?_
          refine w_isn (p := 56) (ls' := [.ref 56, iv x1, iv x2, iv 1, iv (mby s x2)]) (q150 55) rfl (Nat.le_of_ble_eq_true rfl) rfl ?_
          refine w_il (p := 58) (q150 56) rfl rfl ?_
          refine w_bp (p := 60) (q150 58) rfl (by decide) ?_
          refine w_i2t (q150 60) (inR_mby _ _) (by decide) (show zc _ _ _ by unfold zc; omega) ?_
          refine w_iln (p := 93) (q150 92) rfl rfl ?_
          refine w_i1f (p := 96) (q150 93) rfl (by decide) (show ¬ zc _ _ _ by unfold zc; omega) ?_
          refine w_inc (p := 99) (ls' := [.ref 56, iv x1, iv (x2 + 1), iv 1, iv (mby s x2)]) (q150 96) rfl rfl rfl ?_
          refine w_goto (q150 99) ?_
          exact w
        · replace w := w.2 c8
          refine w_i2f (p := 36) (q150 33) rfl (inR_mby _ _) (by decide) c8 ?_
          refine w_il (p := 38) (q150 36) rfl rfl ?_
          refine w_bp (p := 40) (q150 38) rfl (by decide) ?_
          by_cases c9 : (mby s x2) = 32
          · replace w := w.1 c9
            refine w_i2t (q150 40) (inR_mby _ _) (by decide) c9 ?_
            refine w_ic (p := 51) (q150 50) rfl ?_
            refine w_goto (q150 51) ?_
            refine w_isn (p := 56) (ls' := [.ref 56, iv x1, iv x2, iv 1, iv (mby s x2)]) (q150 55) rfl (Nat.le_of_ble_eq_true rfl) rfl ?_
            refine w_il (p := 58) (q150 56) rfl rfl ?_
            refine w_bp (p := 60) (q150 58) rfl (by decide) ?_
            refine w_i2t (q150 60) (inR_mby _ _) (by decide) (show zc _ _ _ by unfold zc; omega) ?_
            refine w_iln (p := 93) (q150 92) rfl rfl ?_
            refine w_i1f (p := 96) (q150 93) rfl (by decide) (show ¬ zc _ _ _ by unfold zc; omega) ?_
            refine w_inc (p := 99) (ls' := [.ref 56, iv x1, iv (x2 + 1), iv 1, iv (mby s x2)]) (q150 96) rfl rfl rfl ?_
            refine w_goto (q150 99) ?_
            exact w
          · replace w := w.2 c9
            refine w_i2f (p := 43) (q150 40) rfl (inR_mby _ _) (by decide) c9 ?_
            refine w_il (p := 45) (q150 43) rfl rfl ?_
            refine w_bp (p := 47) (q150 45) rfl (by decide) ?_
            by_cases c10 : (mby s x2) ≠ 35
            · replace w := w.1 c10
              refine w_i2t (q150 47) (inR_mby _ _) (by decide) c10 ?_
              refine w_ic (p := 55) (q150 54) rfl ?_
              refine w_isn (p := 56) (ls' := [.ref 56, iv x1, iv x2, iv 0, iv (mby s x2)]) (q150 55) rfl (Nat.le_of_ble_eq_true rfl) rfl ?_
              refine w_il (p := 58) (q150 56) rfl rfl ?_
              refine w_bp (p := 60) (q150 58) rfl (by decide) ?_
              refine w_i2t (q150 60) (inR_mby _ _) (by decide) (show zc _ _ _ by unfold zc; omega) ?_
              refine w_iln (p := 93) (q150 92) rfl rfl ?_
              refine w_i1t (q150 93) (by decide) (show zc _ _ _ by unfold zc; omega) ?_
              refine w_goto (q150 99) ?_
              exact w
            · replace w := w.2 (Decidable.not_not.mp c10)
              refine w_i2f (p := 50) (q150 47) rfl (inR_mby _ _) (by decide) c10 ?_
              refine w_ic (p := 51) (q150 50) rfl ?_
              refine w_goto (q150 51) ?_
              refine w_isn (p := 56) (ls' := [.ref 56, iv x1, iv x2, iv 1, iv (mby s x2)]) (q150 55) rfl (Nat.le_of_ble_eq_true rfl) rfl ?_
              refine w_il (p := 58) (q150 56) rfl rfl ?_
              refine w_bp (p := 60) (q150 58) rfl (by decide) ?_
              refine w_i2f (p := 63) (q150 60) rfl (inR_mby _ _) (by decide) (show ¬ zc _ _ _ by unfold zc; omega) ?_
              exact w
theorem w150_63 {d : Nat} {B : aH} {Q : aR → Prop} (hB : a_Can B) (hd : 1 ≤ d) (x1 x2 x3 x4 : Int) (s : Nat → Nat → Int32) (l : Nat → Nat → Int64) (w : (inR (x2 + 1) ∧ 0 ≤ (x2 + 1) ∧ zz s 56 24 ≤ 8000 ∧ (((mby s (x2 + 1)) = 10 → (inR x3 ∧ ((x3 = 0 → a_W d 150 4 [.ref 56, iv x1, iv x2, iv x3, iv x4] [] (mkH B s l) Q) ∧ (x3 ≠ 0 → a_W d 150 4 [.ref 56, iv x1, iv (x2 + 1), iv x3, iv x4] [] (mkH B s l) Q)))) ∧ ((mby s (x2 + 1)) ≠ 10 → (((mby s (x2 + 1)) = (-1) → (inR x3 ∧ ((x3 = 0 → a_W d 150 4 [.ref 56, iv x1, iv x2, iv x3, iv x4] [] (mkH B s l) Q) ∧ (x3 ≠ 0 → a_W d 150 4 [.ref 56, iv x1, iv (x2 + 1), iv x3, iv x4] [] (mkH B s l) Q)))) ∧ ((mby s (x2 + 1)) ≠ (-1) → a_W d 150 63 [.ref 56, iv x1, iv (x2 + 1), iv x3, iv x4] [] (mkH B s l) Q)))))) : a_W d 150 63 [.ref 56, iv x1, iv x2, iv x3, iv x4] [] (mkH B s l) Q := by
  refine w_aln (p := 64) (q150 63) rfl rfl ?_
  refine w_iln (p := 65) (q150 64) rfl rfl ?_
  refine w_ic (p := 66) (q150 65) rfl ?_
  refine w_add (p := 67) (q150 66) rfl ?_
  obtain ⟨h1, w⟩ := w
  obtain ⟨o2, w⟩ := w
  obtain ⟨o3, w⟩ := w
  refine w_call (st := []) (as := [.ref 56, iv (x2 + 1)]) (as' := [iv (x2 + 1), .ref 56]) (p := 70) (q150 67) rfl m151 (by decide) (a_ok_i rfl (r56 hB) rfl) rfl rfl (Nat.le_of_ble_eq_true rfl) (by omega) rfl rfl (a_W.imp (p151 hB (x2 + 1) s l h1 o2 o3) ?_)
  rintro _ rfl
  refine ⟨_, _, rfl, ?_⟩
  show a_W _ 150 70 [.ref 56, iv x1, iv x2, iv x3, iv x4] [iv (mby s (x2 + 1))] _ _
  refine w_bp (p := 72) (q150 70) rfl (by decide) ?_
  by_cases c4 : (mby s (x2 + 1)) = 10
  · replace w := w.1 c4
    refine w_i2t (q150 72) (inR_mby _ _) (by decide) c4 ?_
    refine w_iln (p := 93) (q150 92) rfl rfl ?_
    obtain ⟨h5, w⟩ := w
    by_cases c6 : x3 = 0
    · replace w := w.1 c6
      refine w_i1t (q150 93) h5 c6 ?_
      refine w_goto (q150 99) ?_
      exact w
    · replace w := w.2 c6
      refine w_i1f (p := 96) (q150 93) rfl h5 c6 ?_
      refine w_inc (p := 99) (ls' := [.ref 56, iv x1, iv (x2 + 1), iv x3, iv x4]) (q150 96) rfl rfl rfl ?_
      refine w_goto (q150 99) ?_
      exact w
  · replace w := w.2 c4
    refine w_i2f (p := 75) (q150 72) rfl (inR_mby _ _) (by decide) c4 ?_
    refine w_aln (p := 76) (q150 75) rfl rfl ?_
    refine w_iln (p := 77) (q150 76) rfl rfl ?_
    refine w_ic (p := 78) (q150 77) rfl ?_
    refine w_add (p := 79) (q150 78) rfl ?_
    refine w_call (st := []) (as := [.ref 56, iv (x2 + 1)]) (as' := [iv (x2 + 1), .ref 56]) (p := 82) (q150 79) rfl m151 (by decide) (a_ok_i rfl (r56 hB) rfl) rfl rfl (Nat.le_of_ble_eq_true rfl) (by omega) rfl rfl (a_W.imp (p151 hB (x2 + 1) s l h1 o2 o3) ?_)
    rintro _ rfl
    refine ⟨_, _, rfl, ?_⟩
    show a_W _ 150 82 [.ref 56, iv x1, iv x2, iv x3, iv x4] [iv (mby s (x2 + 1))] _ _
    refine w_ic (p := 83) (q150 82) rfl ?_
    by_cases c7 : (mby s (x2 + 1)) = (-1)
    · replace w := w.1 c7
      refine w_i2t (q150 83) (inR_mby _ _) (by decide) c7 ?_
      refine w_iln (p := 93) (q150 92) rfl rfl ?_
      obtain ⟨h8, w⟩ := w
      by_cases c9 : x3 = 0
      · replace w := w.1 c9
        refine w_i1t (q150 93) h8 c9 ?_
        refine w_goto (q150 99) ?_
        exact w
      · replace w := w.2 c9
        refine w_i1f (p := 96) (q150 93) rfl h8 c9 ?_
        refine w_inc (p := 99) (ls' := [.ref 56, iv x1, iv (x2 + 1), iv x3, iv x4]) (q150 96) rfl rfl rfl ?_
        refine w_goto (q150 99) ?_
        exact w
    · replace w := w.2 c7
      refine w_i2f (p := 86) (q150 83) rfl (inR_mby _ _) (by decide) c7 ?_
      refine w_inc (p := 89) (ls' := [.ref 56, iv x1, iv (x2 + 1), iv x3, iv x4]) (q150 86) rfl rfl rfl ?_
      refine w_goto (q150 89) ?_
      exact w
theorem w156_0 {d : Nat} {B : aH} {Q : aR → Prop} (hB : a_Can B) {qs : Nat} {cl : List Nat} (hq : a_StrA qs cl) (x1 : Int) (s : Nat → Nat → Int32) (l : Nat → Nat → Int64) (w : a_W d 156 5 [.ref 56, iv x1, .ref qs, iv 1, iv 0] [] (mkH B s l) Q) : a_W d 156 0 [.ref 56, iv x1, .ref qs, .retAddr 0, .retAddr 0] [] (mkH B s l) Q := by
  refine w_ic (p := 1) (q156 0) rfl ?_
  refine w_isn (p := 2) (ls' := [.ref 56, iv x1, .ref qs, iv 1, .retAddr 0]) (q156 1) rfl (Nat.le_of_ble_eq_true rfl) rfl ?_
  refine w_ic (p := 3) (q156 2) rfl ?_
  refine w_is (p := 5) (ls' := [.ref 56, iv x1, .ref qs, iv 1, iv 0]) (q156 3) rfl (Nat.le_of_ble_eq_true rfl) rfl ?_
  exact w
theorem w156_5 {d : Nat} {B : aH} {Q : aR → Prop} (hB : a_Can B) (hd : 1 ≤ d) {qs : Nat} {cl : List Nat} (hq : a_StrA qs cl) (x1 x3 x4 : Int) (s : Nat → Nat → Int32) (l : Nat → Nat → Int64) (w : (inR x4 ∧ (((cl.length : Int) ≤ x4 → ((x3 = 0 ∨ x3 = 1) ∧ Q (.inl (some (iv x3)), (mkH B s l)))) ∧ (x4 < (cl.length : Int) → (inR x3 ∧ ((x3 = 0 → a_W d 156 5 [.ref 56, iv x1, .ref qs, iv 0, iv (x4 + 1)] [] (mkH B s l) Q) ∧ (x3 ≠ 0 → (inR (x1 + x4) ∧ 0 ≤ (x1 + x4) ∧ zz s 56 24 ≤ 8000 ∧ ((0 ≤ x4 ∧ x4 < (cl.length : Int)) ∧ (((mby s (x1 + x4)) ≠ (cl.getD x4.toNat 0 : Int) → a_W d 156 5 [.ref 56, iv x1, .ref qs, iv 0, iv (x4 + 1)] [] (mkH B s l) Q) ∧ ((mby s (x1 + x4)) = (cl.getD x4.toNat 0 : Int) → a_W d 156 5 [.ref 56, iv x1, .ref qs, iv 1, iv (x4 + 1)] [] (mkH B s l) Q))))))))))) : a_W d 156 5 [.ref 56, iv x1, .ref qs, iv x3, iv x4] [] (mkH B s l) Q := by
  refine w_il (p := 7) (q156 5) rfl rfl ?_
  refine w_aln (p := 8) (q156 7) rfl rfl ?_
  refine w_slen (p := 11) (q156 8) rfl rfl hq (Nat.le_of_ble_eq_true rfl) (by omega) ?_
  obtain ⟨h1, w⟩ := w
  by_cases c2 : (cl.length : Int) ≤ x4
  · replace w := w.1 c2
    refine w_i2t (q156 11) h1 (inR_sl hq) c2 ?_
    refine w_iln (p := 48) (q156 47) rfl rfl ?_
    obtain ⟨o3, w⟩ := w
    exact w_ret (q156 48) (rok_b m156 rfl o3) w
  · replace w := w.2 (Int.not_le.mp c2)
    refine w_i2f (p := 14) (q156 11) rfl h1 (inR_sl hq) c2 ?_
    refine w_iln (p := 15) (q156 14) rfl rfl ?_
    obtain ⟨h4, w⟩ := w
    by_cases c5 : x3 = 0
    · replace w := w.1 c5
      refine w_i1t (q156 15) h4 c5 ?_
      refine w_ic (p := 40) (q156 39) rfl ?_
      refine w_isn (p := 41) (ls' := [.ref 56, iv x1, .ref qs, iv 0, iv x4]) (q156 40) rfl (Nat.le_of_ble_eq_true rfl) rfl ?_
      refine w_inc (p := 44) (ls' := [.ref 56, iv x1, .ref qs, iv 0, iv (x4 + 1)]) (q156 41) rfl rfl rfl ?_
      refine w_goto (q156 44) ?_
      exact w
    · replace w := w.2 c5
      refine w_i1f (p := 18) (q156 15) rfl h4 c5 ?_
      refine w_aln (p := 19) (q156 18) rfl rfl ?_
      refine w_iln (p := 20) (q156 19) rfl rfl ?_
      refine w_il (p := 22) (q156 20) rfl rfl ?_
      refine w_add (p := 23) (q156 22) rfl ?_
      obtain ⟨h6, w⟩ := w
      obtain ⟨o7, w⟩ := w
      obtain ⟨o8, w⟩ := w
      refine w_call (st := []) (as := [.ref 56, iv (x1 + x4)]) (as' := [iv (x1 + x4), .ref 56]) (p := 26) (q156 23) rfl m151 (by decide) (a_ok_i rfl (r56 hB) rfl) rfl rfl (Nat.le_of_ble_eq_true rfl) (by omega) rfl rfl (a_W.imp (p151 hB (x1 + x4) s l h6 o7 o8) ?_)
      rintro _ rfl
      refine ⟨_, _, rfl, ?_⟩
      show a_W _ 156 26 [.ref 56, iv x1, .ref qs, iv x3, iv x4] [iv (mby s (x1 + x4))] _ _
      refine w_aln (p := 27) (q156 26) rfl rfl ?_
      refine w_il (p := 29) (q156 27) rfl rfl ?_
      obtain ⟨o9, w⟩ := w
      refine w_chr (p := 32) (q156 29) rfl rfl hq o9 (Nat.le_of_ble_eq_true rfl) (by omega) ?_
      by_cases c10 : (mby s (x1 + x4)) ≠ (cl.getD x4.toNat 0 : Int)
      · replace w := w.1 c10
        refine w_i2t (q156 32) (inR_mby _ _) (inR_sc hq _) c10 ?_
        refine w_ic (p := 40) (q156 39) rfl ?_
        refine w_isn (p := 41) (ls' := [.ref 56, iv x1, .ref qs, iv 0, iv x4]) (q156 40) rfl (Nat.le_of_ble_eq_true rfl) rfl ?_
        refine w_inc (p := 44) (ls' := [.ref 56, iv x1, .ref qs, iv 0, iv (x4 + 1)]) (q156 41) rfl rfl rfl ?_
        refine w_goto (q156 44) ?_
        exact w
      · replace w := w.2 (Decidable.not_not.mp c10)
        refine w_i2f (p := 35) (q156 32) rfl (inR_mby _ _) (inR_sc hq _) c10 ?_
        refine w_ic (p := 36) (q156 35) rfl ?_
        refine w_goto (q156 36) ?_
        refine w_isn (p := 41) (ls' := [.ref 56, iv x1, .ref qs, iv 1, iv x4]) (q156 40) rfl (Nat.le_of_ble_eq_true rfl) rfl ?_
        refine w_inc (p := 44) (ls' := [.ref 56, iv x1, .ref qs, iv 1, iv (x4 + 1)]) (q156 41) rfl rfl rfl ?_
        refine w_goto (q156 44) ?_
        exact w
theorem w161_0 {d : Nat} {B : aH} {Q : aR → Prop} (hB : a_Can B) (s : Nat → Nat → Int32) (l : Nat → Nat → Int64) (w : a_W d 161 7 [.ref 56, iv (zz s 56 25), iv 0] [] (mkH B s l) Q) : a_W d 161 0 [.ref 56, .retAddr 0, .retAddr 0] [] (mkH B s l) Q := by
  refine w_aln (p := 1) (q161 0) rfl rfl ?_
  refine w_gI (p := 4) (j := 25) (v := (zz s 56 25)) (q161 1) rfl (r56 hB) (by decide) (iv_zz s 56 25) ?_
  refine w_isn (p := 5) (ls' := [.ref 56, iv (zz s 56 25), .retAddr 0]) (q161 4) rfl (Nat.le_of_ble_eq_true rfl) rfl ?_
  refine w_ic (p := 6) (q161 5) rfl ?_
  refine w_isn (p := 7) (ls' := [.ref 56, iv (zz s 56 25), iv 0]) (q161 6) rfl (Nat.le_of_ble_eq_true rfl) rfl ?_
  exact w
theorem w161_7 {d : Nat} {B : aH} {Q : aR → Prop} (hB : a_Can B) (hd : 1 ≤ d) (x1 x2 : Int) (s : Nat → Nat → Int32) (l : Nat → Nat → Int64) (w : (inR x1 ∧ 0 ≤ x1 ∧ zz s 56 24 ≤ 8000 ∧ (((z155 (mby s x1)) = 0 → (inR x2 ∧ ((x2 ≤ 49 → a_W d 161 65 [.ref 56, iv x1, iv x2] [] (mkH B s l) Q) ∧ (49 < x2 → (((zz s 56 22) ≤ 0 → a_W d 161 65 [.ref 56, iv x1, iv x2] [] (mkH B (zu (zu s 56 22 8) 56 23 (zz s 56 25)) l) Q) ∧ (0 < (zz s 56 22) → a_W d 161 65 [.ref 56, iv x1, iv x2] [] (mkH B s l) Q)))))) ∧ ((z155 (mby s x1)) ≠ 0 → (inR x2 ∧ ((x2 ≤ 49 → ((0 ≤ x1 ∧ x1 < 8000) ∧ a_W d 161 7 [.ref 56, iv (x1 + 1), iv (((10 * x2) + (zz s 57 x1.toNat)) - 48)] [] (mkH B s l) Q)) ∧ (49 < x2 → a_W d 161 7 [.ref 56, iv (x1 + 1), iv x2] [] (mkH B s l) Q))))))) : a_W d 161 7 [.ref 56, iv x1, iv x2] [] (mkH B s l) Q := by
  refine w_aln (p := 8) (q161 7) rfl rfl ?_
  refine w_iln (p := 9) (q161 8) rfl rfl ?_
  obtain ⟨h1, w⟩ := w
  obtain ⟨o2, w⟩ := w
  obtain ⟨o3, w⟩ := w
  refine w_call (st := []) (as := [.ref 56, iv x1]) (as' := [iv x1, .ref 56]) (p := 12) (q161 9) rfl m151 (by decide) (a_ok_i rfl (r56 hB) rfl) rfl rfl (Nat.le_of_ble_eq_true rfl) (by omega) rfl rfl (a_W.imp (p151 hB x1 s l h1 o2 o3) ?_)
  rintro _ rfl
  refine ⟨_, _, rfl, ?_⟩
  show a_W _ 161 12 [.ref 56, iv x1, iv x2] [iv (mby s x1)] _ _
  refine w_call (st := []) (as := [iv (mby s x1)]) (as' := [iv (mby s x1)]) (p := 15) (q161 12) rfl m155 (by decide) (a_ok_s rfl rfl) rfl rfl (Nat.le_of_ble_eq_true rfl) (by omega) rfl rfl (a_W.imp (p155 hB (mby s x1) _ _ (inR_mby _ _)) ?_)
  rintro _ rfl
  refine ⟨_, _, rfl, ?_⟩
  show a_W _ 161 15 [.ref 56, iv x1, iv x2] [iv (z155 (mby s x1))] _ _
  by_cases c4 : (z155 (mby s x1)) = 0
  · replace w := w.1 c4
    refine w_i1t (q161 15) (inR_z155 _) c4 ?_
    refine w_iln (p := 50) (q161 49) rfl rfl ?_
    refine w_bp (p := 52) (q161 50) rfl (by decide) ?_
    obtain ⟨h5, w⟩ := w
    by_cases c6 : x2 ≤ 49
    · replace w := w.1 c6
      refine w_i2t (q161 52) h5 (by decide) c6 ?_
      exact w
    · replace w := w.2 (Int.not_le.mp c6)
      refine w_i2f (p := 55) (q161 52) rfl h5 (by decide) c6 ?_
      refine w_aln (p := 56) (q161 55) rfl rfl ?_
      refine w_bp (p := 58) (q161 56) rfl (by decide) ?_
      refine w_aln (p := 59) (q161 58) rfl rfl ?_
      refine w_gI (p := 62) (j := 25) (v := (zz s 56 25)) (q161 59) rfl (r56 hB) (by decide) (iv_zz s 56 25) ?_
      refine w_call (st := []) (as := [.ref 56, iv 8, iv (zz s 56 25)]) (as' := [iv (zz s 56 25), iv 8, .ref 56]) (p := 65) (q161 62) rfl m152 (by decide) (a_ok_i rfl (r56 hB) rfl) rfl rfl (Nat.le_of_ble_eq_true rfl) (by omega) rfl rfl ?_
      refine w_aln (p := 1) (q152 0) rfl rfl ?_
      refine w_gI (p := 4) (j := 22) (v := (zz s 56 22)) (q152 1) rfl (r56 hB) (by decide) (iv_zz s 56 22) ?_
      by_cases c7 : (zz s 56 22) ≤ 0
      · replace w := w.1 c7
        refine w_i1t (q152 4) (inR_zz _ _ _) c7 ?_
        refine w_aln (p := 9) (q152 8) rfl rfl ?_
        refine w_iln (p := 10) (q152 9) rfl rfl ?_
        refine w_pI (p := 13) (j := 22) (q152 10) rfl (r56 hB) (by decide) rfl ?_
        refine w_aln (p := 14) (q152 13) rfl rfl ?_
        refine w_iln (p := 15) (q152 14) rfl rfl ?_
        refine w_pI (p := 18) (j := 23) (q152 15) rfl (r56 hB) (by decide) rfl ?_
        refine w_rv (q152 18) rfl ⟨_, _, rfl, ?_⟩
        show a_W _ 161 65 [.ref 56, iv x1, iv x2] [] _ _
        exact w
      · replace w := w.2 (Int.not_le.mp c7)
        refine w_i1f (p := 7) (q152 4) rfl (inR_zz _ _ _) c7 ?_
        refine w_rv (q152 7) rfl ⟨_, _, rfl, ?_⟩
        show a_W _ 161 65 [.ref 56, iv x1, iv x2] [] _ _
        exact w
  · replace w := w.2 c4
    refine w_i1f (p := 18) (q161 15) rfl (inR_z155 _) c4 ?_
    refine w_iln (p := 19) (q161 18) rfl rfl ?_
    refine w_bp (p := 21) (q161 19) rfl (by decide) ?_
    obtain ⟨h8, w⟩ := w
    by_cases c9 : x2 ≤ 49
    · replace w := w.1 c9
      refine w_i2t (q161 21) h8 (by decide) c9 ?_
      refine w_bp (p := 30) (q161 28) rfl (by decide) ?_
      refine w_iln (p := 31) (q161 30) rfl rfl ?_
      refine w_mulz (p := 32) (q161 31) rfl ?_
      refine w_aln (p := 33) (q161 32) rfl rfl ?_
      refine w_gR (p := 36) (j := 1) (v := 57) (q161 33) rfl (r56 hB) (by decide) (f56_1 hB) ?_
      refine w_iln (p := 37) (q161 36) rfl rfl ?_
      obtain ⟨o10, w⟩ := w
      refine w_ia (p := 38) (v := (zz s 57 x1.toNat)) (q161 37) rfl (r57 hB) (by decide) o10 (iv_zz s 57 x1.toNat) ?_
      refine w_add (p := 39) (q161 38) rfl ?_
      refine w_bp (p := 41) (q161 39) rfl (by decide) ?_
      refine w_sub (p := 42) (q161 41) rfl ?_
      refine w_isn (p := 43) (ls' := [.ref 56, iv x1, iv (((10 * x2) + (zz s 57 x1.toNat)) - 48)]) (q161 42) rfl (Nat.le_of_ble_eq_true rfl) rfl ?_
      refine w_inc (p := 46) (ls' := [.ref 56, iv (x1 + 1), iv (((10 * x2) + (zz s 57 x1.toNat)) - 48)]) (q161 43) rfl rfl rfl ?_
      refine w_goto (q161 46) ?_
      exact w
    · replace w := w.2 (Int.not_le.mp c9)
      refine w_i2f (p := 24) (q161 21) rfl h8 (by decide) c9 ?_
      refine w_iln (p := 25) (q161 24) rfl rfl ?_
      refine w_goto (q161 25) ?_
      refine w_isn (p := 43) (ls' := [.ref 56, iv x1, iv x2]) (q161 42) rfl (Nat.le_of_ble_eq_true rfl) rfl ?_
      refine w_inc (p := 46) (ls' := [.ref 56, iv (x1 + 1), iv x2]) (q161 43) rfl rfl rfl ?_
      refine w_goto (q161 46) ?_
      exact w
theorem w161_65 {d : Nat} {B : aH} {Q : aR → Prop} (hB : a_Can B) (hd : 1 ≤ d) (x1 x2 : Int) (s : Nat → Nat → Int32) (l : Nat → Nat → Int64) (w : ((0 ≤ (zz s 56 26) ∧ (zz s 56 26) < 6002) ∧ Q (.inl none, (mkH B (zu (zu (zu s 73 (zz s 56 26).toNat x2) 71 (zz s 56 26).toNat 3) 56 25 ((zz s 56 25) + (x1 - (zz s 56 25)))) l)))) : a_W d 161 65 [.ref 56, iv x1, iv x2] [] (mkH B s l) Q := by
  refine w_aln (p := 66) (q161 65) rfl rfl ?_
  refine w_gR (p := 69) (j := 29) (v := 73) (q161 66) rfl (r56 hB) (by decide) (f56_29 hB) ?_
  refine w_aln (p := 70) (q161 69) rfl rfl ?_
  refine w_gI (p := 73) (j := 26) (v := (zz s 56 26)) (q161 70) rfl (r56 hB) (by decide) (iv_zz s 56 26) ?_
  refine w_iln (p := 74) (q161 73) rfl rfl ?_
  obtain ⟨o1, w⟩ := w
  refine w_ias (p := 75) (q161 74) rfl (r73 hB) (by decide) o1 ?_
  refine w_aln (p := 76) (q161 75) rfl rfl ?_
  refine w_ic (p := 77) (q161 76) rfl ?_
  refine w_iln (p := 78) (q161 77) rfl rfl ?_
  refine w_aln (p := 79) (q161 78) rfl rfl ?_
  refine w_gI (p := 82) (j := 25) (v := (zz s 56 25)) (q161 79) rfl (r56 hB) (by decide) (iv_zz s 56 25) ?_
  refine w_sub (p := 83) (q161 82) rfl ?_
  refine w_call (st := []) (as := [.ref 56, iv 3, iv (x1 - (zz s 56 25))]) (as' := [iv (x1 - (zz s 56 25)), iv 3, .ref 56]) (p := 86) (q161 83) rfl m157 (by decide) (a_ok_i rfl (r56 hB) rfl) rfl rfl (Nat.le_of_ble_eq_true rfl) (by omega) rfl rfl ?_
  refine w_aln (p := 1) (q157 0) rfl rfl ?_
  refine w_gR (p := 4) (j := 27) (v := 71) (q157 1) rfl (r56 hB) (by decide) (f56_27 hB) ?_
  refine w_aln (p := 5) (q157 4) rfl rfl ?_
  refine w_gI (p := 8) (j := 26) (v := (zz s 56 26)) (q157 5) rfl (r56 hB) (by decide) (iv_zz s 56 26) ?_
  refine w_iln (p := 9) (q157 8) rfl rfl ?_
  refine w_ias (p := 10) (q157 9) rfl (r71 hB) (by decide) o1 ?_
  refine w_aln (p := 11) (q157 10) rfl rfl ?_
  refine w_dupr (p := 12) (q157 11) rfl ?_
  refine w_gI (p := 15) (j := 25) (v := (zz s 56 25)) (q157 12) rfl (r56 hB) (by decide) (iv_zz s 56 25) ?_
  refine w_iln (p := 16) (q157 15) rfl rfl ?_
  refine w_add (p := 17) (q157 16) rfl ?_
  refine w_pI (p := 20) (j := 25) (q157 17) rfl (r56 hB) (by decide) rfl ?_
  refine w_rv (q157 20) rfl ⟨_, _, rfl, ?_⟩
  show a_W _ 161 86 [.ref 56, iv x1, iv x2] [] _ _
  exact w_rv (q161 86) rfl w
set_option maxRecDepth 10000 in
theorem w162_0 {d : Nat} {B : aH} {Q : aR → Prop} (hB : a_Can B) (hd : 1 ≤ d) (x1 : Int) (s : Nat → Nat → Int32) (l : Nat → Nat → Int64) (w : a_W (d - 1) 156 0 [.ref 56, iv (zz s 56 25), .ref 1048589, .retAddr 0, .retAddr 0] [] (mkH B s l) (fun r => ∃ (v3 : Int) (s1 : Nat → Nat → Int32) (l2 : Nat → Nat → Int64), r = (.inl (some (iv v3)), mkH B s1 l2) ∧ (inR v3 ∧ ((v3 = 0 → a_W (d - 1) 156 0 [.ref 56, iv (zz s1 56 25), .ref 1048590, .retAddr 0, .retAddr 0] [] (mkH B s1 l2) (fun r => ∃ (v8 : Int) (s6 : Nat → Nat → Int32) (l7 : Nat → Nat → Int64), r = (.inl (some (iv v8)), mkH B s6 l7) ∧ (inR v8 ∧ ((v8 = 0 → a_W (d - 1) 156 0 [.ref 56, iv (zz s6 56 25), .ref 1048591, .retAddr 0, .retAddr 0] [] (mkH B s6 l7) (fun r => ∃ (v13 : Int) (s11 : Nat → Nat → Int32) (l12 : Nat → Nat → Int64), r = (.inl (some (iv v13)), mkH B s11 l12) ∧ (inR v13 ∧ ((v13 = 0 → a_W (d - 1) 156 0 [.ref 56, iv (zz s11 56 25), .ref 1048592, .retAddr 0, .retAddr 0] [] (mkH B s11 l12) (fun r => ∃ (v18 : Int) (s16 : Nat → Nat → Int32) (l17 : Nat → Nat → Int64), r = (.inl (some (iv v18)), mkH B s16 l17) ∧ (inR v18 ∧ ((v18 = 0 → a_W (d - 1) 156 0 [.ref 56, iv (zz s16 56 25), .ref 1048593, .retAddr 0, .retAddr 0] [] (mkH B s16 l17) (fun r => ∃ (v23 : Int) (s21 : Nat → Nat → Int32) (l22 : Nat → Nat → Int64), r = (.inl (some (iv v23)), mkH B s21 l22) ∧ (inR v23 ∧ ((v23 = 0 → a_W (d - 1) 156 0 [.ref 56, iv (zz s21 56 25), .ref 1048594, .retAddr 0, .retAddr 0] [] (mkH B s21 l22) (fun r => ∃ (v28 : Int) (s26 : Nat → Nat → Int32) (l27 : Nat → Nat → Int64), r = (.inl (some (iv v28)), mkH B s26 l27) ∧ (inR v28 ∧ ((v28 ≠ 0 → ((0 ≤ (zz s26 56 26) ∧ (zz s26 56 26) < 6002) ∧ Q (.inl none, (mkH B (zu (zu s26 71 (zz s26 56 26).toNat 14) 56 25 ((zz s26 56 25) + 2)) l27)))) ∧ (v28 = 0 → a_W (d - 1) 156 0 [.ref 56, iv (zz s26 56 25), .ref 1048595, .retAddr 0, .retAddr 0] [] (mkH B s26 l27) (fun r => ∃ (v34 : Int) (s32 : Nat → Nat → Int32) (l33 : Nat → Nat → Int64), r = (.inl (some (iv v34)), mkH B s32 l33) ∧ (inR v34 ∧ ((v34 = 0 → a_W (d - 1) 156 0 [.ref 56, iv (zz s32 56 25), .ref 1048596, .retAddr 0, .retAddr 0] [] (mkH B s32 l33) (fun r => ∃ (v39 : Int) (s37 : Nat → Nat → Int32) (l38 : Nat → Nat → Int64), r = (.inl (some (iv v39)), mkH B s37 l38) ∧ (inR v39 ∧ ((v39 = 0 → (inR x1 ∧ ((x1 ≠ 61 → ((x1 ≠ 60 → ((x1 ≠ 43 → ((x1 ≠ 42 → ((x1 ≠ 40 → ((x1 ≠ 41 → ((x1 ≠ 46 → ((x1 ≠ 58 → ((x1 ≠ 92 → ((x1 ≠ 33 → ((x1 ≠ 63 → ((x1 ≠ 64 → ((x1 ≠ 126 → ((x1 = 91 → ((0 ≤ (zz s37 56 26) ∧ (zz s37 56 26) < 6002) ∧ Q (.inl none, (mkH B (zu (zu s37 71 (zz s37 56 26).toNat 14) 56 25 ((zz s37 56 25) + 1)) l38)))) ∧ (x1 ≠ 91 → ((x1 = 93 → ((0 ≤ (zz s37 56 26) ∧ (zz s37 56 26) < 6002) ∧ Q (.inl none, (mkH B (zu (zu s37 71 (zz s37 56 26).toNat 14) 56 25 ((zz s37 56 25) + 1)) l38)))) ∧ (x1 ≠ 93 → ((x1 = 44 → ((0 ≤ (zz s37 56 26) ∧ (zz s37 56 26) < 6002) ∧ Q (.inl none, (mkH B (zu (zu s37 71 (zz s37 56 26).toNat 14) 56 25 ((zz s37 56 25) + 1)) l38)))) ∧ (x1 ≠ 44 → ((x1 = 59 → ((0 ≤ (zz s37 56 26) ∧ (zz s37 56 26) < 6002) ∧ Q (.inl none, (mkH B (zu (zu s37 71 (zz s37 56 26).toNat 14) 56 25 ((zz s37 56 25) + 1)) l38)))) ∧ (x1 ≠ 59 → ((x1 ≠ 124 → (((zz s37 56 22) ≤ 0 → Q (.inl none, (mkH B (zu (zu s37 56 22 1) 56 23 (zz s37 56 25)) l38))) ∧ (0 < (zz s37 56 22) → Q (.inl none, (mkH B s37 l38))))) ∧ (x1 = 124 → ((0 ≤ (zz s37 56 26) ∧ (zz s37 56 26) < 6002) ∧ Q (.inl none, (mkH B (zu (zu s37 71 (zz s37 56 26).toNat 14) 56 25 ((zz s37 56 25) + 1)) l38)))))))))))))) ∧ (x1 = 126 → ((0 ≤ (zz s37 56 26) ∧ (zz s37 56 26) < 6002) ∧ Q (.inl none, (mkH B (zu (zu s37 71 (zz s37 56 26).toNat 12) 56 25 ((zz s37 56 25) + 1)) l38)))))) ∧ (x1 = 64 → ((0 ≤ (zz s37 56 26) ∧ (zz s37 56 26) < 6002) ∧ Q (.inl none, (mkH B (zu (zu s37 71 (zz s37 56 26).toNat 11) 56 25 ((zz s37 56 25) + 1)) l38)))))) ∧ (x1 = 63 → ((0 ≤ (zz s37 56 26) ∧ (zz s37 56 26) < 6002) ∧ Q (.inl none, (mkH B (zu (zu s37 71 (zz s37 56 26).toNat 10) 56 25 ((zz s37 56 25) + 1)) l38)))))) ∧ (x1 = 33 → ((0 ≤ (zz s37 56 26) ∧ (zz s37 56 26) < 6002) ∧ Q (.inl none, (mkH B (zu (zu s37 71 (zz s37 56 26).toNat 9) 56 25 ((zz s37 56 25) + 1)) l38)))))) ∧ (x1 = 92 → ((0 ≤ (zz s37 56 26) ∧ (zz s37 56 26) < 6002) ∧ Q (.inl none, (mkH B (zu (zu s37 71 (zz s37 56 26).toNat 8) 56 25 ((zz s37 56 25) + 1)) l38)))))) ∧ (x1 = 58 → ((0 ≤ (zz s37 56 26) ∧ (zz s37 56 26) < 6002) ∧ Q (.inl none, (mkH B (zu (zu s37 71 (zz s37 56 26).toNat 7) 56 25 ((zz s37 56 25) + 1)) l38)))))) ∧ (x1 = 46 → ((0 ≤ (zz s37 56 26) ∧ (zz s37 56 26) < 6002) ∧ Q (.inl none, (mkH B (zu (zu s37 71 (zz s37 56 26).toNat 6) 56 25 ((zz s37 56 25) + 1)) l38)))))) ∧ (x1 = 41 → ((0 ≤ (zz s37 56 26) ∧ (zz s37 56 26) < 6002) ∧ Q (.inl none, (mkH B (zu (zu s37 71 (zz s37 56 26).toNat 5) 56 25 ((zz s37 56 25) + 1)) l38)))))) ∧ (x1 = 40 → ((0 ≤ (zz s37 56 26) ∧ (zz s37 56 26) < 6002) ∧ Q (.inl none, (mkH B (zu (zu s37 71 (zz s37 56 26).toNat 4) 56 25 ((zz s37 56 25) + 1)) l38)))))) ∧ (x1 = 42 → ((0 ≤ (zz s37 56 26) ∧ (zz s37 56 26) < 6002) ∧ Q (.inl none, (mkH B (zu (zu s37 71 (zz s37 56 26).toNat 28) 56 25 ((zz s37 56 25) + 1)) l38)))))) ∧ (x1 = 43 → ((0 ≤ (zz s37 56 26) ∧ (zz s37 56 26) < 6002) ∧ Q (.inl none, (mkH B (zu (zu s37 71 (zz s37 56 26).toNat 27) 56 25 ((zz s37 56 25) + 1)) l38)))))) ∧ (x1 = 60 → ((0 ≤ (zz s37 56 26) ∧ (zz s37 56 26) < 6002) ∧ Q (.inl none, (mkH B (zu (zu s37 71 (zz s37 56 26).toNat 25) 56 25 ((zz s37 56 25) + 1)) l38)))))) ∧ (x1 = 61 → ((0 ≤ (zz s37 56 26) ∧ (zz s37 56 26) < 6002) ∧ Q (.inl none, (mkH B (zu (zu s37 71 (zz s37 56 26).toNat 24) 56 25 ((zz s37 56 25) + 1)) l38))))))) ∧ (v39 ≠ 0 → ((0 ≤ (zz s37 56 26) ∧ (zz s37 56 26) < 6002) ∧ Q (.inl none, (mkH B (zu (zu s37 71 (zz s37 56 26).toNat 13) 56 25 ((zz s37 56 25) + 2)) l38)))))))) ∧ (v34 ≠ 0 → ((0 ≤ (zz s32 56 26) ∧ (zz s32 56 26) < 6002) ∧ Q (.inl none, (mkH B (zu (zu s32 71 (zz s32 56 26).toNat 14) 56 25 ((zz s32 56 25) + 2)) l33)))))))))))) ∧ (v23 ≠ 0 → ((0 ≤ (zz s21 56 26) ∧ (zz s21 56 26) < 6002) ∧ Q (.inl none, (mkH B (zu (zu s21 71 (zz s21 56 26).toNat 26) 56 25 ((zz s21 56 25) + 2)) l22)))))))) ∧ (v18 ≠ 0 → ((0 ≤ (zz s16 56 26) ∧ (zz s16 56 26) < 6002) ∧ Q (.inl none, (mkH B (zu (zu s16 71 (zz s16 56 26).toNat 23) 56 25 ((zz s16 56 25) + 2)) l17)))))))) ∧ (v13 ≠ 0 → ((0 ≤ (zz s11 56 26) ∧ (zz s11 56 26) < 6002) ∧ Q (.inl none, (mkH B (zu (zu s11 71 (zz s11 56 26).toNat 22) 56 25 ((zz s11 56 25) + 2)) l12)))))))) ∧ (v8 ≠ 0 → ((0 ≤ (zz s6 56 26) ∧ (zz s6 56 26) < 6002) ∧ Q (.inl none, (mkH B (zu (zu s6 71 (zz s6 56 26).toNat 21) 56 25 ((zz s6 56 25) + 3)) l7)))))))) ∧ (v3 ≠ 0 → ((0 ≤ (zz s1 56 26) ∧ (zz s1 56 26) < 6002) ∧ Q (.inl none, (mkH B (zu (zu s1 71 (zz s1 56 26).toNat 20) 56 25 ((zz s1 56 25) + 3)) l2)))))))) : a_W d 162 0 [.ref 56, iv x1] [] (mkH B s l) Q := by
  refine w_aln (p := 1) (q162 0) rfl rfl ?_
  refine w_aln (p := 2) (q162 1) rfl rfl ?_
  refine w_gI (p := 5) (j := 25) (v := (zz s 56 25)) (q162 2) rfl (r56 hB) (by decide) (iv_zz s 56 25) ?_
  refine w_ldcs (p := 7) (q162 5) rfl ?_
  refine w_call (st := []) (as := [.ref 56, iv (zz s 56 25), .ref 1048589]) (as' := [.ref 1048589, iv (zz s 56 25), .ref 56]) (p := 10) (q162 7) rfl m156 (by decide) (a_ok_i rfl (r56 hB) rfl) rfl rfl (Nat.le_of_ble_eq_true rfl) (by omega) rfl rfl (a_W.imp w ?_)
  rintro _ ⟨v3, s1, l2, rfl, w⟩
  refine ⟨some (iv v3), _, rfl, ?_⟩
  show a_W _ 162 10 [.ref 56, iv x1] [iv v3] (mkH B s1 l2) _
  obtain ⟨h4, w⟩ := w
  by_cases c5 : v3 = 0
  · replace w := w.1 c5
    refine w_i1t (q162 10) h4 c5 ?_
    refine w_aln (p := 24) (q162 23) rfl rfl ?_
    refine w_aln (p := 25) (q162 24) rfl rfl ?_
    refine w_gI (p := 28) (j := 25) (v := (zz s1 56 25)) (q162 25) rfl (r56 hB) (by decide) (iv_zz s1 56 25) ?_
    refine w_ldcs (p := 30) (q162 28) rfl ?_
    refine w_call (st := []) (as := [.ref 56, iv (zz s1 56 25), .ref 1048590]) (as' := [.ref 1048590, iv (zz s1 56 25), .ref 56]) (p := 33) (q162 30) rfl m156 (by decide) (a_ok_i rfl (r56 hB) rfl) rfl rfl (Nat.le_of_ble_eq_true rfl) (by omega) rfl rfl (a_W.imp w ?_)
    rintro _ ⟨v8, s6, l7, rfl, w⟩
    refine ⟨some (iv v8), _, rfl, ?_⟩
    show a_W _ 162 33 [.ref 56, iv x1] [iv v8] (mkH B s6 l7) _
    obtain ⟨h9, w⟩ := w
    by_cases c10 : v8 = 0
    · replace w := w.1 c10
      refine w_i1t (q162 33) h9 c10 ?_
      refine w_aln (p := 47) (q162 46) rfl rfl ?_
      refine w_aln (p := 48) (q162 47) rfl rfl ?_
      refine w_gI (p := 51) (j := 25) (v := (zz s6 56 25)) (q162 48) rfl (r56 hB) (by decide) (iv_zz s6 56 25) ?_
      refine w_ldcs (p := 53) (q162 51) rfl ?_
      refine w_call (st := []) (as := [.ref 56, iv (zz s6 56 25), .ref 1048591]) (as' := [.ref 1048591, iv (zz s6 56 25), .ref 56]) (p := 56) (q162 53) rfl m156 (by decide) (a_ok_i rfl (r56 hB) rfl) rfl rfl (Nat.le_of_ble_eq_true rfl) (by omega) rfl rfl (a_W.imp w ?_)
      rintro _ ⟨v13, s11, l12, rfl, w⟩
      refine ⟨some (iv v13), _, rfl, ?_⟩
      show a_W _ 162 56 [.ref 56, iv x1] [iv v13] (mkH B s11 l12) _
      obtain ⟨h14, w⟩ := w
      by_cases c15 : v13 = 0
      · replace w := w.1 c15
        refine w_i1t (q162 56) h14 c15 ?_
        refine w_aln (p := 70) (q162 69) rfl rfl ?_
        refine w_aln (p := 71) (q162 70) rfl rfl ?_
        refine w_gI (p := 74) (j := 25) (v := (zz s11 56 25)) (q162 71) rfl (r56 hB) (by decide) (iv_zz s11 56 25) ?_
        refine w_ldcs (p := 76) (q162 74) rfl ?_
        refine w_call (st := []) (as := [.ref 56, iv (zz s11 56 25), .ref 1048592]) (as' := [.ref 1048592, iv (zz s11 56 25), .ref 56]) (p := 79) (q162 76) rfl m156 (by decide) (a_ok_i rfl (r56 hB) rfl) rfl rfl (Nat.le_of_ble_eq_true rfl) (by omega) rfl rfl (a_W.imp w ?_)
        rintro _ ⟨v18, s16, l17, rfl, w⟩
        refine ⟨some (iv v18), _, rfl, ?_⟩
        show a_W _ 162 79 [.ref 56, iv x1] [iv v18] (mkH B s16 l17) _
        obtain ⟨h19, w⟩ := w
        by_cases c20 : v18 = 0
        · replace w := w.1 c20
          refine w_i1t (q162 79) h19 c20 ?_
          refine w_aln (p := 93) (q162 92) rfl rfl ?_
          refine w_aln (p := 94) (q162 93) rfl rfl ?_
          refine w_gI (p := 97) (j := 25) (v := (zz s16 56 25)) (q162 94) rfl (r56 hB) (by decide) (iv_zz s16 56 25) ?_
          refine w_ldcs (p := 99) (q162 97) rfl ?_
          refine w_call (st := []) (as := [.ref 56, iv (zz s16 56 25), .ref 1048593]) (as' := [.ref 1048593, iv (zz s16 56 25), .ref 56]) (p := 102) (q162 99) rfl m156 (by decide) (a_ok_i rfl (r56 hB) rfl) rfl rfl (Nat.le_of_ble_eq_true rfl) (by omega) rfl rfl (a_W.imp w ?_)
          rintro _ ⟨v23, s21, l22, rfl, w⟩
          refine ⟨some (iv v23), _, rfl, ?_⟩
          show a_W _ 162 102 [.ref 56, iv x1] [iv v23] (mkH B s21 l22) _
          obtain ⟨h24, w⟩ := w
          by_cases c25 : v23 = 0
          · replace w := w.1 c25
            refine w_i1t (q162 102) h24 c25 ?_
            refine w_aln (p := 116) (q162 115) rfl rfl ?_
            refine w_aln (p := 117) (q162 116) rfl rfl ?_
            refine w_gI (p := 120) (j := 25) (v := (zz s21 56 25)) (q162 117) rfl (r56 hB) (by decide) (iv_zz s21 56 25) ?_
            refine w_ldcs (p := 122) (q162 120) rfl ?_
            refine w_call (st := []) (as := [.ref 56, iv (zz s21 56 25), .ref 1048594]) (as' := [.ref 1048594, iv (zz s21 56 25), .ref 56]) (p := 125) (q162 122) rfl m156 (by decide) (a_ok_i rfl (r56 hB) rfl) rfl rfl (Nat.le_of_ble_eq_true rfl) (by omega) rfl rfl (a_W.imp w ?_)
            rintro _ ⟨v28, s26, l27, rfl, w⟩
            refine ⟨some (iv v28), _, rfl, ?_⟩
            show a_W _ 162 125 [.ref 56, iv x1] [iv v28] (mkH B s26 l27) _
            obtain ⟨h29, w⟩ := w
            by_cases c30 : v28 ≠ 0
            · replace w := w.1 c30
              refine w_i1t (q162 125) h29 c30 ?_
              refine w_aln (p := 143) (q162 142) rfl rfl ?_
              refine w_bp (p := 145) (q162 143) rfl (by decide) ?_
              refine w_ic (p := 146) (q162 145) rfl ?_
              refine w_call (st := []) (as := [.ref 56, iv 14, iv 2]) (as' := [iv 2, iv 14, .ref 56]) (p := 149) (q162 146) rfl m157 (by decide) (a_ok_i rfl (r56 hB) rfl) rfl rfl (Nat.le_of_ble_eq_true rfl) (by omega) rfl rfl ?_
              refine w_aln (p := 1) (q157 0) rfl rfl ?_
              refine w_gR (p := 4) (j := 27) (v := 71) (q157 1) rfl (r56 hB) (by decide) (f56_27 hB) ?_
              refine w_aln (p := 5) (q157 4) rfl rfl ?_
              refine w_gI (p := 8) (j := 26) (v := (zz s26 56 26)) (q157 5) rfl (r56 hB) (by decide) (iv_zz s26 56 26) ?_
              refine w_iln (p := 9) (q157 8) rfl rfl ?_
              obtain ⟨o31, w⟩ := w
              refine w_ias (p := 10) (q157 9) rfl (r71 hB) (by decide) o31 ?_
              refine w_aln (p := 11) (q157 10) rfl rfl ?_
              refine w_dupr (p := 12) (q157 11) rfl ?_
              refine w_gI (p := 15) (j := 25) (v := (zz s26 56 25)) (q157 12) rfl (r56 hB) (by decide) (iv_zz s26 56 25) ?_
              refine w_iln (p := 16) (q157 15) rfl rfl ?_
              refine w_add (p := 17) (q157 16) rfl ?_
              refine w_pI (p := 20) (j := 25) (q157 17) rfl (r56 hB) (by decide) rfl ?_
              refine w_rv (q157 20) rfl ⟨_, _, rfl, ?_⟩
              show a_W _ 162 149 [.ref 56, iv x1] [] _ _
              refine w_goto (q162 149) ?_
              exact w_rv (q162 431) rfl w
            · replace w := w.2 (Decidable.not_not.mp c30)
              refine w_i1f (p := 128) (q162 125) rfl h29 c30 ?_
              refine w_aln (p := 129) (q162 128) rfl rfl ?_
              refine w_aln (p := 130) (q162 129) rfl rfl ?_
              refine w_gI (p := 133) (j := 25) (v := (zz s26 56 25)) (q162 130) rfl (r56 hB) (by decide) (iv_zz s26 56 25) ?_
              refine w_ldcws (p := 136) (q162 133) rfl ?_
              refine w_call (st := []) (as := [.ref 56, iv (zz s26 56 25), .ref 1048595]) (as' := [.ref 1048595, iv (zz s26 56 25), .ref 56]) (p := 139) (q162 136) rfl m156 (by decide) (a_ok_i rfl (r56 hB) rfl) rfl rfl (Nat.le_of_ble_eq_true rfl) (by omega) rfl rfl (a_W.imp w ?_)
              rintro _ ⟨v34, s32, l33, rfl, w⟩
              refine ⟨some (iv v34), _, rfl, ?_⟩
              show a_W _ 162 139 [.ref 56, iv x1] [iv v34] (mkH B s32 l33) _
              obtain ⟨h35, w⟩ := w
              by_cases c36 : v34 = 0
              · replace w := w.1 c36
                refine w_i1t (q162 139) h35 c36 ?_
                refine w_aln (p := 153) (q162 152) rfl rfl ?_
                refine w_aln (p := 154) (q162 153) rfl rfl ?_
                refine w_gI (p := 157) (j := 25) (v := (zz s32 56 25)) (q162 154) rfl (r56 hB) (by decide) (iv_zz s32 56 25) ?_
                refine w_ldcws (p := 160) (q162 157) rfl ?_
                refine w_call (st := []) (as := [.ref 56, iv (zz s32 56 25), .ref 1048596]) (as' := [.ref 1048596, iv (zz s32 56 25), .ref 56]) (p := 163) (q162 160) rfl m156 (by decide) (a_ok_i rfl (r56 hB) rfl) rfl rfl (Nat.le_of_ble_eq_true rfl) (by omega) rfl rfl (a_W.imp w ?_)
                rintro _ ⟨v39, s37, l38, rfl, w⟩
                refine ⟨some (iv v39), _, rfl, ?_⟩
                show a_W _ 162 163 [.ref 56, iv x1] [iv v39] (mkH B s37 l38) _
                obtain ⟨h40, w⟩ := w
                by_cases c41 : v39 = 0
                · replace w := w.1 c41
                  refine w_i1t (q162 163) h40 c41 ?_
                  refine w_iln (p := 177) (q162 176) rfl rfl ?_
                  refine w_bp (p := 179) (q162 177) rfl (by decide) ?_
                  obtain ⟨h42, w⟩ := w
                  by_cases c43 : x1 ≠ 61
                  · replace w := w.1 c43
                    refine w_i2t (q162 179) h42 (by decide) c43 ?_
                    refine w_iln (p := 193) (q162 192) rfl rfl ?_
                    refine w_bp (p := 195) (q162 193) rfl (by decide) ?_
                    by_cases c44 : x1 ≠ 60
                    · replace w := w.1 c44
                      refine w_i2t (q162 195) h42 (by decide) c44 ?_
                      refine w_iln (p := 209) (q162 208) rfl rfl ?_
                      refine w_bp (p := 211) (q162 209) rfl (by decide) ?_
                      by_cases c45 : x1 ≠ 43
                      · replace w := w.1 c45
                        refine w_i2t (q162 211) h42 (by decide) c45 ?_
                        refine w_iln (p := 225) (q162 224) rfl rfl ?_
                        refine w_bp (p := 227) (q162 225) rfl (by decide) ?_
                        by_cases c46 : x1 ≠ 42
                        · replace w := w.1 c46
                          refine w_i2t (q162 227) h42 (by decide) c46 ?_
                          refine w_iln (p := 241) (q162 240) rfl rfl ?_
                          refine w_bp (p := 243) (q162 241) rfl (by decide) ?_
                          by_cases c47 : x1 ≠ 40
                          · replace w := w.1 c47
                            refine w_i2t (q162 243) h42 (by decide) c47 ?_
                            refine w_iln (p := 256) (q162 255) rfl rfl ?_
                            refine w_bp (p := 258) (q162 256) rfl (by decide) ?_
                            by_cases c48 : x1 ≠ 41
                            · replace w := w.1 c48
                              refine w_i2t (q162 258) h42 (by decide) c48 ?_
                              refine w_iln (p := 271) (q162 270) rfl rfl ?_
                              refine w_bp (p := 273) (q162 271) rfl (by decide) ?_
                              by_cases c49 : x1 ≠ 46
                              · replace w := w.1 c49
                                refine w_i2t (q162 273) h42 (by decide) c49 ?_
                                refine w_iln (p := 287) (q162 286) rfl rfl ?_
                                refine w_bp (p := 289) (q162 287) rfl (by decide) ?_
                                by_cases c50 : x1 ≠ 58
                                · replace w := w.1 c50
                                  refine w_i2t (q162 289) h42 (by decide) c50 ?_
                                  refine w_iln (p := 303) (q162 302) rfl rfl ?_
                                  refine w_bp (p := 305) (q162 303) rfl (by decide) ?_
                                  by_cases c51 : x1 ≠ 92
                                  · replace w := w.1 c51
                                    refine w_i2t (q162 305) h42 (by decide) c51 ?_
                                    refine w_iln (p := 319) (q162 318) rfl rfl ?_
                                    refine w_bp (p := 321) (q162 319) rfl (by decide) ?_
                                    by_cases c52 : x1 ≠ 33
                                    · replace w := w.1 c52
                                      refine w_i2t (q162 321) h42 (by decide) c52 ?_
                                      refine w_iln (p := 335) (q162 334) rfl rfl ?_
                                      refine w_bp (p := 337) (q162 335) rfl (by decide) ?_
                                      by_cases c53 : x1 ≠ 63
                                      · replace w := w.1 c53
                                        refine w_i2t (q162 337) h42 (by decide) c53 ?_
                                        refine w_iln (p := 351) (q162 350) rfl rfl ?_
                                        refine w_bp (p := 353) (q162 351) rfl (by decide) ?_
                                        by_cases c54 : x1 ≠ 64
                                        · replace w := w.1 c54
                                          refine w_i2t (q162 353) h42 (by decide) c54 ?_
                                          refine w_iln (p := 367) (q162 366) rfl rfl ?_
                                          refine w_bp (p := 369) (q162 367) rfl (by decide) ?_
                                          by_cases c55 : x1 ≠ 126
                                          · replace w := w.1 c55
                                            refine w_i2t (q162 369) h42 (by decide) c55 ?_
                                            refine w_iln (p := 383) (q162 382) rfl rfl ?_
                                            refine w_bp (p := 385) (q162 383) rfl (by decide) ?_
                                            by_cases c56 : x1 = 91
                                            · replace w := w.1 c56
                                              refine w_i2t (q162 385) h42 (by decide) c56 ?_
                                              refine w_aln (p := 413) (q162 412) rfl rfl ?_
                                              refine w_bp (p := 415) (q162 413) rfl (by decide) ?_
                                              refine w_ic (p := 416) (q162 415) rfl ?_
                                              refine w_call (st := []) (as := [.ref 56, iv 14, iv 1]) (as' := [iv 1, iv 14, .ref 56]) (p := 419) (q162 416) rfl m157 (by decide) (a_ok_i rfl (r56 hB) rfl) rfl rfl (Nat.le_of_ble_eq_true rfl) (by omega) rfl rfl ?_
                                              refine w_aln (p := 1) (q157 0) rfl rfl ?_
                                              refine w_gR (p := 4) (j := 27) (v := 71) (q157 1) rfl (r56 hB) (by decide) (f56_27 hB) ?_
                                              refine w_aln (p := 5) (q157 4) rfl rfl ?_
                                              refine w_gI (p := 8) (j := 26) (v := (zz s37 56 26)) (q157 5) rfl (r56 hB) (by decide) (iv_zz s37 56 26) ?_
                                              refine w_iln (p := 9) (q157 8) rfl rfl ?_
                                              obtain ⟨o57, w⟩ := w
                                              refine w_ias (p := 10) (q157 9) rfl (r71 hB) (by decide) o57 ?_
                                              refine w_aln (p := 11) (q157 10) rfl rfl ?_
                                              refine w_dupr (p := 12) (q157 11) rfl ?_
                                              refine w_gI (p := 15) (j := 25) (v := (zz s37 56 25)) (q157 12) rfl (r56 hB) (by decide) (iv_zz s37 56 25) ?_
                                              refine w_iln (p := 16) (q157 15) rfl rfl ?_
                                              refine w_add (p := 17) (q157 16) rfl ?_
                                              refine w_pI (p := 20) (j := 25) (q157 17) rfl (r56 hB) (by decide) rfl ?_
                                              refine w_rv (q157 20) rfl ⟨_, _, rfl, ?_⟩
                                              show a_W _ 162 419 [.ref 56, iv x1] [] _ _
                                              refine w_goto (q162 419) ?_
                                              exact w_rv (q162 431) rfl w
                                            · replace w := w.2 c56
                                              refine w_i2f (p := 388) (q162 385) rfl h42 (by decide) c56 ?_
                                              refine w_iln (p := 389) (q162 388) rfl rfl ?_
                                              refine w_bp (p := 391) (q162 389) rfl (by decide) ?_
                                              by_cases c58 : x1 = 93
                                              · replace w := w.1 c58
                                                refine w_i2t (q162 391) h42 (by decide) c58 ?_
                                                refine w_aln (p := 413) (q162 412) rfl rfl ?_
                                                refine w_bp (p := 415) (q162 413) rfl (by decide) ?_
                                                refine w_ic (p := 416) (q162 415) rfl ?_
                                                refine w_call (st := []) (as := [.ref 56, iv 14, iv 1]) (as' := [iv 1, iv 14, .ref 56]) (p := 419) (q162 416) rfl m157 (by decide) (a_ok_i rfl (r56 hB) rfl) rfl rfl (Nat.le_of_ble_eq_true rfl) (by omega) rfl rfl ?_
                                                refine w_aln (p := 1) (q157 0) rfl rfl ?_
                                                refine w_gR (p := 4) (j := 27) (v := 71) (q157 1) rfl (r56 hB) (by decide) (f56_27 hB) ?_
                                                refine w_aln (p := 5) (q157 4) rfl rfl ?_
                                                refine w_gI (p := 8) (j := 26) (v := (zz s37 56 26)) (q157 5) rfl (r56 hB) (by decide) (iv_zz s37 56 26) ?_
                                                refine w_iln (p := 9) (q157 8) rfl rfl ?_
                                                obtain ⟨o59, w⟩ := w
                                                refine w_ias (p := 10) (q157 9) rfl (r71 hB) (by decide) o59 ?_
                                                refine w_aln (p := 11) (q157 10) rfl rfl ?_
                                                refine w_dupr (p := 12) (q157 11) rfl ?_
                                                refine w_gI (p := 15) (j := 25) (v := (zz s37 56 25)) (q157 12) rfl (r56 hB) (by decide) (iv_zz s37 56 25) ?_
                                                refine w_iln (p := 16) (q157 15) rfl rfl ?_
                                                refine w_add (p := 17) (q157 16) rfl ?_
                                                refine w_pI (p := 20) (j := 25) (q157 17) rfl (r56 hB) (by decide) rfl ?_
                                                refine w_rv (q157 20) rfl ⟨_, _, rfl, ?_⟩
                                                show a_W _ 162 419 [.ref 56, iv x1] [] _ _
                                                refine w_goto (q162 419) ?_
                                                exact w_rv (q162 431) rfl w
                                              · replace w := w.2 c58
                                                refine w_i2f (p := 394) (q162 391) rfl h42 (by decide) c58 ?_
                                                refine w_iln (p := 395) (q162 394) rfl rfl ?_
                                                refine w_bp (p := 397) (q162 395) rfl (by decide) ?_
                                                by_cases c60 : x1 = 44
                                                · replace w := w.1 c60
                                                  refine w_i2t (q162 397) h42 (by decide) c60 ?_
                                                  refine w_aln (p := 413) (q162 412) rfl rfl ?_
                                                  refine w_bp (p := 415) (q162 413) rfl (by decide) ?_
                                                  refine w_ic (p := 416) (q162 415) rfl ?_
                                                  refine w_call (st := []) (as := [.ref 56, iv 14, iv 1]) (as' := [iv 1, iv 14, .ref 56]) (p := 419) (q162 416) rfl m157 (by decide) (a_ok_i rfl (r56 hB) rfl) rfl rfl (Nat.le_of_ble_eq_true rfl) (by omega) rfl rfl ?_
                                                  refine w_aln (p := 1) (q157 0) rfl rfl ?_
                                                  refine w_gR (p := 4) (j := 27) (v := 71) (q157 1) rfl (r56 hB) (by decide) (f56_27 hB) ?_
                                                  refine w_aln (p := 5) (q157 4) rfl rfl ?_
                                                  refine w_gI (p := 8) (j := 26) (v := (zz s37 56 26)) (q157 5) rfl (r56 hB) (by decide) (iv_zz s37 56 26) ?_
                                                  refine w_iln (p := 9) (q157 8) rfl rfl ?_
                                                  obtain ⟨o61, w⟩ := w
                                                  refine w_ias (p := 10) (q157 9) rfl (r71 hB) (by decide) o61 ?_
                                                  refine w_aln (p := 11) (q157 10) rfl rfl ?_
                                                  refine w_dupr (p := 12) (q157 11) rfl ?_
                                                  refine w_gI (p := 15) (j := 25) (v := (zz s37 56 25)) (q157 12) rfl (r56 hB) (by decide) (iv_zz s37 56 25) ?_
                                                  refine w_iln (p := 16) (q157 15) rfl rfl ?_
                                                  refine w_add (p := 17) (q157 16) rfl ?_
                                                  refine w_pI (p := 20) (j := 25) (q157 17) rfl (r56 hB) (by decide) rfl ?_
                                                  refine w_rv (q157 20) rfl ⟨_, _, rfl, ?_⟩
                                                  show a_W _ 162 419 [.ref 56, iv x1] [] _ _
                                                  refine w_goto (q162 419) ?_
                                                  exact w_rv (q162 431) rfl w
                                                · replace w := w.2 c60
                                                  refine w_i2f (p := 400) (q162 397) rfl h42 (by decide) c60 ?_
                                                  refine w_iln (p := 401) (q162 400) rfl rfl ?_
                                                  refine w_bp (p := 403) (q162 401) rfl (by decide) ?_
                                                  by_cases c62 : x1 = 59
                                                  · replace w := w.1 c62
                                                    refine w_i2t (q162 403) h42 (by decide) c62 ?_
                                                    refine w_aln (p := 413) (q162 412) rfl rfl ?_
                                                    refine w_bp (p := 415) (q162 413) rfl (by decide) ?_
                                                    refine w_ic (p := 416) (q162 415) rfl ?_
                                                    refine w_call (st := []) (as := [.ref 56, iv 14, iv 1]) (as' := [iv 1, iv 14, .ref 56]) (p := 419) (q162 416) rfl m157 (by decide) (a_ok_i rfl (r56 hB) rfl) rfl rfl (Nat.le_of_ble_eq_true rfl) (by omega) rfl rfl ?_
                                                    refine w_aln (p := 1) (q157 0) rfl rfl ?_
                                                    refine w_gR (p := 4) (j := 27) (v := 71) (q157 1) rfl (r56 hB) (by decide) (f56_27 hB) ?_
                                                    refine w_aln (p := 5) (q157 4) rfl rfl ?_
                                                    refine w_gI (p := 8) (j := 26) (v := (zz s37 56 26)) (q157 5) rfl (r56 hB) (by decide) (iv_zz s37 56 26) ?_
                                                    refine w_iln (p := 9) (q157 8) rfl rfl ?_
                                                    obtain ⟨o63, w⟩ := w
                                                    refine w_ias (p := 10) (q157 9) rfl (r71 hB) (by decide) o63 ?_
                                                    refine w_aln (p := 11) (q157 10) rfl rfl ?_
                                                    refine w_dupr (p := 12) (q157 11) rfl ?_
                                                    refine w_gI (p := 15) (j := 25) (v := (zz s37 56 25)) (q157 12) rfl (r56 hB) (by decide) (iv_zz s37 56 25) ?_
                                                    refine w_iln (p := 16) (q157 15) rfl rfl ?_
                                                    refine w_add (p := 17) (q157 16) rfl ?_
                                                    refine w_pI (p := 20) (j := 25) (q157 17) rfl (r56 hB) (by decide) rfl ?_
                                                    refine w_rv (q157 20) rfl ⟨_, _, rfl, ?_⟩
                                                    show a_W _ 162 419 [.ref 56, iv x1] [] _ _
                                                    refine w_goto (q162 419) ?_
                                                    exact w_rv (q162 431) rfl w
                                                  · replace w := w.2 c62
                                                    refine w_i2f (p := 406) (q162 403) rfl h42 (by decide) c62 ?_
                                                    refine w_iln (p := 407) (q162 406) rfl rfl ?_
                                                    refine w_bp (p := 409) (q162 407) rfl (by decide) ?_
                                                    by_cases c64 : x1 ≠ 124
                                                    · replace w := w.1 c64
                                                      refine w_i2t (q162 409) h42 (by decide) c64 ?_
                                                      refine w_aln (p := 423) (q162 422) rfl rfl ?_
                                                      refine w_ic (p := 424) (q162 423) rfl ?_
                                                      refine w_aln (p := 425) (q162 424) rfl rfl ?_
                                                      refine w_gI (p := 428) (j := 25) (v := (zz s37 56 25)) (q162 425) rfl (r56 hB) (by decide) (iv_zz s37 56 25) ?_
                                                      refine w_call (st := []) (as := [.ref 56, iv 1, iv (zz s37 56 25)]) (as' := [iv (zz s37 56 25), iv 1, .ref 56]) (p := 431) (q162 428) rfl m152 (by decide) (a_ok_i rfl (r56 hB) rfl) rfl rfl (Nat.le_of_ble_eq_true rfl) (by omega) rfl rfl ?_
                                                      refine w_aln (p := 1) (q152 0) rfl rfl ?_
                                                      refine w_gI (p := 4) (j := 22) (v := (zz s37 56 22)) (q152 1) rfl (r56 hB) (by decide) (iv_zz s37 56 22) ?_
                                                      by_cases c65 : (zz s37 56 22) ≤ 0
                                                      · replace w := w.1 c65
                                                        refine w_i1t (q152 4) (inR_zz _ _ _) c65 ?_
                                                        refine w_aln (p := 9) (q152 8) rfl rfl ?_
                                                        refine w_iln (p := 10) (q152 9) rfl rfl ?_
                                                        refine w_pI (p := 13) (j := 22) (q152 10) rfl (r56 hB) (by decide) rfl ?_
                                                        refine w_aln (p := 14) (q152 13) rfl rfl ?_
                                                        refine w_iln (p := 15) (q152 14) rfl rfl ?_
                                                        refine w_pI (p := 18) (j := 23) (q152 15) rfl (r56 hB) (by decide) rfl ?_
                                                        refine w_rv (q152 18) rfl ⟨_, _, rfl, ?_⟩
                                                        show a_W _ 162 431 [.ref 56, iv x1] [] _ _
                                                        exact w_rv (q162 431) rfl w
                                                      · replace w := w.2 (Int.not_le.mp c65)
                                                        refine w_i1f (p := 7) (q152 4) rfl (inR_zz _ _ _) c65 ?_
                                                        refine w_rv (q152 7) rfl ⟨_, _, rfl, ?_⟩
                                                        show a_W _ 162 431 [.ref 56, iv x1] [] _ _
                                                        exact w_rv (q162 431) rfl w
                                                    · replace w := w.2 (Decidable.not_not.mp c64)
                                                      refine w_i2f (p := 412) (q162 409) rfl h42 (by decide) c64 ?_
                                                      refine w_aln (p := 413) (q162 412) rfl rfl ?_
                                                      refine w_bp (p := 415) (q162 413) rfl (by decide) ?_
                                                      refine w_ic (p := 416) (q162 415) rfl ?_
                                                      refine w_call (st := []) (as := [.ref 56, iv 14, iv 1]) (as' := [iv 1, iv 14, .ref 56]) (p := 419) (q162 416) rfl m157 (by decide) (a_ok_i rfl (r56 hB) rfl) rfl rfl (Nat.le_of_ble_eq_true rfl) (by omega) rfl rfl ?_
                                                      refine w_aln (p := 1) (q157 0) rfl rfl ?_
                                                      refine w_gR (p := 4) (j := 27) (v := 71) (q157 1) rfl (r56 hB) (by decide) (f56_27 hB) ?_
                                                      refine w_aln (p := 5) (q157 4) rfl rfl ?_
                                                      refine w_gI (p := 8) (j := 26) (v := (zz s37 56 26)) (q157 5) rfl (r56 hB) (by decide) (iv_zz s37 56 26) ?_
                                                      refine w_iln (p := 9) (q157 8) rfl rfl ?_
                                                      obtain ⟨o66, w⟩ := w
                                                      refine w_ias (p := 10) (q157 9) rfl (r71 hB) (by decide) o66 ?_
                                                      refine w_aln (p := 11) (q157 10) rfl rfl ?_
                                                      refine w_dupr (p := 12) (q157 11) rfl ?_
                                                      refine w_gI (p := 15) (j := 25) (v := (zz s37 56 25)) (q157 12) rfl (r56 hB) (by decide) (iv_zz s37 56 25) ?_
                                                      refine w_iln (p := 16) (q157 15) rfl rfl ?_
                                                      refine w_add (p := 17) (q157 16) rfl ?_
                                                      refine w_pI (p := 20) (j := 25) (q157 17) rfl (r56 hB) (by decide) rfl ?_
                                                      refine w_rv (q157 20) rfl ⟨_, _, rfl, ?_⟩
                                                      show a_W _ 162 419 [.ref 56, iv x1] [] _ _
                                                      refine w_goto (q162 419) ?_
                                                      exact w_rv (q162 431) rfl w
                                          · replace w := w.2 (Decidable.not_not.mp c55)
                                            refine w_i2f (p := 372) (q162 369) rfl h42 (by decide) c55 ?_
                                            refine w_aln (p := 373) (q162 372) rfl rfl ?_
                                            refine w_bp (p := 375) (q162 373) rfl (by decide) ?_
                                            refine w_ic (p := 376) (q162 375) rfl ?_
                                            refine w_call (st := []) (as := [.ref 56, iv 12, iv 1]) (as' := [iv 1, iv 12, .ref 56]) (p := 379) (q162 376) rfl m157 (by decide) (a_ok_i rfl (r56 hB) rfl) rfl rfl (Nat.le_of_ble_eq_true rfl) (by omega) rfl rfl ?_
                                            refine w_aln (p := 1) (q157 0) rfl rfl ?_
                                            refine w_gR (p := 4) (j := 27) (v := 71) (q157 1) rfl (r56 hB) (by decide) (f56_27 hB) ?_
                                            refine w_aln (p := 5) (q157 4) rfl rfl ?_
                                            refine w_gI (p := 8) (j := 26) (v := (zz s37 56 26)) (q157 5) rfl (r56 hB) (by decide) (iv_zz s37 56 26) ?_
                                            refine w_iln (p := 9) (q157 8) rfl rfl ?_
                                            obtain ⟨o67, w⟩ := w
                                            refine w_ias (p := 10) (q157 9) rfl (r71 hB) (by decide) o67 ?_
                                            refine w_aln (p := 11) (q157 10) rfl rfl ?_
                                            refine w_dupr (p := 12) (q157 11) rfl ?_
                                            refine w_gI (p := 15) (j := 25) (v := (zz s37 56 25)) (q157 12) rfl (r56 hB) (by decide) (iv_zz s37 56 25) ?_
                                            refine w_iln (p := 16) (q157 15) rfl rfl ?_
                                            refine w_add (p := 17) (q157 16) rfl ?_
                                            refine w_pI (p := 20) (j := 25) (q157 17) rfl (r56 hB) (by decide) rfl ?_
                                            refine w_rv (q157 20) rfl ⟨_, _, rfl, ?_⟩
                                            show a_W _ 162 379 [.ref 56, iv x1] [] _ _
                                            refine w_goto (q162 379) ?_
                                            exact w_rv (q162 431) rfl w
                                        · replace w := w.2 (Decidable.not_not.mp c54)
                                          refine w_i2f (p := 356) (q162 353) rfl h42 (by decide) c54 ?_
                                          refine w_aln (p := 357) (q162 356) rfl rfl ?_
                                          refine w_bp (p := 359) (q162 357) rfl (by decide) ?_
                                          refine w_ic (p := 360) (q162 359) rfl ?_
                                          refine w_call (st := []) (as := [.ref 56, iv 11, iv 1]) (as' := [iv 1, iv 11, .ref 56]) (p := 363) (q162 360) rfl m157 (by decide) (a_ok_i rfl (r56 hB) rfl) rfl rfl (Nat.le_of_ble_eq_true rfl) (by omega) rfl rfl ?_
                                          refine w_aln (p := 1) (q157 0) rfl rfl ?_
                                          refine w_gR (p := 4) (j := 27) (v := 71) (q157 1) rfl (r56 hB) (by decide) (f56_27 hB) ?_
                                          refine w_aln (p := 5) (q157 4) rfl rfl ?_
                                          refine w_gI (p := 8) (j := 26) (v := (zz s37 56 26)) (q157 5) rfl (r56 hB) (by decide) (iv_zz s37 56 26) ?_
                                          refine w_iln (p := 9) (q157 8) rfl rfl ?_
                                          obtain ⟨o68, w⟩ := w
                                          refine w_ias (p := 10) (q157 9) rfl (r71 hB) (by decide) o68 ?_
                                          refine w_aln (p := 11) (q157 10) rfl rfl ?_
                                          refine w_dupr (p := 12) (q157 11) rfl ?_
                                          refine w_gI (p := 15) (j := 25) (v := (zz s37 56 25)) (q157 12) rfl (r56 hB) (by decide) (iv_zz s37 56 25) ?_
                                          refine w_iln (p := 16) (q157 15) rfl rfl ?_
                                          refine w_add (p := 17) (q157 16) rfl ?_
                                          refine w_pI (p := 20) (j := 25) (q157 17) rfl (r56 hB) (by decide) rfl ?_
                                          refine w_rv (q157 20) rfl ⟨_, _, rfl, ?_⟩
                                          show a_W _ 162 363 [.ref 56, iv x1] [] _ _
                                          refine w_goto (q162 363) ?_
                                          exact w_rv (q162 431) rfl w
                                      · replace w := w.2 (Decidable.not_not.mp c53)
                                        refine w_i2f (p := 340) (q162 337) rfl h42 (by decide) c53 ?_
                                        refine w_aln (p := 341) (q162 340) rfl rfl ?_
                                        refine w_bp (p := 343) (q162 341) rfl (by decide) ?_
                                        refine w_ic (p := 344) (q162 343) rfl ?_
                                        refine w_call (st := []) (as := [.ref 56, iv 10, iv 1]) (as' := [iv 1, iv 10, .ref 56]) (p := 347) (q162 344) rfl m157 (by decide) (a_ok_i rfl (r56 hB) rfl) rfl rfl (Nat.le_of_ble_eq_true rfl) (by omega) rfl rfl ?_
                                        refine w_aln (p := 1) (q157 0) rfl rfl ?_
                                        refine w_gR (p := 4) (j := 27) (v := 71) (q157 1) rfl (r56 hB) (by decide) (f56_27 hB) ?_
                                        refine w_aln (p := 5) (q157 4) rfl rfl ?_
                                        refine w_gI (p := 8) (j := 26) (v := (zz s37 56 26)) (q157 5) rfl (r56 hB) (by decide) (iv_zz s37 56 26) ?_
                                        refine w_iln (p := 9) (q157 8) rfl rfl ?_
                                        obtain ⟨o69, w⟩ := w
                                        refine w_ias (p := 10) (q157 9) rfl (r71 hB) (by decide) o69 ?_
                                        refine w_aln (p := 11) (q157 10) rfl rfl ?_
                                        refine w_dupr (p := 12) (q157 11) rfl ?_
                                        refine w_gI (p := 15) (j := 25) (v := (zz s37 56 25)) (q157 12) rfl (r56 hB) (by decide) (iv_zz s37 56 25) ?_
                                        refine w_iln (p := 16) (q157 15) rfl rfl ?_
                                        refine w_add (p := 17) (q157 16) rfl ?_
                                        refine w_pI (p := 20) (j := 25) (q157 17) rfl (r56 hB) (by decide) rfl ?_
                                        refine w_rv (q157 20) rfl ⟨_, _, rfl, ?_⟩
                                        show a_W _ 162 347 [.ref 56, iv x1] [] _ _
                                        refine w_goto (q162 347) ?_
                                        exact w_rv (q162 431) rfl w
                                    · replace w := w.2 (Decidable.not_not.mp c52)
                                      refine w_i2f (p := 324) (q162 321) rfl h42 (by decide) c52 ?_
                                      refine w_aln (p := 325) (q162 324) rfl rfl ?_
                                      refine w_bp (p := 327) (q162 325) rfl (by decide) ?_
                                      refine w_ic (p := 328) (q162 327) rfl ?_
                                      refine w_call (st := []) (as := [.ref 56, iv 9, iv 1]) (as' := [iv 1, iv 9, .ref 56]) (p := 331) (q162 328) rfl m157 (by decide) (a_ok_i rfl (r56 hB) rfl) rfl rfl (Nat.le_of_ble_eq_true rfl) (by omega) rfl rfl ?_
                                      refine w_aln (p := 1) (q157 0) rfl rfl ?_
                                      refine w_gR (p := 4) (j := 27) (v := 71) (q157 1) rfl (r56 hB) (by decide) (f56_27 hB) ?_
                                      refine w_aln (p := 5) (q157 4) rfl rfl ?_
                                      refine w_gI (p := 8) (j := 26) (v := (zz s37 56 26)) (q157 5) rfl (r56 hB) (by decide) (iv_zz s37 56 26) ?_
                                      refine w_iln (p := 9) (q157 8) rfl rfl ?_
                                      obtain ⟨o70, w⟩ := w
                                      refine w_ias (p := 10) (q157 9) rfl (r71 hB) (by decide) o70 ?_
                                      refine w_aln (p := 11) (q157 10) rfl rfl ?_
                                      refine w_dupr (p := 12) (q157 11) rfl ?_
                                      refine w_gI (p := 15) (j := 25) (v := (zz s37 56 25)) (q157 12) rfl (r56 hB) (by decide) (iv_zz s37 56 25) ?_
                                      refine w_iln (p := 16) (q157 15) rfl rfl ?_
                                      refine w_add (p := 17) (q157 16) rfl ?_
                                      refine w_pI (p := 20) (j := 25) (q157 17) rfl (r56 hB) (by decide) rfl ?_
                                      refine w_rv (q157 20) rfl ⟨_, _, rfl, ?_⟩
                                      show a_W _ 162 331 [.ref 56, iv x1] [] _ _
                                      refine w_goto (q162 331) ?_
                                      exact w_rv (q162 431) rfl w
                                  · replace w := w.2 (Decidable.not_not.mp c51)
                                    refine w_i2f (p := 308) (q162 305) rfl h42 (by decide) c51 ?_
                                    refine w_aln (p := 309) (q162 308) rfl rfl ?_
                                    refine w_bp (p := 311) (q162 309) rfl (by decide) ?_
                                    refine w_ic (p := 312) (q162 311) rfl ?_
                                    refine w_call (st := []) (as := [.ref 56, iv 8, iv 1]) (as' := [iv 1, iv 8, .ref 56]) (p := 315) (q162 312) rfl m157 (by decide) (a_ok_i rfl (r56 hB) rfl) rfl rfl (Nat.le_of_ble_eq_true rfl) (by omega) rfl rfl ?_
                                    refine w_aln (p := 1) (q157 0) rfl rfl ?_
                                    refine w_gR (p := 4) (j := 27) (v := 71) (q157 1) rfl (r56 hB) (by decide) (f56_27 hB) ?_
                                    refine w_aln (p := 5) (q157 4) rfl rfl ?_
                                    refine w_gI (p := 8) (j := 26) (v := (zz s37 56 26)) (q157 5) rfl (r56 hB) (by decide) (iv_zz s37 56 26) ?_
                                    refine w_iln (p := 9) (q157 8) rfl rfl ?_
                                    obtain ⟨o71, w⟩ := w
                                    refine w_ias (p := 10) (q157 9) rfl (r71 hB) (by decide) o71 ?_
                                    refine w_aln (p := 11) (q157 10) rfl rfl ?_
                                    refine w_dupr (p := 12) (q157 11) rfl ?_
                                    refine w_gI (p := 15) (j := 25) (v := (zz s37 56 25)) (q157 12) rfl (r56 hB) (by decide) (iv_zz s37 56 25) ?_
                                    refine w_iln (p := 16) (q157 15) rfl rfl ?_
                                    refine w_add (p := 17) (q157 16) rfl ?_
                                    refine w_pI (p := 20) (j := 25) (q157 17) rfl (r56 hB) (by decide) rfl ?_
                                    refine w_rv (q157 20) rfl ⟨_, _, rfl, ?_⟩
                                    show a_W _ 162 315 [.ref 56, iv x1] [] _ _
                                    refine w_goto (q162 315) ?_
                                    exact w_rv (q162 431) rfl w
                                · replace w := w.2 (Decidable.not_not.mp c50)
                                  refine w_i2f (p := 292) (q162 289) rfl h42 (by decide) c50 ?_
                                  refine w_aln (p := 293) (q162 292) rfl rfl ?_
                                  refine w_bp (p := 295) (q162 293) rfl (by decide) ?_
                                  refine w_ic (p := 296) (q162 295) rfl ?_
                                  refine w_call (st := []) (as := [.ref 56, iv 7, iv 1]) (as' := [iv 1, iv 7, .ref 56]) (p := 299) (q162 296) rfl m157 (by decide) (a_ok_i rfl (r56 hB) rfl) rfl rfl (Nat.le_of_ble_eq_true rfl) (by omega) rfl rfl ?_
                                  refine w_aln (p := 1) (q157 0) rfl rfl ?_
                                  refine w_gR (p := 4) (j := 27) (v := 71) (q157 1) rfl (r56 hB) (by decide) (f56_27 hB) ?_
                                  refine w_aln (p := 5) (q157 4) rfl rfl ?_
                                  refine w_gI (p := 8) (j := 26) (v := (zz s37 56 26)) (q157 5) rfl (r56 hB) (by decide) (iv_zz s37 56 26) ?_
                                  refine w_iln (p := 9) (q157 8) rfl rfl ?_
                                  obtain ⟨o72, w⟩ := w
                                  refine w_ias (p := 10) (q157 9) rfl (r71 hB) (by decide) o72 ?_
                                  refine w_aln (p := 11) (q157 10) rfl rfl ?_
                                  refine w_dupr (p := 12) (q157 11) rfl ?_
                                  refine w_gI (p := 15) (j := 25) (v := (zz s37 56 25)) (q157 12) rfl (r56 hB) (by decide) (iv_zz s37 56 25) ?_
                                  refine w_iln (p := 16) (q157 15) rfl rfl ?_
                                  refine w_add (p := 17) (q157 16) rfl ?_
                                  refine w_pI (p := 20) (j := 25) (q157 17) rfl (r56 hB) (by decide) rfl ?_
                                  refine w_rv (q157 20) rfl ⟨_, _, rfl, ?_⟩
                                  show a_W _ 162 299 [.ref 56, iv x1] [] _ _
                                  refine w_goto (q162 299) ?_
                                  exact w_rv (q162 431) rfl w
                              · replace w := w.2 (Decidable.not_not.mp c49)
                                refine w_i2f (p := 276) (q162 273) rfl h42 (by decide) c49 ?_
                                refine w_aln (p := 277) (q162 276) rfl rfl ?_
                                refine w_bp (p := 279) (q162 277) rfl (by decide) ?_
                                refine w_ic (p := 280) (q162 279) rfl ?_
                                refine w_call (st := []) (as := [.ref 56, iv 6, iv 1]) (as' := [iv 1, iv 6, .ref 56]) (p := 283) (q162 280) rfl m157 (by decide) (a_ok_i rfl (r56 hB) rfl) rfl rfl (Nat.le_of_ble_eq_true rfl) (by omega) rfl rfl ?_
                                refine w_aln (p := 1) (q157 0) rfl rfl ?_
                                refine w_gR (p := 4) (j := 27) (v := 71) (q157 1) rfl (r56 hB) (by decide) (f56_27 hB) ?_
                                refine w_aln (p := 5) (q157 4) rfl rfl ?_
                                refine w_gI (p := 8) (j := 26) (v := (zz s37 56 26)) (q157 5) rfl (r56 hB) (by decide) (iv_zz s37 56 26) ?_
                                refine w_iln (p := 9) (q157 8) rfl rfl ?_
                                obtain ⟨o73, w⟩ := w
                                refine w_ias (p := 10) (q157 9) rfl (r71 hB) (by decide) o73 ?_
                                refine w_aln (p := 11) (q157 10) rfl rfl ?_
                                refine w_dupr (p := 12) (q157 11) rfl ?_
                                refine w_gI (p := 15) (j := 25) (v := (zz s37 56 25)) (q157 12) rfl (r56 hB) (by decide) (iv_zz s37 56 25) ?_
                                refine w_iln (p := 16) (q157 15) rfl rfl ?_
                                refine w_add (p := 17) (q157 16) rfl ?_
                                refine w_pI (p := 20) (j := 25) (q157 17) rfl (r56 hB) (by decide) rfl ?_
                                refine w_rv (q157 20) rfl ⟨_, _, rfl, ?_⟩
                                show a_W _ 162 283 [.ref 56, iv x1] [] _ _
                                refine w_goto (q162 283) ?_
                                exact w_rv (q162 431) rfl w
                            · replace w := w.2 (Decidable.not_not.mp c48)
                              refine w_i2f (p := 261) (q162 258) rfl h42 (by decide) c48 ?_
                              refine w_aln (p := 262) (q162 261) rfl rfl ?_
                              refine w_ic (p := 263) (q162 262) rfl ?_
                              refine w_ic (p := 264) (q162 263) rfl ?_
                              refine w_call (st := []) (as := [.ref 56, iv 5, iv 1]) (as' := [iv 1, iv 5, .ref 56]) (p := 267) (q162 264) rfl m157 (by decide) (a_ok_i rfl (r56 hB) rfl) rfl rfl (Nat.le_of_ble_eq_true rfl) (by omega) rfl rfl ?_
                              refine w_aln (p := 1) (q157 0) rfl rfl ?_
                              refine w_gR (p := 4) (j := 27) (v := 71) (q157 1) rfl (r56 hB) (by decide) (f56_27 hB) ?_
                              refine w_aln (p := 5) (q157 4) rfl rfl ?_
                              refine w_gI (p := 8) (j := 26) (v := (zz s37 56 26)) (q157 5) rfl (r56 hB) (by decide) (iv_zz s37 56 26) ?_
                              refine w_iln (p := 9) (q157 8) rfl rfl ?_
                              obtain ⟨o74, w⟩ := w
                              refine w_ias (p := 10) (q157 9) rfl (r71 hB) (by decide) o74 ?_
                              refine w_aln (p := 11) (q157 10) rfl rfl ?_
                              refine w_dupr (p := 12) (q157 11) rfl ?_
                              refine w_gI (p := 15) (j := 25) (v := (zz s37 56 25)) (q157 12) rfl (r56 hB) (by decide) (iv_zz s37 56 25) ?_
                              refine w_iln (p := 16) (q157 15) rfl rfl ?_
                              refine w_add (p := 17) (q157 16) rfl ?_
                              refine w_pI (p := 20) (j := 25) (q157 17) rfl (r56 hB) (by decide) rfl ?_
                              refine w_rv (q157 20) rfl ⟨_, _, rfl, ?_⟩
                              show a_W _ 162 267 [.ref 56, iv x1] [] _ _
                              refine w_goto (q162 267) ?_
                              exact w_rv (q162 431) rfl w
                          · replace w := w.2 (Decidable.not_not.mp c47)
                            refine w_i2f (p := 246) (q162 243) rfl h42 (by decide) c47 ?_
                            refine w_aln (p := 247) (q162 246) rfl rfl ?_
                            refine w_ic (p := 248) (q162 247) rfl ?_
                            refine w_ic (p := 249) (q162 248) rfl ?_
                            refine w_call (st := []) (as := [.ref 56, iv 4, iv 1]) (as' := [iv 1, iv 4, .ref 56]) (p := 252) (q162 249) rfl m157 (by decide) (a_ok_i rfl (r56 hB) rfl) rfl rfl (Nat.le_of_ble_eq_true rfl) (by omega) rfl rfl ?_
                            refine w_aln (p := 1) (q157 0) rfl rfl ?_
                            refine w_gR (p := 4) (j := 27) (v := 71) (q157 1) rfl (r56 hB) (by decide) (f56_27 hB) ?_
                            refine w_aln (p := 5) (q157 4) rfl rfl ?_
                            refine w_gI (p := 8) (j := 26) (v := (zz s37 56 26)) (q157 5) rfl (r56 hB) (by decide) (iv_zz s37 56 26) ?_
                            refine w_iln (p := 9) (q157 8) rfl rfl ?_
                            obtain ⟨o75, w⟩ := w
                            refine w_ias (p := 10) (q157 9) rfl (r71 hB) (by decide) o75 ?_
                            refine w_aln (p := 11) (q157 10) rfl rfl ?_
                            refine w_dupr (p := 12) (q157 11) rfl ?_
                            refine w_gI (p := 15) (j := 25) (v := (zz s37 56 25)) (q157 12) rfl (r56 hB) (by decide) (iv_zz s37 56 25) ?_
                            refine w_iln (p := 16) (q157 15) rfl rfl ?_
                            refine w_add (p := 17) (q157 16) rfl ?_
                            refine w_pI (p := 20) (j := 25) (q157 17) rfl (r56 hB) (by decide) rfl ?_
                            refine w_rv (q157 20) rfl ⟨_, _, rfl, ?_⟩
                            show a_W _ 162 252 [.ref 56, iv x1] [] _ _
                            refine w_goto (q162 252) ?_
                            exact w_rv (q162 431) rfl w
                        · replace w := w.2 (Decidable.not_not.mp c46)
                          refine w_i2f (p := 230) (q162 227) rfl h42 (by decide) c46 ?_
                          refine w_aln (p := 231) (q162 230) rfl rfl ?_
                          refine w_bp (p := 233) (q162 231) rfl (by decide) ?_
                          refine w_ic (p := 234) (q162 233) rfl ?_
                          refine w_call (st := []) (as := [.ref 56, iv 28, iv 1]) (as' := [iv 1, iv 28, .ref 56]) (p := 237) (q162 234) rfl m157 (by decide) (a_ok_i rfl (r56 hB) rfl) rfl rfl (Nat.le_of_ble_eq_true rfl) (by omega) rfl rfl ?_
                          refine w_aln (p := 1) (q157 0) rfl rfl ?_
                          refine w_gR (p := 4) (j := 27) (v := 71) (q157 1) rfl (r56 hB) (by decide) (f56_27 hB) ?_
                          refine w_aln (p := 5) (q157 4) rfl rfl ?_
                          refine w_gI (p := 8) (j := 26) (v := (zz s37 56 26)) (q157 5) rfl (r56 hB) (by decide) (iv_zz s37 56 26) ?_
                          refine w_iln (p := 9) (q157 8) rfl rfl ?_
                          obtain ⟨o76, w⟩ := w
                          refine w_ias (p := 10) (q157 9) rfl (r71 hB) (by decide) o76 ?_
                          refine w_aln (p := 11) (q157 10) rfl rfl ?_
                          refine w_dupr (p := 12) (q157 11) rfl ?_
                          refine w_gI (p := 15) (j := 25) (v := (zz s37 56 25)) (q157 12) rfl (r56 hB) (by decide) (iv_zz s37 56 25) ?_
                          refine w_iln (p := 16) (q157 15) rfl rfl ?_
                          refine w_add (p := 17) (q157 16) rfl ?_
                          refine w_pI (p := 20) (j := 25) (q157 17) rfl (r56 hB) (by decide) rfl ?_
                          refine w_rv (q157 20) rfl ⟨_, _, rfl, ?_⟩
                          show a_W _ 162 237 [.ref 56, iv x1] [] _ _
                          refine w_goto (q162 237) ?_
                          exact w_rv (q162 431) rfl w
                      · replace w := w.2 (Decidable.not_not.mp c45)
                        refine w_i2f (p := 214) (q162 211) rfl h42 (by decide) c45 ?_
                        refine w_aln (p := 215) (q162 214) rfl rfl ?_
                        refine w_bp (p := 217) (q162 215) rfl (by decide) ?_
                        refine w_ic (p := 218) (q162 217) rfl ?_
                        refine w_call (st := []) (as := [.ref 56, iv 27, iv 1]) (as' := [iv 1, iv 27, .ref 56]) (p := 221) (q162 218) rfl m157 (by decide) (a_ok_i rfl (r56 hB) rfl) rfl rfl (Nat.le_of_ble_eq_true rfl) (by omega) rfl rfl ?_
                        refine w_aln (p := 1) (q157 0) rfl rfl ?_
                        refine w_gR (p := 4) (j := 27) (v := 71) (q157 1) rfl (r56 hB) (by decide) (f56_27 hB) ?_
                        refine w_aln (p := 5) (q157 4) rfl rfl ?_
                        refine w_gI (p := 8) (j := 26) (v := (zz s37 56 26)) (q157 5) rfl (r56 hB) (by decide) (iv_zz s37 56 26) ?_
                        refine w_iln (p := 9) (q157 8) rfl rfl ?_
                        obtain ⟨o77, w⟩ := w
                        refine w_ias (p := 10) (q157 9) rfl (r71 hB) (by decide) o77 ?_
                        refine w_aln (p := 11) (q157 10) rfl rfl ?_
                        refine w_dupr (p := 12) (q157 11) rfl ?_
                        refine w_gI (p := 15) (j := 25) (v := (zz s37 56 25)) (q157 12) rfl (r56 hB) (by decide) (iv_zz s37 56 25) ?_
                        refine w_iln (p := 16) (q157 15) rfl rfl ?_
                        refine w_add (p := 17) (q157 16) rfl ?_
                        refine w_pI (p := 20) (j := 25) (q157 17) rfl (r56 hB) (by decide) rfl ?_
                        refine w_rv (q157 20) rfl ⟨_, _, rfl, ?_⟩
                        show a_W _ 162 221 [.ref 56, iv x1] [] _ _
                        refine w_goto (q162 221) ?_
                        exact w_rv (q162 431) rfl w
                    · replace w := w.2 (Decidable.not_not.mp c44)
                      refine w_i2f (p := 198) (q162 195) rfl h42 (by decide) c44 ?_
                      refine w_aln (p := 199) (q162 198) rfl rfl ?_
                      refine w_bp (p := 201) (q162 199) rfl (by decide) ?_
                      refine w_ic (p := 202) (q162 201) rfl ?_
                      refine w_call (st := []) (as := [.ref 56, iv 25, iv 1]) (as' := [iv 1, iv 25, .ref 56]) (p := 205) (q162 202) rfl m157 (by decide) (a_ok_i rfl (r56 hB) rfl) rfl rfl (Nat.le_of_ble_eq_true rfl) (by omega) rfl rfl ?_
                      refine w_aln (p := 1) (q157 0) rfl rfl ?_
                      refine w_gR (p := 4) (j := 27) (v := 71) (q157 1) rfl (r56 hB) (by decide) (f56_27 hB) ?_
                      refine w_aln (p := 5) (q157 4) rfl rfl ?_
                      refine w_gI (p := 8) (j := 26) (v := (zz s37 56 26)) (q157 5) rfl (r56 hB) (by decide) (iv_zz s37 56 26) ?_
                      refine w_iln (p := 9) (q157 8) rfl rfl ?_
                      obtain ⟨o78, w⟩ := w
                      refine w_ias (p := 10) (q157 9) rfl (r71 hB) (by decide) o78 ?_
                      refine w_aln (p := 11) (q157 10) rfl rfl ?_
                      refine w_dupr (p := 12) (q157 11) rfl ?_
                      refine w_gI (p := 15) (j := 25) (v := (zz s37 56 25)) (q157 12) rfl (r56 hB) (by decide) (iv_zz s37 56 25) ?_
                      refine w_iln (p := 16) (q157 15) rfl rfl ?_
                      refine w_add (p := 17) (q157 16) rfl ?_
                      refine w_pI (p := 20) (j := 25) (q157 17) rfl (r56 hB) (by decide) rfl ?_
                      refine w_rv (q157 20) rfl ⟨_, _, rfl, ?_⟩
                      show a_W _ 162 205 [.ref 56, iv x1] [] _ _
                      refine w_goto (q162 205) ?_
                      exact w_rv (q162 431) rfl w
                  · replace w := w.2 (Decidable.not_not.mp c43)
                    refine w_i2f (p := 182) (q162 179) rfl h42 (by decide) c43 ?_
                    refine w_aln (p := 183) (q162 182) rfl rfl ?_
                    refine w_bp (p := 185) (q162 183) rfl (by decide) ?_
                    refine w_ic (p := 186) (q162 185) rfl ?_
                    refine w_call (st := []) (as := [.ref 56, iv 24, iv 1]) (as' := [iv 1, iv 24, .ref 56]) (p := 189) (q162 186) rfl m157 (by decide) (a_ok_i rfl (r56 hB) rfl) rfl rfl (Nat.le_of_ble_eq_true rfl) (by omega) rfl rfl ?_
                    refine w_aln (p := 1) (q157 0) rfl rfl ?_
                    refine w_gR (p := 4) (j := 27) (v := 71) (q157 1) rfl (r56 hB) (by decide) (f56_27 hB) ?_
                    refine w_aln (p := 5) (q157 4) rfl rfl ?_
                    refine w_gI (p := 8) (j := 26) (v := (zz s37 56 26)) (q157 5) rfl (r56 hB) (by decide) (iv_zz s37 56 26) ?_
                    refine w_iln (p := 9) (q157 8) rfl rfl ?_
                    obtain ⟨o79, w⟩ := w
                    refine w_ias (p := 10) (q157 9) rfl (r71 hB) (by decide) o79 ?_
                    refine w_aln (p := 11) (q157 10) rfl rfl ?_
                    refine w_dupr (p := 12) (q157 11) rfl ?_
                    refine w_gI (p := 15) (j := 25) (v := (zz s37 56 25)) (q157 12) rfl (r56 hB) (by decide) (iv_zz s37 56 25) ?_
                    refine w_iln (p := 16) (q157 15) rfl rfl ?_
                    refine w_add (p := 17) (q157 16) rfl ?_
                    refine w_pI (p := 20) (j := 25) (q157 17) rfl (r56 hB) (by decide) rfl ?_
                    refine w_rv (q157 20) rfl ⟨_, _, rfl, ?_⟩
                    show a_W _ 162 189 [.ref 56, iv x1] [] _ _
                    refine w_goto (q162 189) ?_
                    exact w_rv (q162 431) rfl w
                · replace w := w.2 c41
                  refine w_i1f (p := 166) (q162 163) rfl h40 c41 ?_
                  refine w_aln (p := 167) (q162 166) rfl rfl ?_
                  refine w_bp (p := 169) (q162 167) rfl (by decide) ?_
                  refine w_ic (p := 170) (q162 169) rfl ?_
                  refine w_call (st := []) (as := [.ref 56, iv 13, iv 2]) (as' := [iv 2, iv 13, .ref 56]) (p := 173) (q162 170) rfl m157 (by decide) (a_ok_i rfl (r56 hB) rfl) rfl rfl (Nat.le_of_ble_eq_true rfl) (by omega) rfl rfl ?_
                  refine w_aln (p := 1) (q157 0) rfl rfl ?_
                  refine w_gR (p := 4) (j := 27) (v := 71) (q157 1) rfl (r56 hB) (by decide) (f56_27 hB) ?_
                  refine w_aln (p := 5) (q157 4) rfl rfl ?_
                  refine w_gI (p := 8) (j := 26) (v := (zz s37 56 26)) (q157 5) rfl (r56 hB) (by decide) (iv_zz s37 56 26) ?_
                  refine w_iln (p := 9) (q157 8) rfl rfl ?_
                  obtain ⟨o80, w⟩ := w
                  refine w_ias (p := 10) (q157 9) rfl (r71 hB) (by decide) o80 ?_
                  refine w_aln (p := 11) (q157 10) rfl rfl ?_
                  refine w_dupr (p := 12) (q157 11) rfl ?_
                  refine w_gI (p := 15) (j := 25) (v := (zz s37 56 25)) (q157 12) rfl (r56 hB) (by decide) (iv_zz s37 56 25) ?_
                  refine w_iln (p := 16) (q157 15) rfl rfl ?_
                  refine w_add (p := 17) (q157 16) rfl ?_
                  refine w_pI (p := 20) (j := 25) (q157 17) rfl (r56 hB) (by decide) rfl ?_
                  refine w_rv (q157 20) rfl ⟨_, _, rfl, ?_⟩
                  show a_W _ 162 173 [.ref 56, iv x1] [] _ _
                  refine w_goto (q162 173) ?_
                  exact w_rv (q162 431) rfl w
              · replace w := w.2 c36
                refine w_i1f (p := 142) (q162 139) rfl h35 c36 ?_
                refine w_aln (p := 143) (q162 142) rfl rfl ?_
                refine w_bp (p := 145) (q162 143) rfl (by decide) ?_
                refine w_ic (p := 146) (q162 145) rfl ?_
                refine w_call (st := []) (as := [.ref 56, iv 14, iv 2]) (as' := [iv 2, iv 14, .ref 56]) (p := 149) (q162 146) rfl m157 (by decide) (a_ok_i rfl (r56 hB) rfl) rfl rfl (Nat.le_of_ble_eq_true rfl) (by omega) rfl rfl ?_
                refine w_aln (p := 1) (q157 0) rfl rfl ?_
                refine w_gR (p := 4) (j := 27) (v := 71) (q157 1) rfl (r56 hB) (by decide) (f56_27 hB) ?_
                refine w_aln (p := 5) (q157 4) rfl rfl ?_
                refine w_gI (p := 8) (j := 26) (v := (zz s32 56 26)) (q157 5) rfl (r56 hB) (by decide) (iv_zz s32 56 26) ?_
                refine w_iln (p := 9) (q157 8) rfl rfl ?_
                obtain ⟨o81, w⟩ := w
                refine w_ias (p := 10) (q157 9) rfl (r71 hB) (by decide) o81 ?_
                refine w_aln (p := 11) (q157 10) rfl rfl ?_
                refine w_dupr (p := 12) (q157 11) rfl ?_
                refine w_gI (p := 15) (j := 25) (v := (zz s32 56 25)) (q157 12) rfl (r56 hB) (by decide) (iv_zz s32 56 25) ?_
                refine w_iln (p := 16) (q157 15) rfl rfl ?_
                refine w_add (p := 17) (q157 16) rfl ?_
                refine w_pI (p := 20) (j := 25) (q157 17) rfl (r56 hB) (by decide) rfl ?_
                refine w_rv (q157 20) rfl ⟨_, _, rfl, ?_⟩
                show a_W _ 162 149 [.ref 56, iv x1] [] _ _
                refine w_goto (q162 149) ?_
                exact w_rv (q162 431) rfl w
          · replace w := w.2 c25
            refine w_i1f (p := 105) (q162 102) rfl h24 c25 ?_
            refine w_aln (p := 106) (q162 105) rfl rfl ?_
            refine w_bp (p := 108) (q162 106) rfl (by decide) ?_
            refine w_ic (p := 109) (q162 108) rfl ?_
            refine w_call (st := []) (as := [.ref 56, iv 26, iv 2]) (as' := [iv 2, iv 26, .ref 56]) (p := 112) (q162 109) rfl m157 (by decide) (a_ok_i rfl (r56 hB) rfl) rfl rfl (Nat.le_of_ble_eq_true rfl) (by omega) rfl rfl ?_
            refine w_aln (p := 1) (q157 0) rfl rfl ?_
            refine w_gR (p := 4) (j := 27) (v := 71) (q157 1) rfl (r56 hB) (by decide) (f56_27 hB) ?_
            refine w_aln (p := 5) (q157 4) rfl rfl ?_
            refine w_gI (p := 8) (j := 26) (v := (zz s21 56 26)) (q157 5) rfl (r56 hB) (by decide) (iv_zz s21 56 26) ?_
            refine w_iln (p := 9) (q157 8) rfl rfl ?_
            obtain ⟨o82, w⟩ := w
            refine w_ias (p := 10) (q157 9) rfl (r71 hB) (by decide) o82 ?_
            refine w_aln (p := 11) (q157 10) rfl rfl ?_
            refine w_dupr (p := 12) (q157 11) rfl ?_
            refine w_gI (p := 15) (j := 25) (v := (zz s21 56 25)) (q157 12) rfl (r56 hB) (by decide) (iv_zz s21 56 25) ?_
            refine w_iln (p := 16) (q157 15) rfl rfl ?_
            refine w_add (p := 17) (q157 16) rfl ?_
            refine w_pI (p := 20) (j := 25) (q157 17) rfl (r56 hB) (by decide) rfl ?_
            refine w_rv (q157 20) rfl ⟨_, _, rfl, ?_⟩
            show a_W _ 162 112 [.ref 56, iv x1] [] _ _
            refine w_goto (q162 112) ?_
            exact w_rv (q162 431) rfl w
        · replace w := w.2 c20
          refine w_i1f (p := 82) (q162 79) rfl h19 c20 ?_
          refine w_aln (p := 83) (q162 82) rfl rfl ?_
          refine w_bp (p := 85) (q162 83) rfl (by decide) ?_
          refine w_ic (p := 86) (q162 85) rfl ?_
          refine w_call (st := []) (as := [.ref 56, iv 23, iv 2]) (as' := [iv 2, iv 23, .ref 56]) (p := 89) (q162 86) rfl m157 (by decide) (a_ok_i rfl (r56 hB) rfl) rfl rfl (Nat.le_of_ble_eq_true rfl) (by omega) rfl rfl ?_
          refine w_aln (p := 1) (q157 0) rfl rfl ?_
          refine w_gR (p := 4) (j := 27) (v := 71) (q157 1) rfl (r56 hB) (by decide) (f56_27 hB) ?_
          refine w_aln (p := 5) (q157 4) rfl rfl ?_
          refine w_gI (p := 8) (j := 26) (v := (zz s16 56 26)) (q157 5) rfl (r56 hB) (by decide) (iv_zz s16 56 26) ?_
          refine w_iln (p := 9) (q157 8) rfl rfl ?_
          obtain ⟨o83, w⟩ := w
          refine w_ias (p := 10) (q157 9) rfl (r71 hB) (by decide) o83 ?_
          refine w_aln (p := 11) (q157 10) rfl rfl ?_
          refine w_dupr (p := 12) (q157 11) rfl ?_
          refine w_gI (p := 15) (j := 25) (v := (zz s16 56 25)) (q157 12) rfl (r56 hB) (by decide) (iv_zz s16 56 25) ?_
          refine w_iln (p := 16) (q157 15) rfl rfl ?_
          refine w_add (p := 17) (q157 16) rfl ?_
          refine w_pI (p := 20) (j := 25) (q157 17) rfl (r56 hB) (by decide) rfl ?_
          refine w_rv (q157 20) rfl ⟨_, _, rfl, ?_⟩
          show a_W _ 162 89 [.ref 56, iv x1] [] _ _
          refine w_goto (q162 89) ?_
          exact w_rv (q162 431) rfl w
      · replace w := w.2 c15
        refine w_i1f (p := 59) (q162 56) rfl h14 c15 ?_
        refine w_aln (p := 60) (q162 59) rfl rfl ?_
        refine w_bp (p := 62) (q162 60) rfl (by decide) ?_
        refine w_ic (p := 63) (q162 62) rfl ?_
        refine w_call (st := []) (as := [.ref 56, iv 22, iv 2]) (as' := [iv 2, iv 22, .ref 56]) (p := 66) (q162 63) rfl m157 (by decide) (a_ok_i rfl (r56 hB) rfl) rfl rfl (Nat.le_of_ble_eq_true rfl) (by omega) rfl rfl ?_
        refine w_aln (p := 1) (q157 0) rfl rfl ?_
        refine w_gR (p := 4) (j := 27) (v := 71) (q157 1) rfl (r56 hB) (by decide) (f56_27 hB) ?_
        refine w_aln (p := 5) (q157 4) rfl rfl ?_
        refine w_gI (p := 8) (j := 26) (v := (zz s11 56 26)) (q157 5) rfl (r56 hB) (by decide) (iv_zz s11 56 26) ?_
        refine w_iln (p := 9) (q157 8) rfl rfl ?_
        obtain ⟨o84, w⟩ := w
        refine w_ias (p := 10) (q157 9) rfl (r71 hB) (by decide) o84 ?_
        refine w_aln (p := 11) (q157 10) rfl rfl ?_
        refine w_dupr (p := 12) (q157 11) rfl ?_
        refine w_gI (p := 15) (j := 25) (v := (zz s11 56 25)) (q157 12) rfl (r56 hB) (by decide) (iv_zz s11 56 25) ?_
        refine w_iln (p := 16) (q157 15) rfl rfl ?_
        refine w_add (p := 17) (q157 16) rfl ?_
        refine w_pI (p := 20) (j := 25) (q157 17) rfl (r56 hB) (by decide) rfl ?_
        refine w_rv (q157 20) rfl ⟨_, _, rfl, ?_⟩
        show a_W _ 162 66 [.ref 56, iv x1] [] _ _
        refine w_goto (q162 66) ?_
        exact w_rv (q162 431) rfl w
    · replace w := w.2 c10
      refine w_i1f (p := 36) (q162 33) rfl h9 c10 ?_
      refine w_aln (p := 37) (q162 36) rfl rfl ?_
      refine w_bp (p := 39) (q162 37) rfl (by decide) ?_
      refine w_ic (p := 40) (q162 39) rfl ?_
      refine w_call (st := []) (as := [.ref 56, iv 21, iv 3]) (as' := [iv 3, iv 21, .ref 56]) (p := 43) (q162 40) rfl m157 (by decide) (a_ok_i rfl (r56 hB) rfl) rfl rfl (Nat.le_of_ble_eq_true rfl) (by omega) rfl rfl ?_
      refine w_aln (p := 1) (q157 0) rfl rfl ?_
      refine w_gR (p := 4) (j := 27) (v := 71) (q157 1) rfl (r56 hB) (by decide) (f56_27 hB) ?_
      refine w_aln (p := 5) (q157 4) rfl rfl ?_
      refine w_gI (p := 8) (j := 26) (v := (zz s6 56 26)) (q157 5) rfl (r56 hB) (by decide) (iv_zz s6 56 26) ?_
      refine w_iln (p := 9) (q157 8) rfl rfl ?_
      obtain ⟨o85, w⟩ := w
      refine w_ias (p := 10) (q157 9) rfl (r71 hB) (by decide) o85 ?_
      refine w_aln (p := 11) (q157 10) rfl rfl ?_
      refine w_dupr (p := 12) (q157 11) rfl ?_
      refine w_gI (p := 15) (j := 25) (v := (zz s6 56 25)) (q157 12) rfl (r56 hB) (by decide) (iv_zz s6 56 25) ?_
      refine w_iln (p := 16) (q157 15) rfl rfl ?_
      refine w_add (p := 17) (q157 16) rfl ?_
      refine w_pI (p := 20) (j := 25) (q157 17) rfl (r56 hB) (by decide) rfl ?_
      refine w_rv (q157 20) rfl ⟨_, _, rfl, ?_⟩
      show a_W _ 162 43 [.ref 56, iv x1] [] _ _
      refine w_goto (q162 43) ?_
      exact w_rv (q162 431) rfl w
  · replace w := w.2 c5
    refine w_i1f (p := 13) (q162 10) rfl h4 c5 ?_
    refine w_aln (p := 14) (q162 13) rfl rfl ?_
    refine w_bp (p := 16) (q162 14) rfl (by decide) ?_
    refine w_ic (p := 17) (q162 16) rfl ?_
    refine w_call (st := []) (as := [.ref 56, iv 20, iv 3]) (as' := [iv 3, iv 20, .ref 56]) (p := 20) (q162 17) rfl m157 (by decide) (a_ok_i rfl (r56 hB) rfl) rfl rfl (Nat.le_of_ble_eq_true rfl) (by omega) rfl rfl ?_
    refine w_aln (p := 1) (q157 0) rfl rfl ?_
    refine w_gR (p := 4) (j := 27) (v := 71) (q157 1) rfl (r56 hB) (by decide) (f56_27 hB) ?_
    refine w_aln (p := 5) (q157 4) rfl rfl ?_
    refine w_gI (p := 8) (j := 26) (v := (zz s1 56 26)) (q157 5) rfl (r56 hB) (by decide) (iv_zz s1 56 26) ?_
    refine w_iln (p := 9) (q157 8) rfl rfl ?_
    obtain ⟨o86, w⟩ := w
    refine w_ias (p := 10) (q157 9) rfl (r71 hB) (by decide) o86 ?_
    refine w_aln (p := 11) (q157 10) rfl rfl ?_
    refine w_dupr (p := 12) (q157 11) rfl ?_
    refine w_gI (p := 15) (j := 25) (v := (zz s1 56 25)) (q157 12) rfl (r56 hB) (by decide) (iv_zz s1 56 25) ?_
    refine w_iln (p := 16) (q157 15) rfl rfl ?_
    refine w_add (p := 17) (q157 16) rfl ?_
    refine w_pI (p := 20) (j := 25) (q157 17) rfl (r56 hB) (by decide) rfl ?_
    refine w_rv (q157 20) rfl ⟨_, _, rfl, ?_⟩
    show a_W _ 162 20 [.ref 56, iv x1] [] _ _
    refine w_goto (q162 20) ?_
    exact w_rv (q162 431) rfl w
theorem w149_0 {d : Nat} {B : aH} {Q : aR → Prop} (hB : a_Can B) (hd : 1 ≤ d) (s : Nat → Nat → Int32) (l : Nat → Nat → Int64) (w : a_W (d - 1) 150 0 [.ref 56, iv (zz s 56 25), .retAddr 0, .retAddr 0, .retAddr 0] [] (mkH B s l) (fun r => ∃ (v3 : Int) (s1 : Nat → Nat → Int32) (l2 : Nat → Nat → Int64), r = (.inl (some (iv v3)), mkH B s1 l2) ∧ ((0 ≤ (zz s1 56 26) ∧ (zz s1 56 26) < 6002) ∧ (inR v3 ∧ ((v3 ≠ (zz s1 56 24) → (((zz s1 56 26) ≠ 6000 → a_W d 149 77 [.ref 56, .retAddr 0] [] (mkH B (zu (zu s1 56 25 v3) 72 (zz s1 56 26).toNat v3) l2) Q) ∧ ((zz s1 56 26) = 6000 → (((zz s1 56 22) ≤ 0 → a_W d 149 77 [.ref 56, .retAddr 0] [] (mkH B (zu (zu (zu (zu s1 56 25 v3) 72 (zz s1 56 26).toNat v3) 56 22 8) 56 23 v3) l2) Q) ∧ (0 < (zz s1 56 22) → a_W d 149 77 [.ref 56, .retAddr 0] [] (mkH B (zu (zu s1 56 25 v3) 72 (zz s1 56 26).toNat v3) l2) Q))))) ∧ (v3 = (zz s1 56 24) → Q (.inl none, (mkH B (zu (zu (zu (zu s1 56 25 v3) 72 (zz s1 56 26).toNat v3) 71 (zz s1 56 26).toNat 0) 56 26 ((zz s1 56 26) + 1)) l2)))))))) : a_W d 149 0 [.ref 56, .retAddr 0] [] (mkH B s l) Q := by
  refine w_aln (p := 1) (q149 0) rfl rfl ?_
  refine w_aln (p := 2) (q149 1) rfl rfl ?_
  refine w_aln (p := 3) (q149 2) rfl rfl ?_
  refine w_gI (p := 6) (j := 25) (v := (zz s 56 25)) (q149 3) rfl (r56 hB) (by decide) (iv_zz s 56 25) ?_
  refine w_call (st := [.ref 56]) (as := [.ref 56, iv (zz s 56 25)]) (as' := [iv (zz s 56 25), .ref 56]) (p := 9) (q149 6) rfl m150 (by decide) (a_ok_i rfl (r56 hB) rfl) rfl rfl (Nat.le_of_ble_eq_true rfl) (by omega) rfl rfl (a_W.imp w ?_)
  rintro _ ⟨v3, s1, l2, rfl, w⟩
  refine ⟨some (iv v3), _, rfl, ?_⟩
  show a_W _ 149 9 [.ref 56, .retAddr 0] [iv v3, .ref 56] (mkH B s1 l2) _
  refine w_pI (p := 12) (j := 25) (q149 9) rfl (r56 hB) (by decide) rfl ?_
  refine w_aln (p := 13) (q149 12) rfl rfl ?_
  refine w_gR (p := 16) (j := 28) (v := 72) (q149 13) rfl (r56 hB) (by decide) (f56_28 hB) ?_
  refine w_aln (p := 17) (q149 16) rfl rfl ?_
  refine w_gI (p := 20) (j := 26) (v := (zz s1 56 26)) (q149 17) rfl (r56 hB) (by decide) (iv_zz s1 56 26) ?_
  refine w_aln (p := 21) (q149 20) rfl rfl ?_
  refine w_gI (p := 24) (j := 25) (v := v3) (q149 21) rfl (r56 hB) (by decide) rfl ?_
  obtain ⟨o4, w⟩ := w
  refine w_ias (p := 25) (q149 24) rfl (r72 hB) (by decide) o4 ?_
  refine w_aln (p := 26) (q149 25) rfl rfl ?_
  refine w_gI (p := 29) (j := 25) (v := v3) (q149 26) rfl (r56 hB) (by decide) rfl ?_
  refine w_aln (p := 30) (q149 29) rfl rfl ?_
  refine w_gI (p := 33) (j := 24) (v := (zz s1 56 24)) (q149 30) rfl (r56 hB) (by decide) (iv_zz s1 56 24) ?_
  obtain ⟨h5, w⟩ := w
  by_cases c6 : v3 ≠ (zz s1 56 24)
  · replace w := w.1 c6
    refine w_i2t (q149 33) h5 (inR_zz _ _ _) c6 ?_
    refine w_aln (p := 58) (q149 57) rfl rfl ?_
    refine w_gI (p := 61) (j := 26) (v := (zz s1 56 26)) (q149 58) rfl (r56 hB) (by decide) (iv_zz s1 56 26) ?_
    refine w_sp (p := 64) (q149 61) rfl (by decide) ?_
    by_cases c7 : (zz s1 56 26) ≠ 6000
    · replace w := w.1 c7
      refine w_i2t (q149 64) (inR_zz _ _ _) (by decide) c7 ?_
      exact w
    · replace w := w.2 (Decidable.not_not.mp c7)
      refine w_i2f (p := 67) (q149 64) rfl (inR_zz _ _ _) (by decide) c7 ?_
      refine w_aln (p := 68) (q149 67) rfl rfl ?_
      refine w_bp (p := 70) (q149 68) rfl (by decide) ?_
      refine w_aln (p := 71) (q149 70) rfl rfl ?_
      refine w_gI (p := 74) (j := 25) (v := v3) (q149 71) rfl (r56 hB) (by decide) rfl ?_
      refine w_call (st := []) (as := [.ref 56, iv 8, iv v3]) (as' := [iv v3, iv 8, .ref 56]) (p := 77) (q149 74) rfl m152 (by decide) (a_ok_i rfl (r56 hB) rfl) rfl rfl (Nat.le_of_ble_eq_true rfl) (by omega) rfl rfl ?_
      refine w_aln (p := 1) (q152 0) rfl rfl ?_
      refine w_gI (p := 4) (j := 22) (v := (zz s1 56 22)) (q152 1) rfl (r56 hB) (by decide) (iv_zz s1 56 22) ?_
      by_cases c8 : (zz s1 56 22) ≤ 0
      · replace w := w.1 c8
        refine w_i1t (q152 4) (inR_zz _ _ _) c8 ?_
        refine w_aln (p := 9) (q152 8) rfl rfl ?_
        refine w_iln (p := 10) (q152 9) rfl rfl ?_
        refine w_pI (p := 13) (j := 22) (q152 10) rfl (r56 hB) (by decide) rfl ?_
        refine w_aln (p := 14) (q152 13) rfl rfl ?_
        refine w_iln (p := 15) (q152 14) rfl rfl ?_
        refine w_pI (p := 18) (j := 23) (q152 15) rfl (r56 hB) (by decide) rfl ?_
        refine w_rv (q152 18) rfl ⟨_, _, rfl, ?_⟩
        show a_W _ 149 77 [.ref 56, .retAddr 0] [] _ _
        exact w
      · replace w := w.2 (Int.not_le.mp c8)
        refine w_i1f (p := 7) (q152 4) rfl (inR_zz _ _ _) c8 ?_
        refine w_rv (q152 7) rfl ⟨_, _, rfl, ?_⟩
        show a_W _ 149 77 [.ref 56, .retAddr 0] [] _ _
        exact w
  · replace w := w.2 (Decidable.not_not.mp c6)
    refine w_i2f (p := 36) (q149 33) rfl h5 (inR_zz _ _ _) c6 ?_
    refine w_aln (p := 37) (q149 36) rfl rfl ?_
    refine w_gR (p := 40) (j := 27) (v := 71) (q149 37) rfl (r56 hB) (by decide) (f56_27 hB) ?_
    refine w_aln (p := 41) (q149 40) rfl rfl ?_
    refine w_gI (p := 44) (j := 26) (v := (zz s1 56 26)) (q149 41) rfl (r56 hB) (by decide) (iv_zz s1 56 26) ?_
    refine w_ic (p := 45) (q149 44) rfl ?_
    refine w_ias (p := 46) (q149 45) rfl (r71 hB) (by decide) o4 ?_
    refine w_aln (p := 47) (q149 46) rfl rfl ?_
    refine w_dupr (p := 48) (q149 47) rfl ?_
    refine w_gI (p := 51) (j := 26) (v := (zz s1 56 26)) (q149 48) rfl (r56 hB) (by decide) (iv_zz s1 56 26) ?_
    refine w_ic (p := 52) (q149 51) rfl ?_
    refine w_add (p := 53) (q149 52) rfl ?_
    refine w_pI (p := 56) (j := 26) (q149 53) rfl (r56 hB) (by decide) rfl ?_
    exact w_rv (q149 56) rfl w
theorem w149_77 {d : Nat} {B : aH} {Q : aR → Prop} (hB : a_Can B) (hd : 1 ≤ d) (s : Nat → Nat → Int32) (l : Nat → Nat → Int64) (w : (((zz s 56 22) ≤ 0 → (0 ≤ (zz s 56 25) ∧ zz s 56 24 ≤ 8000 ∧ (((z153 (mby s (zz s 56 25))) = 0 → (((mby s (zz s 56 25)) ≠ 39 → a_W d 149 147 [.ref 56, iv (mby s (zz s 56 25))] [] (mkH B s l) Q) ∧ ((mby s (zz s 56 25)) = 39 → (inR ((zz s 56 25) + 1) ∧ 0 ≤ ((zz s 56 25) + 1) ∧ (((z153 (mby s ((zz s 56 25) + 1))) = 0 → a_W d 149 147 [.ref 56, iv (mby s (zz s 56 25))] [] (mkH B s l) Q) ∧ ((z153 (mby s ((zz s 56 25) + 1))) ≠ 0 → a_W (d - 1) 154 0 [.ref 56, iv ((zz s 56 25) + 1), .retAddr 0, .retAddr 0, .retAddr 0, .retAddr 0] [] (mkH B s l) (fun r => ∃ (s9 : Nat → Nat → Int32) (l10 : Nat → Nat → Int64), r = (.inl none, mkH B s9 l10) ∧ a_W d 149 166 [.ref 56, iv (mby s (zz s 56 25))] [] (mkH B s9 l10) Q))))))) ∧ ((z153 (mby s (zz s 56 25))) ≠ 0 → a_W (d - 1) 154 0 [.ref 56, iv (zz s 56 25), .retAddr 0, .retAddr 0, .retAddr 0, .retAddr 0] [] (mkH B s l) (fun r => ∃ (s11 : Nat → Nat → Int32) (l12 : Nat → Nat → Int64), r = (.inl none, mkH B s11 l12) ∧ a_W d 149 166 [.ref 56, iv (mby s (zz s 56 25))] [] (mkH B s11 l12) Q))))) ∧ (0 < (zz s 56 22) → Q (.inl none, (mkH B s l))))) : a_W d 149 77 [.ref 56, .retAddr 0] [] (mkH B s l) Q := by
  refine w_aln (p := 78) (q149 77) rfl rfl ?_
  refine w_gI (p := 81) (j := 22) (v := (zz s 56 22)) (q149 78) rfl (r56 hB) (by decide) (iv_zz s 56 22) ?_
  by_cases c1 : (zz s 56 22) ≤ 0
  · replace w := w.1 c1
    refine w_i1t (q149 81) (inR_zz _ _ _) c1 ?_
    refine w_aln (p := 86) (q149 85) rfl rfl ?_
    refine w_aln (p := 87) (q149 86) rfl rfl ?_
    refine w_gI (p := 90) (j := 25) (v := (zz s 56 25)) (q149 87) rfl (r56 hB) (by decide) (iv_zz s 56 25) ?_
    obtain ⟨o2, w⟩ := w
    obtain ⟨o3, w⟩ := w
    refine w_call (st := []) (as := [.ref 56, iv (zz s 56 25)]) (as' := [iv (zz s 56 25), .ref 56]) (p := 93) (q149 90) rfl m151 (by decide) (a_ok_i rfl (r56 hB) rfl) rfl rfl (Nat.le_of_ble_eq_true rfl) (by omega) rfl rfl (a_W.imp (p151 hB (zz s 56 25) s l (inR_zz _ _ _) o2 o3) ?_)
    rintro _ rfl
    refine ⟨_, _, rfl, ?_⟩
    show a_W _ 149 93 [.ref 56, .retAddr 0] [iv (mby s (zz s 56 25))] _ _
    refine w_isn (p := 94) (ls' := [.ref 56, iv (mby s (zz s 56 25))]) (q149 93) rfl (Nat.le_of_ble_eq_true rfl) rfl ?_
    refine w_iln (p := 95) (q149 94) rfl rfl ?_
    refine w_call (st := []) (as := [iv (mby s (zz s 56 25))]) (as' := [iv (mby s (zz s 56 25))]) (p := 98) (q149 95) rfl m153 (by decide) (a_ok_s rfl rfl) rfl rfl (Nat.le_of_ble_eq_true rfl) (by omega) rfl rfl (a_W.imp (p153 hB (mby s (zz s 56 25)) _ _ (inR_mby _ _)) ?_)
    rintro _ rfl
    refine ⟨_, _, rfl, ?_⟩
    show a_W _ 149 98 [.ref 56, iv (mby s (zz s 56 25))] [iv (z153 (mby s (zz s 56 25)))] _ _
    by_cases c4 : (z153 (mby s (zz s 56 25))) = 0
    · replace w := w.1 c4
      refine w_i1t (q149 98) (inR_z153 _) c4 ?_
      refine w_iln (p := 113) (q149 112) rfl rfl ?_
      refine w_bp (p := 115) (q149 113) rfl (by decide) ?_
      by_cases c5 : (mby s (zz s 56 25)) ≠ 39
      · replace w := w.1 c5
        refine w_i2t (q149 115) (inR_mby _ _) (by decide) c5 ?_
        exact w
      · replace w := w.2 (Decidable.not_not.mp c5)
        refine w_i2f (p := 118) (q149 115) rfl (inR_mby _ _) (by decide) c5 ?_
        refine w_aln (p := 119) (q149 118) rfl rfl ?_
        refine w_aln (p := 120) (q149 119) rfl rfl ?_
        refine w_gI (p := 123) (j := 25) (v := (zz s 56 25)) (q149 120) rfl (r56 hB) (by decide) (iv_zz s 56 25) ?_
        refine w_ic (p := 124) (q149 123) rfl ?_
        refine w_add (p := 125) (q149 124) rfl ?_
        obtain ⟨h6, w⟩ := w
        obtain ⟨o7, w⟩ := w
        refine w_call (st := []) (as := [.ref 56, iv ((zz s 56 25) + 1)]) (as' := [iv ((zz s 56 25) + 1), .ref 56]) (p := 128) (q149 125) rfl m151 (by decide) (a_ok_i rfl (r56 hB) rfl) rfl rfl (Nat.le_of_ble_eq_true rfl) (by omega) rfl rfl (a_W.imp (p151 hB ((zz s 56 25) + 1) s l h6 o7 o3) ?_)
        rintro _ rfl
        refine ⟨_, _, rfl, ?_⟩
        show a_W _ 149 128 [.ref 56, iv (mby s (zz s 56 25))] [iv (mby s ((zz s 56 25) + 1))] _ _
        refine w_call (st := []) (as := [iv (mby s ((zz s 56 25) + 1))]) (as' := [iv (mby s ((zz s 56 25) + 1))]) (p := 131) (q149 128) rfl m153 (by decide) (a_ok_s rfl rfl) rfl rfl (Nat.le_of_ble_eq_true rfl) (by omega) rfl rfl (a_W.imp (p153 hB (mby s ((zz s 56 25) + 1)) _ _ (inR_mby _ _)) ?_)
        rintro _ rfl
        refine ⟨_, _, rfl, ?_⟩
        show a_W _ 149 131 [.ref 56, iv (mby s (zz s 56 25))] [iv (z153 (mby s ((zz s 56 25) + 1)))] _ _
        by_cases c8 : (z153 (mby s ((zz s 56 25) + 1))) = 0
        · replace w := w.1 c8
          refine w_i1t (q149 131) (inR_z153 _) c8 ?_
          exact w
        · replace w := w.2 c8
          refine w_i1f (p := 134) (q149 131) rfl (inR_z153 _) c8 ?_
          refine w_aln (p := 135) (q149 134) rfl rfl ?_
          refine w_aln (p := 136) (q149 135) rfl rfl ?_
          refine w_gI (p := 139) (j := 25) (v := (zz s 56 25)) (q149 136) rfl (r56 hB) (by decide) (iv_zz s 56 25) ?_
          refine w_ic (p := 140) (q149 139) rfl ?_
          refine w_add (p := 141) (q149 140) rfl ?_
          refine w_call (st := []) (as := [.ref 56, iv ((zz s 56 25) + 1)]) (as' := [iv ((zz s 56 25) + 1), .ref 56]) (p := 144) (q149 141) rfl m154 (by decide) (a_ok_i rfl (r56 hB) rfl) rfl rfl (Nat.le_of_ble_eq_true rfl) (by omega) rfl rfl (a_W.imp w ?_)
          rintro _ ⟨s9, l10, rfl, w⟩
          refine ⟨none, _, rfl, ?_⟩
          show a_W _ 149 144 [.ref 56, iv (mby s (zz s 56 25))] [] (mkH B s9 l10) _
          refine w_goto (q149 144) ?_
          exact w
    · replace w := w.2 c4
      refine w_i1f (p := 101) (q149 98) rfl (inR_z153 _) c4 ?_
      refine w_aln (p := 102) (q149 101) rfl rfl ?_
      refine w_aln (p := 103) (q149 102) rfl rfl ?_
      refine w_gI (p := 106) (j := 25) (v := (zz s 56 25)) (q149 103) rfl (r56 hB) (by decide) (iv_zz s 56 25) ?_
      refine w_call (st := []) (as := [.ref 56, iv (zz s 56 25)]) (as' := [iv (zz s 56 25), .ref 56]) (p := 109) (q149 106) rfl m154 (by decide) (a_ok_i rfl (r56 hB) rfl) rfl rfl (Nat.le_of_ble_eq_true rfl) (by omega) rfl rfl (a_W.imp w ?_)
      rintro _ ⟨s11, l12, rfl, w⟩
      refine ⟨none, _, rfl, ?_⟩
      show a_W _ 149 109 [.ref 56, iv (mby s (zz s 56 25))] [] (mkH B s11 l12) _
      refine w_goto (q149 109) ?_
      exact w
  · replace w := w.2 (Int.not_le.mp c1)
    refine w_i1f (p := 84) (q149 81) rfl (inR_zz _ _ _) c1 ?_
    exact w_rv (q149 84) rfl w
theorem w149_147 {d : Nat} {B : aH} {Q : aR → Prop} (hB : a_Can B) (hd : 1 ≤ d) (x1 : Int) (s : Nat → Nat → Int32) (l : Nat → Nat → Int64) (w : (inR x1 ∧ (((z155 x1) = 0 → a_W (d - 1) 162 0 [.ref 56, iv x1] [] (mkH B s l) (fun r => ∃ (s3 : Nat → Nat → Int32) (l4 : Nat → Nat → Int64), r = (.inl none, mkH B s3 l4) ∧ a_W d 149 166 [.ref 56, iv x1] [] (mkH B s3 l4) Q)) ∧ ((z155 x1) ≠ 0 → a_W (d - 1) 161 0 [.ref 56, .retAddr 0, .retAddr 0] [] (mkH B s l) (fun r => ∃ (s5 : Nat → Nat → Int32) (l6 : Nat → Nat → Int64), r = (.inl none, mkH B s5 l6) ∧ a_W d 149 166 [.ref 56, iv x1] [] (mkH B s5 l6) Q))))) : a_W d 149 147 [.ref 56, iv x1] [] (mkH B s l) Q := by
  refine w_iln (p := 148) (q149 147) rfl rfl ?_
  obtain ⟨h1, w⟩ := w
  refine w_call (st := []) (as := [iv x1]) (as' := [iv x1]) (p := 151) (q149 148) rfl m155 (by decide) (a_ok_s rfl rfl) rfl rfl (Nat.le_of_ble_eq_true rfl) (by omega) rfl rfl (a_W.imp (p155 hB x1 _ _ h1) ?_)
  rintro _ rfl
  refine ⟨_, _, rfl, ?_⟩
  show a_W _ 149 151 [.ref 56, iv x1] [iv (z155 x1)] _ _
  by_cases c2 : (z155 x1) = 0
  · replace w := w.1 c2
    refine w_i1t (q149 151) (inR_z155 _) c2 ?_
    refine w_aln (p := 162) (q149 161) rfl rfl ?_
    refine w_iln (p := 163) (q149 162) rfl rfl ?_
    refine w_call (st := []) (as := [.ref 56, iv x1]) (as' := [iv x1, .ref 56]) (p := 166) (q149 163) rfl m162 (by decide) (a_ok_i rfl (r56 hB) rfl) rfl rfl (Nat.le_of_ble_eq_true rfl) (by omega) rfl rfl (a_W.imp w ?_)
    rintro _ ⟨s3, l4, rfl, w⟩
    refine ⟨none, _, rfl, ?_⟩
    show a_W _ 149 166 [.ref 56, iv x1] [] (mkH B s3 l4) _
    exact w
  · replace w := w.2 c2
    refine w_i1f (p := 154) (q149 151) rfl (inR_z155 _) c2 ?_
    refine w_aln (p := 155) (q149 154) rfl rfl ?_
    refine w_call (st := []) (as := [.ref 56]) (as' := [.ref 56]) (p := 158) (q149 155) rfl m161 (by decide) (a_ok_i rfl (r56 hB) rfl) rfl rfl (Nat.le_of_ble_eq_true rfl) (by omega) rfl rfl (a_W.imp w ?_)
    rintro _ ⟨s5, l6, rfl, w⟩
    refine ⟨none, _, rfl, ?_⟩
    show a_W _ 149 158 [.ref 56, iv x1] [] (mkH B s5 l6) _
    refine w_goto (q149 158) ?_
    exact w
theorem w149_166 {d : Nat} {B : aH} {Q : aR → Prop} (hB : a_Can B) (x1 : Int) (s : Nat → Nat → Int32) (l : Nat → Nat → Int64) (w : Q (.inl none, (mkH B (zu s 56 26 ((zz s 56 26) + 1)) l))) : a_W d 149 166 [.ref 56, iv x1] [] (mkH B s l) Q := by
  refine w_aln (p := 167) (q149 166) rfl rfl ?_
  refine w_dupr (p := 168) (q149 167) rfl ?_
  refine w_gI (p := 171) (j := 26) (v := (zz s 56 26)) (q149 168) rfl (r56 hB) (by decide) (iv_zz s 56 26) ?_
  refine w_ic (p := 172) (q149 171) rfl ?_
  refine w_add (p := 173) (q149 172) rfl ?_
  refine w_pI (p := 176) (j := 26) (q149 173) rfl (r56 hB) (by decide) rfl ?_
  exact w_rv (q149 176) rfl w
theorem w148_0 {d : Nat} {B : aH} {Q : aR → Prop} (hB : a_Can B) (x1 : Int) (s : Nat → Nat → Int32) (l : Nat → Nat → Int64) (w : a_W d 148 7 [.ref 56, iv x1, iv ((zz s 56 31) + x1)] [] (mkH B s l) Q) : a_W d 148 0 [.ref 56, iv x1, .retAddr 0] [] (mkH B s l) Q := by
  refine w_aln (p := 1) (q148 0) rfl rfl ?_
  refine w_gI (p := 4) (j := 31) (v := (zz s 56 31)) (q148 1) rfl (r56 hB) (by decide) (iv_zz s 56 31) ?_
  refine w_iln (p := 5) (q148 4) rfl rfl ?_
  refine w_add (p := 6) (q148 5) rfl ?_
  refine w_isn (p := 7) (ls' := [.ref 56, iv x1, iv ((zz s 56 31) + x1)]) (q148 6) rfl (Nat.le_of_ble_eq_true rfl) rfl ?_
  exact w
theorem w148_7 {d : Nat} {B : aH} {Q : aR → Prop} (hB : a_Can B) (hd : 1 ≤ d) (x1 x2 : Int) (s : Nat → Nat → Int32) (l : Nat → Nat → Int64) (w : (inR x2 ∧ ((x2 < (zz s 56 26) → (((zz s 56 22) ≤ 0 → ((0 ≤ x2 ∧ x2 < 6002) ∧ Q (.inl (some (iv (zz s 71 x2.toNat))), (mkH B s l)))) ∧ (0 < (zz s 56 22) → Q (.inl (some (iv 0)), (mkH B s l))))) ∧ ((zz s 56 26) ≤ x2 → (((zz s 56 22) ≠ 0 → (((zz s 56 22) ≤ 0 → ((0 ≤ x2 ∧ x2 < 6002) ∧ Q (.inl (some (iv (zz s 71 x2.toNat))), (mkH B s l)))) ∧ (0 < (zz s 56 22) → Q (.inl (some (iv 0)), (mkH B s l))))) ∧ ((zz s 56 22) = 0 → a_W (d - 1) 149 0 [.ref 56, .retAddr 0] [] (mkH B s l) (fun r => ∃ (s8 : Nat → Nat → Int32) (l9 : Nat → Nat → Int64), r = (.inl none, mkH B s8 l9) ∧ a_W d 148 7 [.ref 56, iv x1, iv x2] [] (mkH B s8 l9) Q))))))) : a_W d 148 7 [.ref 56, iv x1, iv x2] [] (mkH B s l) Q := by
  refine w_aln (p := 8) (q148 7) rfl rfl ?_
  refine w_gI (p := 11) (j := 26) (v := (zz s 56 26)) (q148 8) rfl (r56 hB) (by decide) (iv_zz s 56 26) ?_
  refine w_iln (p := 12) (q148 11) rfl rfl ?_
  obtain ⟨h1, w⟩ := w
  by_cases c2 : x2 < (zz s 56 26)
  · replace w := w.1 c2
    refine w_i2t (q148 12) (inR_zz _ _ _) h1 c2 ?_
    refine w_aln (p := 30) (q148 29) rfl rfl ?_
    refine w_gI (p := 33) (j := 22) (v := (zz s 56 22)) (q148 30) rfl (r56 hB) (by decide) (iv_zz s 56 22) ?_
    by_cases c3 : (zz s 56 22) ≤ 0
    · replace w := w.1 c3
      refine w_i1t (q148 33) (inR_zz _ _ _) c3 ?_
      refine w_aln (p := 41) (q148 40) rfl rfl ?_
      refine w_gR (p := 44) (j := 27) (v := 71) (q148 41) rfl (r56 hB) (by decide) (f56_27 hB) ?_
      refine w_iln (p := 45) (q148 44) rfl rfl ?_
      obtain ⟨o4, w⟩ := w
      refine w_ia (p := 46) (v := (zz s 71 x2.toNat)) (q148 45) rfl (r71 hB) (by decide) o4 (iv_zz s 71 x2.toNat) ?_
      exact w_ret (q148 46) rfl w
    · replace w := w.2 (Int.not_le.mp c3)
      refine w_i1f (p := 36) (q148 33) rfl (inR_zz _ _ _) c3 ?_
      refine w_ic (p := 37) (q148 36) rfl ?_
      refine w_goto (q148 37) ?_
      exact w_ret (q148 46) rfl w
  · replace w := w.2 (Int.not_lt.mp c2)
    refine w_i2f (p := 15) (q148 12) rfl (inR_zz _ _ _) h1 c2 ?_
    refine w_aln (p := 16) (q148 15) rfl rfl ?_
    refine w_gI (p := 19) (j := 22) (v := (zz s 56 22)) (q148 16) rfl (r56 hB) (by decide) (iv_zz s 56 22) ?_
    by_cases c5 : (zz s 56 22) ≠ 0
    · replace w := w.1 c5
      refine w_i1t (q148 19) (inR_zz _ _ _) c5 ?_
      refine w_aln (p := 30) (q148 29) rfl rfl ?_
      refine w_gI (p := 33) (j := 22) (v := (zz s 56 22)) (q148 30) rfl (r56 hB) (by decide) (iv_zz s 56 22) ?_
      by_cases c6 : (zz s 56 22) ≤ 0
      · replace w := w.1 c6
        refine w_i1t (q148 33) (inR_zz _ _ _) c6 ?_
        refine w_aln (p := 41) (q148 40) rfl rfl ?_
        refine w_gR (p := 44) (j := 27) (v := 71) (q148 41) rfl (r56 hB) (by decide) (f56_27 hB) ?_
        refine w_iln (p := 45) (q148 44) rfl rfl ?_
        obtain ⟨o7, w⟩ := w
        refine w_ia (p := 46) (v := (zz s 71 x2.toNat)) (q148 45) rfl (r71 hB) (by decide) o7 (iv_zz s 71 x2.toNat) ?_
        exact w_ret (q148 46) rfl w
      · replace w := w.2 (Int.not_le.mp c6)
        refine w_i1f (p := 36) (q148 33) rfl (inR_zz _ _ _) c6 ?_
        refine w_ic (p := 37) (q148 36) rfl ?_
        refine w_goto (q148 37) ?_
        exact w_ret (q148 46) rfl w
    · replace w := w.2 (Decidable.not_not.mp c5)
      refine w_i1f (p := 22) (q148 19) rfl (inR_zz _ _ _) c5 ?_
      refine w_aln (p := 23) (q148 22) rfl rfl ?_
      refine w_call (st := []) (as := [.ref 56]) (as' := [.ref 56]) (p := 26) (q148 23) rfl m149 (by decide) (a_ok_i rfl (r56 hB) rfl) rfl rfl (Nat.le_of_ble_eq_true rfl) (by omega) rfl rfl (a_W.imp w ?_)
      rintro _ ⟨s8, l9, rfl, w⟩
      refine ⟨none, _, rfl, ?_⟩
      show a_W _ 148 26 [.ref 56, iv x1, iv x2] [] (mkH B s8 l9) _
      refine w_goto (q148 26) ?_
      exact w
theorem w166_0 {d : Nat} {B : aH} {Q : aR → Prop} (hB : a_Can B) (hd : 1 ≤ d) (x1 : Int) (s : Nat → Nat → Int32) (l : Nat → Nat → Int64) (w : a_W (d - 1) 148 0 [.ref 56, iv 0, .retAddr 0] [] (mkH B s l) (fun r => ∃ (v3 : Int) (s1 : Nat → Nat → Int32) (l2 : Nat → Nat → Int64), r = (.inl (some (iv v3)), mkH B s1 l2) ∧ (inR v3 ∧ inR x1 ∧ ((v3 ≠ x1 → ((0 ≤ (zz s1 56 31) ∧ (zz s1 56 31) < 6002) ∧ (((zz s1 56 22) ≤ 0 → Q (.inl none, (mkH B (zu (zu s1 56 22 2) 56 23 (zz s1 72 (zz s1 56 31).toNat)) l2))) ∧ (0 < (zz s1 56 22) → Q (.inl none, (mkH B s1 l2)))))) ∧ (v3 = x1 → (((zz s1 56 22) ≠ 0 → ((0 ≤ (zz s1 56 31) ∧ (zz s1 56 31) < 6002) ∧ (((zz s1 56 22) ≤ 0 → Q (.inl none, (mkH B (zu (zu s1 56 22 2) 56 23 (zz s1 72 (zz s1 56 31).toNat)) l2))) ∧ (0 < (zz s1 56 22) → Q (.inl none, (mkH B s1 l2)))))) ∧ ((zz s1 56 22) = 0 → Q (.inl none, (mkH B (zu s1 56 31 ((zz s1 56 31) + 1)) l2))))))))) : a_W d 166 0 [.ref 56, iv x1] [] (mkH B s l) Q := by
  refine w_aln (p := 1) (q166 0) rfl rfl ?_
  refine w_ic (p := 2) (q166 1) rfl ?_
  refine w_call (st := []) (as := [.ref 56, iv 0]) (as' := [iv 0, .ref 56]) (p := 5) (q166 2) rfl m148 (by decide) (a_ok_i rfl (r56 hB) rfl) rfl rfl (Nat.le_of_ble_eq_true rfl) (by omega) rfl rfl (a_W.imp w ?_)
  rintro _ ⟨v3, s1, l2, rfl, w⟩
  refine ⟨some (iv v3), _, rfl, ?_⟩
  show a_W _ 166 5 [.ref 56, iv x1] [iv v3] (mkH B s1 l2) _
  refine w_iln (p := 6) (q166 5) rfl rfl ?_
  obtain ⟨h4, w⟩ := w
  obtain ⟨h5, w⟩ := w
  by_cases c6 : v3 ≠ x1
  · replace w := w.1 c6
    refine w_i2t (q166 6) h4 h5 c6 ?_
    refine w_aln (p := 30) (q166 29) rfl rfl ?_
    refine w_ic (p := 31) (q166 30) rfl ?_
    refine w_aln (p := 32) (q166 31) rfl rfl ?_
    refine w_gR (p := 35) (j := 28) (v := 72) (q166 32) rfl (r56 hB) (by decide) (f56_28 hB) ?_
    refine w_aln (p := 36) (q166 35) rfl rfl ?_
    refine w_gI (p := 39) (j := 31) (v := (zz s1 56 31)) (q166 36) rfl (r56 hB) (by decide) (iv_zz s1 56 31) ?_
    obtain ⟨o7, w⟩ := w
    refine w_ia (p := 40) (v := (zz s1 72 (zz s1 56 31).toNat)) (q166 39) rfl (r72 hB) (by decide) o7 (iv_zz s1 72 (zz s1 56 31).toNat) ?_
    refine w_call (st := []) (as := [.ref 56, iv 2, iv (zz s1 72 (zz s1 56 31).toNat)]) (as' := [iv (zz s1 72 (zz s1 56 31).toNat), iv 2, .ref 56]) (p := 43) (q166 40) rfl m152 (by decide) (a_ok_i rfl (r56 hB) rfl) rfl rfl (Nat.le_of_ble_eq_true rfl) (by omega) rfl rfl ?_
    refine w_aln (p := 1) (q152 0) rfl rfl ?_
    refine w_gI (p := 4) (j := 22) (v := (zz s1 56 22)) (q152 1) rfl (r56 hB) (by decide) (iv_zz s1 56 22) ?_
    by_cases c8 : (zz s1 56 22) ≤ 0
    · replace w := w.1 c8
      refine w_i1t (q152 4) (inR_zz _ _ _) c8 ?_
      refine w_aln (p := 9) (q152 8) rfl rfl ?_
      refine w_iln (p := 10) (q152 9) rfl rfl ?_
      refine w_pI (p := 13) (j := 22) (q152 10) rfl (r56 hB) (by decide) rfl ?_
      refine w_aln (p := 14) (q152 13) rfl rfl ?_
      refine w_iln (p := 15) (q152 14) rfl rfl ?_
      refine w_pI (p := 18) (j := 23) (q152 15) rfl (r56 hB) (by decide) rfl ?_
      refine w_rv (q152 18) rfl ⟨_, _, rfl, ?_⟩
      show a_W _ 166 43 [.ref 56, iv x1] [] _ _
      exact w_rv (q166 43) rfl w
    · replace w := w.2 (Int.not_le.mp c8)
      refine w_i1f (p := 7) (q152 4) rfl (inR_zz _ _ _) c8 ?_
      refine w_rv (q152 7) rfl ⟨_, _, rfl, ?_⟩
      show a_W _ 166 43 [.ref 56, iv x1] [] _ _
      exact w_rv (q166 43) rfl w
  · replace w := w.2 (Decidable.not_not.mp c6)
    refine w_i2f (p := 9) (q166 6) rfl h4 h5 c6 ?_
    refine w_aln (p := 10) (q166 9) rfl rfl ?_
    refine w_gI (p := 13) (j := 22) (v := (zz s1 56 22)) (q166 10) rfl (r56 hB) (by decide) (iv_zz s1 56 22) ?_
    by_cases c9 : (zz s1 56 22) ≠ 0
    · replace w := w.1 c9
      refine w_i1t (q166 13) (inR_zz _ _ _) c9 ?_
      refine w_aln (p := 30) (q166 29) rfl rfl ?_
      refine w_ic (p := 31) (q166 30) rfl ?_
      refine w_aln (p := 32) (q166 31) rfl rfl ?_
      refine w_gR (p := 35) (j := 28) (v := 72) (q166 32) rfl (r56 hB) (by decide) (f56_28 hB) ?_
      refine w_aln (p := 36) (q166 35) rfl rfl ?_
      refine w_gI (p := 39) (j := 31) (v := (zz s1 56 31)) (q166 36) rfl (r56 hB) (by decide) (iv_zz s1 56 31) ?_
      obtain ⟨o10, w⟩ := w
      refine w_ia (p := 40) (v := (zz s1 72 (zz s1 56 31).toNat)) (q166 39) rfl (r72 hB) (by decide) o10 (iv_zz s1 72 (zz s1 56 31).toNat) ?_
      refine w_call (st := []) (as := [.ref 56, iv 2, iv (zz s1 72 (zz s1 56 31).toNat)]) (as' := [iv (zz s1 72 (zz s1 56 31).toNat), iv 2, .ref 56]) (p := 43) (q166 40) rfl m152 (by decide) (a_ok_i rfl (r56 hB) rfl) rfl rfl (Nat.le_of_ble_eq_true rfl) (by omega) rfl rfl ?_
      refine w_aln (p := 1) (q152 0) rfl rfl ?_
      refine w_gI (p := 4) (j := 22) (v := (zz s1 56 22)) (q152 1) rfl (r56 hB) (by decide) (iv_zz s1 56 22) ?_
      by_cases c11 : (zz s1 56 22) ≤ 0
      · replace w := w.1 c11
        refine w_i1t (q152 4) (inR_zz _ _ _) c11 ?_
        refine w_aln (p := 9) (q152 8) rfl rfl ?_
        refine w_iln (p := 10) (q152 9) rfl rfl ?_
        refine w_pI (p := 13) (j := 22) (q152 10) rfl (r56 hB) (by decide) rfl ?_
        refine w_aln (p := 14) (q152 13) rfl rfl ?_
        refine w_iln (p := 15) (q152 14) rfl rfl ?_
        refine w_pI (p := 18) (j := 23) (q152 15) rfl (r56 hB) (by decide) rfl ?_
        refine w_rv (q152 18) rfl ⟨_, _, rfl, ?_⟩
        show a_W _ 166 43 [.ref 56, iv x1] [] _ _
        exact w_rv (q166 43) rfl w
      · replace w := w.2 (Int.not_le.mp c11)
        refine w_i1f (p := 7) (q152 4) rfl (inR_zz _ _ _) c11 ?_
        refine w_rv (q152 7) rfl ⟨_, _, rfl, ?_⟩
        show a_W _ 166 43 [.ref 56, iv x1] [] _ _
        exact w_rv (q166 43) rfl w
    · replace w := w.2 (Decidable.not_not.mp c9)
      refine w_i1f (p := 16) (q166 13) rfl (inR_zz _ _ _) c9 ?_
      refine w_aln (p := 17) (q166 16) rfl rfl ?_
      refine w_dupr (p := 18) (q166 17) rfl ?_
      refine w_gI (p := 21) (j := 31) (v := (zz s1 56 31)) (q166 18) rfl (r56 hB) (by decide) (iv_zz s1 56 31) ?_
      refine w_ic (p := 22) (q166 21) rfl ?_
      refine w_add (p := 23) (q166 22) rfl ?_
      refine w_pI (p := 26) (j := 31) (q166 23) rfl (r56 hB) (by decide) rfl ?_
      refine w_goto (q166 26) ?_
      exact w_rv (q166 43) rfl w
theorem w164_0 {d : Nat} {B : aH} {Q : aR → Prop} (hB : a_Can B) (hd : 1 ≤ d) (s : Nat → Nat → Int32) (l : Nat → Nat → Int64) (w : a_W (d - 1) 148 0 [.ref 56, iv 0, .retAddr 0] [] (mkH B (zu s 56 32 ((zz s 56 32) + 1)) l) (fun r => ∃ (v3 : Int) (s1 : Nat → Nat → Int32) (l2 : Nat → Nat → Int64), r = (.inl (some (iv v3)), mkH B s1 l2) ∧ (((zz s1 56 32) ≤ 40 → Q (.inl none, (mkH B s1 l2))) ∧ (40 < (zz s1 56 32) → ((0 ≤ (zz s1 56 31) ∧ (zz s1 56 31) < 6002) ∧ (((zz s1 56 22) ≤ 0 → Q (.inl none, (mkH B (zu (zu s1 56 22 8) 56 23 (zz s1 72 (zz s1 56 31).toNat)) l2))) ∧ (0 < (zz s1 56 22) → Q (.inl none, (mkH B s1 l2))))))))) : a_W d 164 0 [.ref 56] [] (mkH B s l) Q := by
  refine w_aln (p := 1) (q164 0) rfl rfl ?_
  refine w_dupr (p := 2) (q164 1) rfl ?_
  refine w_gI (p := 5) (j := 32) (v := (zz s 56 32)) (q164 2) rfl (r56 hB) (by decide) (iv_zz s 56 32) ?_
  refine w_ic (p := 6) (q164 5) rfl ?_
  refine w_add (p := 7) (q164 6) rfl ?_
  refine w_pI (p := 10) (j := 32) (q164 7) rfl (r56 hB) (by decide) rfl ?_
  refine w_aln (p := 11) (q164 10) rfl rfl ?_
  refine w_ic (p := 12) (q164 11) rfl ?_
  refine w_call (st := []) (as := [.ref 56, iv 0]) (as' := [iv 0, .ref 56]) (p := 15) (q164 12) rfl m148 (by decide) (a_ok_i rfl (r56 hB) rfl) rfl rfl (Nat.le_of_ble_eq_true rfl) (by omega) rfl rfl (a_W.imp w ?_)
  rintro _ ⟨v3, s1, l2, rfl, w⟩
  refine ⟨some (iv v3), _, rfl, ?_⟩
  show a_W _ 164 15 [.ref 56] [iv v3] (mkH B s1 l2) _
  refine w_pop (p := 16) (q164 15) rfl ?_
  refine w_aln (p := 17) (q164 16) rfl rfl ?_
  refine w_gI (p := 20) (j := 32) (v := (zz s1 56 32)) (q164 17) rfl (r56 hB) (by decide) (iv_zz s1 56 32) ?_
  refine w_bp (p := 22) (q164 20) rfl (by decide) ?_
  by_cases c4 : (zz s1 56 32) ≤ 40
  · replace w := w.1 c4
    refine w_i2t (q164 22) (inR_zz _ _ _) (by decide) c4 ?_
    exact w_rv (q164 40) rfl w
  · replace w := w.2 (Int.not_le.mp c4)
    refine w_i2f (p := 25) (q164 22) rfl (inR_zz _ _ _) (by decide) c4 ?_
    refine w_aln (p := 26) (q164 25) rfl rfl ?_
    refine w_bp (p := 28) (q164 26) rfl (by decide) ?_
    refine w_aln (p := 29) (q164 28) rfl rfl ?_
    refine w_gR (p := 32) (j := 28) (v := 72) (q164 29) rfl (r56 hB) (by decide) (f56_28 hB) ?_
    refine w_aln (p := 33) (q164 32) rfl rfl ?_
    refine w_gI (p := 36) (j := 31) (v := (zz s1 56 31)) (q164 33) rfl (r56 hB) (by decide) (iv_zz s1 56 31) ?_
    obtain ⟨o5, w⟩ := w
    refine w_ia (p := 37) (v := (zz s1 72 (zz s1 56 31).toNat)) (q164 36) rfl (r72 hB) (by decide) o5 (iv_zz s1 72 (zz s1 56 31).toNat) ?_
    refine w_call (st := []) (as := [.ref 56, iv 8, iv (zz s1 72 (zz s1 56 31).toNat)]) (as' := [iv (zz s1 72 (zz s1 56 31).toNat), iv 8, .ref 56]) (p := 40) (q164 37) rfl m152 (by decide) (a_ok_i rfl (r56 hB) rfl) rfl rfl (Nat.le_of_ble_eq_true rfl) (by omega) rfl rfl ?_
    refine w_aln (p := 1) (q152 0) rfl rfl ?_
    refine w_gI (p := 4) (j := 22) (v := (zz s1 56 22)) (q152 1) rfl (r56 hB) (by decide) (iv_zz s1 56 22) ?_
    by_cases c6 : (zz s1 56 22) ≤ 0
    · replace w := w.1 c6
      refine w_i1t (q152 4) (inR_zz _ _ _) c6 ?_
      refine w_aln (p := 9) (q152 8) rfl rfl ?_
      refine w_iln (p := 10) (q152 9) rfl rfl ?_
      refine w_pI (p := 13) (j := 22) (q152 10) rfl (r56 hB) (by decide) rfl ?_
      refine w_aln (p := 14) (q152 13) rfl rfl ?_
      refine w_iln (p := 15) (q152 14) rfl rfl ?_
      refine w_pI (p := 18) (j := 23) (q152 15) rfl (r56 hB) (by decide) rfl ?_
      refine w_rv (q152 18) rfl ⟨_, _, rfl, ?_⟩
      show a_W _ 164 40 [.ref 56] [] _ _
      exact w_rv (q164 40) rfl w
    · replace w := w.2 (Int.not_le.mp c6)
      refine w_i1f (p := 7) (q152 4) rfl (inR_zz _ _ _) c6 ?_
      refine w_rv (q152 7) rfl ⟨_, _, rfl, ?_⟩
      show a_W _ 164 40 [.ref 56] [] _ _
      exact w_rv (q164 40) rfl w
theorem w145_0 {d : Nat} {B : aH} {Q : aR → Prop} (hB : a_Can B) (x1 : Int) (s : Nat → Nat → Int32) (l : Nat → Nat → Int64) (w : a_W d 145 60 [.ref 56, iv x1, iv 0] [] (mkH B (zu (zu (zu (zu (zu (zu (zu (zu (zu (zu (zu s 56 24 x1) 56 25 0) 56 26 0) 56 31 0) 56 22 0) 56 23 (-1)) 56 32 0) 56 41 0) 56 33 0) 56 48 0) 56 16 (zz s 56 17)) l) Q) : a_W d 145 0 [.ref 56, iv x1, .retAddr 0] [] (mkH B s l) Q := by
  refine w_aln (p := 1) (q145 0) rfl rfl ?_
  refine w_iln (p := 2) (q145 1) rfl rfl ?_
  refine w_pI (p := 5) (j := 24) (q145 2) rfl (r56 hB) (by decide) rfl ?_
  refine w_aln (p := 6) (q145 5) rfl rfl ?_
  refine w_ic (p := 7) (q145 6) rfl ?_
  refine w_pI (p := 10) (j := 25) (q145 7) rfl (r56 hB) (by decide) rfl ?_
  refine w_aln (p := 11) (q145 10) rfl rfl ?_
  refine w_ic (p := 12) (q145 11) rfl ?_
  refine w_pI (p := 15) (j := 26) (q145 12) rfl (r56 hB) (by decide) rfl ?_
  refine w_aln (p := 16) (q145 15) rfl rfl ?_
  refine w_ic (p := 17) (q145 16) rfl ?_
  refine w_pI (p := 20) (j := 31) (q145 17) rfl (r56 hB) (by decide) rfl ?_
  refine w_aln (p := 21) (q145 20) rfl rfl ?_
  refine w_ic (p := 22) (q145 21) rfl ?_
  refine w_pI (p := 25) (j := 22) (q145 22) rfl (r56 hB) (by decide) rfl ?_
  refine w_aln (p := 26) (q145 25) rfl rfl ?_
  refine w_ic (p := 27) (q145 26) rfl ?_
  refine w_pI (p := 30) (j := 23) (q145 27) rfl (r56 hB) (by decide) rfl ?_
  refine w_aln (p := 31) (q145 30) rfl rfl ?_
  refine w_ic (p := 32) (q145 31) rfl ?_
  refine w_pI (p := 35) (j := 32) (q145 32) rfl (r56 hB) (by decide) rfl ?_
  refine w_aln (p := 36) (q145 35) rfl rfl ?_
  refine w_ic (p := 37) (q145 36) rfl ?_
  refine w_pI (p := 40) (j := 41) (q145 37) rfl (r56 hB) (by decide) rfl ?_
  refine w_aln (p := 41) (q145 40) rfl rfl ?_
  refine w_ic (p := 42) (q145 41) rfl ?_
  refine w_pI (p := 45) (j := 33) (q145 42) rfl (r56 hB) (by decide) rfl ?_
  refine w_aln (p := 46) (q145 45) rfl rfl ?_
  refine w_ic (p := 47) (q145 46) rfl ?_
  refine w_pI (p := 50) (j := 48) (q145 47) rfl (r56 hB) (by decide) rfl ?_
  refine w_aln (p := 51) (q145 50) rfl rfl ?_
  refine w_aln (p := 52) (q145 51) rfl rfl ?_
  refine w_gI (p := 55) (j := 17) (v := (zz s 56 17)) (q145 52) rfl (r56 hB) (by decide) (iv_zz s 56 17) ?_
  refine w_pI (p := 58) (j := 16) (q145 55) rfl (r56 hB) (by decide) rfl ?_
  refine w_ic (p := 59) (q145 58) rfl ?_
  refine w_isn (p := 60) (ls' := [.ref 56, iv x1, iv 0]) (q145 59) rfl (Nat.le_of_ble_eq_true rfl) rfl ?_
  exact w
theorem w145_60 {d : Nat} {B : aH} {Q : aR → Prop} (hB : a_Can B) (x1 x2 : Int) (s : Nat → Nat → Int32) (l : Nat → Nat → Int64) (w : (inR x2 ∧ (((zz s 56 17) ≤ x2 → Q (.inl none, (mkH B s l))) ∧ (x2 < (zz s 56 17) → ((0 ≤ x2 ∧ x2 < 60000) ∧ a_W d 145 60 [.ref 56, iv x1, iv (x2 + 1)] [] (mkH B (zu s 67 x2.toNat (-1)) l) Q))))) : a_W d 145 60 [.ref 56, iv x1, iv x2] [] (mkH B s l) Q := by
  refine w_iln (p := 61) (q145 60) rfl rfl ?_
  refine w_aln (p := 62) (q145 61) rfl rfl ?_
  refine w_gI (p := 65) (j := 17) (v := (zz s 56 17)) (q145 62) rfl (r56 hB) (by decide) (iv_zz s 56 17) ?_
  obtain ⟨h1, w⟩ := w
  by_cases c2 : (zz s 56 17) ≤ x2
  · replace w := w.1 c2
    refine w_i2t (q145 65) h1 (inR_zz _ _ _) c2 ?_
    exact w_rv (q145 81) rfl w
  · replace w := w.2 (Int.not_le.mp c2)
    refine w_i2f (p := 68) (q145 65) rfl h1 (inR_zz _ _ _) c2 ?_
    refine w_aln (p := 69) (q145 68) rfl rfl ?_
    refine w_gR (p := 72) (j := 15) (v := 67) (q145 69) rfl (r56 hB) (by decide) (f56_15 hB) ?_
    refine w_iln (p := 73) (q145 72) rfl rfl ?_
    refine w_ic (p := 74) (q145 73) rfl ?_
    obtain ⟨o3, w⟩ := w
    refine w_ias (p := 75) (q145 74) rfl (r67 hB) (by decide) o3 ?_
    refine w_inc (p := 78) (ls' := [.ref 56, iv x1, iv (x2 + 1)]) (q145 75) rfl rfl rfl ?_
    refine w_goto (q145 78) ?_
    exact w
