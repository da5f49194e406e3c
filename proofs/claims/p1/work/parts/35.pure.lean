/-! printed by wip/am/mk35.py: methods of ints alone -/
theorem sw_f0 {x : Int} : ∀ q ∈ ([] : List (Int × Int)), x ≠ q.1 := fun _ h => absurd h List.not_mem_nil
theorem sw_fm {x : Int} {a : Int × Int} {l : List (Int × Int)} (h : x ≠ a.1) (t : ∀ q ∈ l, x ≠ q.1) : ∀ q ∈ a :: l, x ≠ q.1 := by
  intro q hq
  rcases List.mem_cons.mp hq with rfl | hq
  · exact h
  · exact t q hq
theorem a_lk_none {x d : Int} : ∀ {l : List (Int × Int)}, (∀ q ∈ l, x ≠ q.1) → a_lk l d x = d := by
  intro l
  induction l with
  | nil => intro _; rfl
  | cons a l ih =>
    intro h
    unfold a_lk
    obtain ⟨a1, a2⟩ := a
    rw [Op.lookupswitch.offset_cons, if_neg (fun e => h (a1, a2) List.mem_cons_self e.symm)]
    exact ih (fun q hq => h q (List.mem_cons_of_mem _ hq))
theorem sw_l {x d : Int} {ps : Array (Int × Int)} {pc p a b : Nat} {ls st : List Value} (hx : inR x) (hn : ∀ q ∈ ps.toList, x ≠ q.1) (hp : ((pc : Int) + d).toNat = p) : ∀ g : aH, a_step a_nc false pc (.lookupswitch d ps) a b ls (.int (Int32.ofInt x) :: st) g = some (.inl (p, ls, st, g)) := by
  intro g
  show some (Sum.inl (((pc : Int) + a_lk ps.toList d (Int32.ofInt x).toInt).toNat, ls, st, g)) = _
  rw [toI hx, a_lk_none hn, hp]
theorem sw_t {x d lo hi : Int} {os : Array Int} {pc p a b : Nat} {ls st : List Value} (hx : inR x) (hn : x < lo ∨ hi < x) (hp : ((pc : Int) + d).toNat = p) : ∀ g : aH, a_step a_nc false pc (.tableswitch d lo hi os) a b ls (.int (Int32.ofInt x) :: st) g = some (.inl (p, ls, st, g)) := by
  intro g
  show (if (Int32.ofInt x).toInt < lo ∨ hi < (Int32.ofInt x).toInt then some (Sum.inl (((pc : Int) + d).toNat, ls, st, g)) else _) = _
  rw [toI hx, if_pos hn, hp]
-- TypedTermReader$Text.isBlank
theorem w27_0 {d : Nat} {B : aH} {Q : aR → Prop} (hB : a_Can B) (x0 : Int) (s : Nat → Nat → Int32) (l : Nat → Nat → Int64) (w : (inR x0 ∧ ((x0 = 32 → Q (.inl (some (iv 1)), (mkH B s l))) ∧ (x0 ≠ 32 → ((x0 = 9 → Q (.inl (some (iv 1)), (mkH B s l))) ∧ (x0 ≠ 9 → ((x0 = 10 → Q (.inl (some (iv 1)), (mkH B s l))) ∧ (x0 ≠ 10 → ((x0 ≠ 13 → Q (.inl (some (iv 0)), (mkH B s l))) ∧ (x0 = 13 → Q (.inl (some (iv 1)), (mkH B s l)))))))))))) : a_W d 27 0 [iv x0] [] (mkH B s l) Q := by
  refine w_iln (p := 1) (q27 0) rfl rfl ?_
  refine w_bp (p := 3) (q27 1) rfl (by decide) ?_
  obtain ⟨h1, w⟩ := w
  by_cases c2 : x0 = 32
  · replace w := w.1 c2
    refine w_i2t (q27 3) h1 (by decide) c2 ?_
    refine w_ic (p := 25) (q27 24) rfl ?_
    refine w_goto (q27 25) ?_
    exact w_ret (q27 29) rfl w
  · replace w := w.2 c2
    refine w_i2f (p := 6) (q27 3) rfl h1 (by decide) c2 ?_
    refine w_iln (p := 7) (q27 6) rfl rfl ?_
    refine w_bp (p := 9) (q27 7) rfl (by decide) ?_
    by_cases c3 : x0 = 9
    · replace w := w.1 c3
      refine w_i2t (q27 9) h1 (by decide) c3 ?_
      refine w_ic (p := 25) (q27 24) rfl ?_
      refine w_goto (q27 25) ?_
      exact w_ret (q27 29) rfl w
    · replace w := w.2 c3
      refine w_i2f (p := 12) (q27 9) rfl h1 (by decide) c3 ?_
      refine w_iln (p := 13) (q27 12) rfl rfl ?_
      refine w_bp (p := 15) (q27 13) rfl (by decide) ?_
      by_cases c4 : x0 = 10
      · replace w := w.1 c4
        refine w_i2t (q27 15) h1 (by decide) c4 ?_
        refine w_ic (p := 25) (q27 24) rfl ?_
        refine w_goto (q27 25) ?_
        exact w_ret (q27 29) rfl w
      · replace w := w.2 c4
        refine w_i2f (p := 18) (q27 15) rfl h1 (by decide) c4 ?_
        refine w_iln (p := 19) (q27 18) rfl rfl ?_
        refine w_bp (p := 21) (q27 19) rfl (by decide) ?_
        by_cases c5 : x0 ≠ 13
        · replace w := w.1 c5
          refine w_i2t (q27 21) h1 (by decide) c5 ?_
          refine w_ic (p := 29) (q27 28) rfl ?_
          exact w_ret (q27 29) rfl w
        · replace w := w.2 (Decidable.not_not.mp c5)
          refine w_i2f (p := 24) (q27 21) rfl h1 (by decide) c5 ?_
          refine w_ic (p := 25) (q27 24) rfl ?_
          refine w_goto (q27 25) ?_
          exact w_ret (q27 29) rfl w
def z27 (x0 : Int) : Int := if x0 = 32 ∨ x0 = 9 ∨ x0 = 10 ∨ x0 = 13 then 1 else 0
theorem p27 {d : Nat} {B : aH} (hB : a_Can B) (x0 : Int) (s : Nat → Nat → Int32) (l : Nat → Nat → Int64) (hx0 : inR x0) : a_W d 27 0 [iv x0] [] (mkH B s l) (fun r => r = (.inl (some (iv (z27 x0))), mkH B s l)) := by
  refine w27_0 hB x0 s l ?_
  have fin : ∀ v, v = z27 x0 → ((Sum.inl (some (iv v)), mkH B s l) : aR) = (.inl (some (iv (z27 x0))), mkH B s l) := fun v hv => by rw [hv]
  repeat' first | assumption | (refine And.intro ?_ ?_) | intro _ | exact hx0 | (refine fin _ ?_)
  all_goals (unfold z27; omega)
theorem inR_z27 (x0 : Int) : inR (z27 x0) := by constructor <;> (unfold z27; omega)
theorem b_z27 (x0 : Int) : z27 x0 = 0 ∨ z27 x0 = 1 := by unfold z27; split <;> simp
-- TypedTermReader$Text.isLetter
theorem w31_0 {d : Nat} {B : aH} {Q : aR → Prop} (hB : a_Can B) (x0 : Int) (s : Nat → Nat → Int32) (l : Nat → Nat → Int64) (w : (inR x0 ∧ ((x0 < 97 → ((x0 < 65 → Q (.inl (some (iv 0)), (mkH B s l))) ∧ (65 ≤ x0 → ((x0 ≤ 90 → Q (.inl (some (iv 1)), (mkH B s l))) ∧ (90 < x0 → ((x0 ≠ 95 → Q (.inl (some (iv 0)), (mkH B s l))) ∧ (x0 = 95 → Q (.inl (some (iv 1)), (mkH B s l))))))))) ∧ (97 ≤ x0 → ((x0 ≤ 122 → Q (.inl (some (iv 1)), (mkH B s l))) ∧ (122 < x0 → Q (.inl (some (iv 0)), (mkH B s l)))))))) : a_W d 31 0 [iv x0] [] (mkH B s l) Q := by
  refine w_iln (p := 1) (q31 0) rfl rfl ?_
  refine w_bp (p := 3) (q31 1) rfl (by decide) ?_
  obtain ⟨h1, w⟩ := w
  by_cases c2 : x0 < 97
  · replace w := w.1 c2
    refine w_i2t (q31 3) h1 (by decide) c2 ?_
    refine w_iln (p := 13) (q31 12) rfl rfl ?_
    refine w_bp (p := 15) (q31 13) rfl (by decide) ?_
    by_cases c3 : x0 < 65
    · replace w := w.1 c3
      refine w_i2t (q31 15) h1 (by decide) c3 ?_
      refine w_iln (p := 25) (q31 24) rfl rfl ?_
      refine w_bp (p := 27) (q31 25) rfl (by decide) ?_
      refine w_i2t (q31 27) h1 (by decide) (show zc _ _ _ by unfold zc; omega) ?_
      refine w_ic (p := 35) (q31 34) rfl ?_
      exact w_ret (q31 35) rfl w
    · replace w := w.2 (Int.not_lt.mp c3)
      refine w_i2f (p := 18) (q31 15) rfl h1 (by decide) c3 ?_
      refine w_iln (p := 19) (q31 18) rfl rfl ?_
      refine w_bp (p := 21) (q31 19) rfl (by decide) ?_
      by_cases c4 : x0 ≤ 90
      · replace w := w.1 c4
        refine w_i2t (q31 21) h1 (by decide) c4 ?_
        refine w_ic (p := 31) (q31 30) rfl ?_
        refine w_goto (q31 31) ?_
        exact w_ret (q31 35) rfl w
      · replace w := w.2 (Int.not_le.mp c4)
        refine w_i2f (p := 24) (q31 21) rfl h1 (by decide) c4 ?_
        refine w_iln (p := 25) (q31 24) rfl rfl ?_
        refine w_bp (p := 27) (q31 25) rfl (by decide) ?_
        by_cases c5 : x0 ≠ 95
        · replace w := w.1 c5
          refine w_i2t (q31 27) h1 (by decide) c5 ?_
          refine w_ic (p := 35) (q31 34) rfl ?_
          exact w_ret (q31 35) rfl w
        · replace w := w.2 (Decidable.not_not.mp c5)
          refine w_i2f (p := 30) (q31 27) rfl h1 (by decide) c5 ?_
          refine w_ic (p := 31) (q31 30) rfl ?_
          refine w_goto (q31 31) ?_
          exact w_ret (q31 35) rfl w
  · replace w := w.2 (Int.not_lt.mp c2)
    refine w_i2f (p := 6) (q31 3) rfl h1 (by decide) c2 ?_
    refine w_iln (p := 7) (q31 6) rfl rfl ?_
    refine w_bp (p := 9) (q31 7) rfl (by decide) ?_
    by_cases c6 : x0 ≤ 122
    · replace w := w.1 c6
      refine w_i2t (q31 9) h1 (by decide) c6 ?_
      refine w_ic (p := 31) (q31 30) rfl ?_
      refine w_goto (q31 31) ?_
      exact w_ret (q31 35) rfl w
    · replace w := w.2 (Int.not_le.mp c6)
      refine w_i2f (p := 12) (q31 9) rfl h1 (by decide) c6 ?_
      refine w_iln (p := 13) (q31 12) rfl rfl ?_
      refine w_bp (p := 15) (q31 13) rfl (by decide) ?_
      refine w_i2f (p := 18) (q31 15) rfl h1 (by decide) (show ¬ zc _ _ _ by unfold zc; omega) ?_
      refine w_iln (p := 19) (q31 18) rfl rfl ?_
      refine w_bp (p := 21) (q31 19) rfl (by decide) ?_
      refine w_i2f (p := 24) (q31 21) rfl h1 (by decide) (show ¬ zc _ _ _ by unfold zc; omega) ?_
      refine w_iln (p := 25) (q31 24) rfl rfl ?_
      refine w_bp (p := 27) (q31 25) rfl (by decide) ?_
      refine w_i2t (q31 27) h1 (by decide) (show zc _ _ _ by unfold zc; omega) ?_
      refine w_ic (p := 35) (q31 34) rfl ?_
      exact w_ret (q31 35) rfl w
def z31 (x0 : Int) : Int := if (97 ≤ x0 ∧ x0 ≤ 122) ∨ (65 ≤ x0 ∧ x0 ≤ 90) ∨ x0 = 95 then 1 else 0
theorem p31 {d : Nat} {B : aH} (hB : a_Can B) (x0 : Int) (s : Nat → Nat → Int32) (l : Nat → Nat → Int64) (hx0 : inR x0) : a_W d 31 0 [iv x0] [] (mkH B s l) (fun r => r = (.inl (some (iv (z31 x0))), mkH B s l)) := by
  refine w31_0 hB x0 s l ?_
  have fin : ∀ v, v = z31 x0 → ((Sum.inl (some (iv v)), mkH B s l) : aR) = (.inl (some (iv (z31 x0))), mkH B s l) := fun v hv => by rw [hv]
  repeat' first | assumption | (refine And.intro ?_ ?_) | intro _ | exact hx0 | (refine fin _ ?_)
  all_goals (unfold z31; omega)
theorem inR_z31 (x0 : Int) : inR (z31 x0) := by constructor <;> (unfold z31; omega)
theorem b_z31 (x0 : Int) : z31 x0 = 0 ∨ z31 x0 = 1 := by unfold z31; split <;> simp
-- TypedTermReader$Text.isDigit
theorem w34_0 {d : Nat} {B : aH} {Q : aR → Prop} (hB : a_Can B) (x0 : Int) (s : Nat → Nat → Int32) (l : Nat → Nat → Int64) (w : (inR x0 ∧ ((x0 < 48 → Q (.inl (some (iv 0)), (mkH B s l))) ∧ (48 ≤ x0 → ((57 < x0 → Q (.inl (some (iv 0)), (mkH B s l))) ∧ (x0 ≤ 57 → Q (.inl (some (iv 1)), (mkH B s l)))))))) : a_W d 34 0 [iv x0] [] (mkH B s l) Q := by
  refine w_iln (p := 1) (q34 0) rfl rfl ?_
  refine w_bp (p := 3) (q34 1) rfl (by decide) ?_
  obtain ⟨h1, w⟩ := w
  by_cases c2 : x0 < 48
  · replace w := w.1 c2
    refine w_i2t (q34 3) h1 (by decide) c2 ?_
    refine w_ic (p := 17) (q34 16) rfl ?_
    exact w_ret (q34 17) rfl w
  · replace w := w.2 (Int.not_lt.mp c2)
    refine w_i2f (p := 6) (q34 3) rfl h1 (by decide) c2 ?_
    refine w_iln (p := 7) (q34 6) rfl rfl ?_
    refine w_bp (p := 9) (q34 7) rfl (by decide) ?_
    by_cases c3 : 57 < x0
    · replace w := w.1 c3
      refine w_i2t (q34 9) h1 (by decide) c3 ?_
      refine w_ic (p := 17) (q34 16) rfl ?_
      exact w_ret (q34 17) rfl w
    · replace w := w.2 (Int.not_lt.mp c3)
      refine w_i2f (p := 12) (q34 9) rfl h1 (by decide) c3 ?_
      refine w_ic (p := 13) (q34 12) rfl ?_
      refine w_goto (q34 13) ?_
      exact w_ret (q34 17) rfl w
def z34 (x0 : Int) : Int := if 48 ≤ x0 ∧ x0 ≤ 57 then 1 else 0
theorem p34 {d : Nat} {B : aH} (hB : a_Can B) (x0 : Int) (s : Nat → Nat → Int32) (l : Nat → Nat → Int64) (hx0 : inR x0) : a_W d 34 0 [iv x0] [] (mkH B s l) (fun r => r = (.inl (some (iv (z34 x0))), mkH B s l)) := by
  refine w34_0 hB x0 s l ?_
  have fin : ∀ v, v = z34 x0 → ((Sum.inl (some (iv v)), mkH B s l) : aR) = (.inl (some (iv (z34 x0))), mkH B s l) := fun v hv => by rw [hv]
  repeat' first | assumption | (refine And.intro ?_ ?_) | intro _ | exact hx0 | (refine fin _ ?_)
  all_goals (unfold z34; omega)
theorem inR_z34 (x0 : Int) : inR (z34 x0) := by constructor <;> (unfold z34; omega)
theorem b_z34 (x0 : Int) : z34 x0 = 0 ∨ z34 x0 = 1 := by unfold z34; split <;> simp
-- TypedTermReader$Text.kindOfThree
theorem w43_0 {d : Nat} {B : aH} {Q : aR → Prop} (hB : a_Can B) (x0 x1 x2 : Int) (s : Nat → Nat → Int32) (l : Nat → Nat → Int64) (w : (inR x1 ∧ ((x1 ≠ 61 → Q (.inl (some (iv (-1))), (mkH B s l))) ∧ (x1 = 61 → (inR x2 ∧ ((x2 = 62 → (inR x0 ∧ ((x0 ≠ 61 → ((x0 ≠ 60 → Q (.inl (some (iv (-1))), (mkH B s l))) ∧ (x0 = 60 → Q (.inl (some (iv 14)), (mkH B s l))))) ∧ (x0 = 61 → Q (.inl (some (iv 15)), (mkH B s l)))))) ∧ (x2 ≠ 62 → Q (.inl (some (iv (-1))), (mkH B s l))))))))) : a_W d 43 0 [iv x0, iv x1, iv x2] [] (mkH B s l) Q := by
  refine w_iln (p := 1) (q43 0) rfl rfl ?_
  refine w_bp (p := 3) (q43 1) rfl (by decide) ?_
  obtain ⟨h1, w⟩ := w
  by_cases c2 : x1 ≠ 61
  · replace w := w.1 c2
    refine w_i2t (q43 3) h1 (by decide) c2 ?_
    refine w_ic (p := 13) (q43 12) rfl ?_
    exact w_ret (q43 13) rfl w
  · replace w := w.2 (Decidable.not_not.mp c2)
    refine w_i2f (p := 6) (q43 3) rfl h1 (by decide) c2 ?_
    refine w_iln (p := 7) (q43 6) rfl rfl ?_
    refine w_bp (p := 9) (q43 7) rfl (by decide) ?_
    obtain ⟨h3, w⟩ := w
    by_cases c4 : x2 = 62
    · replace w := w.1 c4
      refine w_i2t (q43 9) h3 (by decide) c4 ?_
      refine w_iln (p := 15) (q43 14) rfl rfl ?_
      refine w_bp (p := 17) (q43 15) rfl (by decide) ?_
      obtain ⟨h5, w⟩ := w
      by_cases c6 : x0 ≠ 61
      · replace w := w.1 c6
        refine w_i2t (q43 17) h5 (by decide) c6 ?_
        refine w_iln (p := 26) (q43 25) rfl rfl ?_
        refine w_bp (p := 28) (q43 26) rfl (by decide) ?_
        by_cases c7 : x0 ≠ 60
        · replace w := w.1 c7
          refine w_i2t (q43 28) h5 (by decide) c7 ?_
          refine w_ic (p := 37) (q43 36) rfl ?_
          exact w_ret (q43 37) rfl w
        · replace w := w.2 (Decidable.not_not.mp c7)
          refine w_i2f (p := 31) (q43 28) rfl h5 (by decide) c7 ?_
          refine w_bp (p := 33) (q43 31) rfl (by decide) ?_
          refine w_goto (q43 33) ?_
          exact w_ret (q43 37) rfl w
      · replace w := w.2 (Decidable.not_not.mp c6)
        refine w_i2f (p := 20) (q43 17) rfl h5 (by decide) c6 ?_
        refine w_bp (p := 22) (q43 20) rfl (by decide) ?_
        refine w_goto (q43 22) ?_
        exact w_ret (q43 37) rfl w
    · replace w := w.2 c4
      refine w_i2f (p := 12) (q43 9) rfl h3 (by decide) c4 ?_
      refine w_ic (p := 13) (q43 12) rfl ?_
      exact w_ret (q43 13) rfl w
def z43 (x0 x1 x2 : Int) : Int := if x1 = 61 ∧ x2 = 62 ∧ x0 = 61 then 15 else if x1 = 61 ∧ x2 = 62 ∧ x0 = 60 then 14 else (-1)
theorem p43 {d : Nat} {B : aH} (hB : a_Can B) (x0 x1 x2 : Int) (s : Nat → Nat → Int32) (l : Nat → Nat → Int64) (hx0 : inR x0) (hx1 : inR x1) (hx2 : inR x2) : a_W d 43 0 [iv x0, iv x1, iv x2] [] (mkH B s l) (fun r => r = (.inl (some (iv (z43 x0 x1 x2))), mkH B s l)) := by
  refine w43_0 hB x0 x1 x2 s l ?_
  have fin : ∀ v, v = z43 x0 x1 x2 → ((Sum.inl (some (iv v)), mkH B s l) : aR) = (.inl (some (iv (z43 x0 x1 x2))), mkH B s l) := fun v hv => by rw [hv]
  repeat' first | assumption | (refine And.intro ?_ ?_) | intro _ | exact hx0 | exact hx1 | exact hx2 | (refine fin _ ?_)
  all_goals (unfold z43; omega)
theorem inR_z43 (x0 x1 x2 : Int) : inR (z43 x0 x1 x2) := by constructor <;> (unfold z43; omega)
-- TypedTermReader$Text.kindOfTwo
theorem w44_0 {d : Nat} {B : aH} {Q : aR → Prop} (hB : a_Can B) (x0 x1 : Int) (s : Nat → Nat → Int32) (l : Nat → Nat → Int64) (w : (inR x0 ∧ ((x0 = 45 → (inR x1 ∧ ((x1 ≠ 62 → Q (.inl (some (iv (-1))), (mkH B s l))) ∧ (x1 = 62 → Q (.inl (some (iv 8)), (mkH B s l)))))) ∧ (x0 = 47 → (inR x1 ∧ ((x1 ≠ 92 → Q (.inl (some (iv (-1))), (mkH B s l))) ∧ (x1 = 92 → Q (.inl (some (iv 17)), (mkH B s l)))))) ∧ (x0 = 58 → (inR x1 ∧ ((x1 ≠ 61 → Q (.inl (some (iv (-1))), (mkH B s l))) ∧ (x1 = 61 → Q (.inl (some (iv 23)), (mkH B s l)))))) ∧ (x0 = 60 → (inR x1 ∧ ((x1 ≠ 61 → ((x1 ≠ 45 → Q (.inl (some (iv (-1))), (mkH B s l))) ∧ (x1 = 45 → Q (.inl (some (iv 23)), (mkH B s l))))) ∧ (x1 = 61 → Q (.inl (some (iv 20)), (mkH B s l)))))) ∧ (x0 = 92 → (inR x1 ∧ ((x1 ≠ 47 → Q (.inl (some (iv (-1))), (mkH B s l))) ∧ (x1 = 47 → Q (.inl (some (iv 16)), (mkH B s l)))))) ∧ (x0 ≠ 45 ∧ x0 ≠ 47 ∧ x0 ≠ 58 ∧ x0 ≠ 60 ∧ x0 ≠ 92 → Q (.inl (some (iv (-1))), (mkH B s l)))))) : a_W d 44 0 [iv x0, iv x1] [] (mkH B s l) Q := by
  refine w_iln (p := 1) (q44 0) rfl rfl ?_
  obtain ⟨h1, w⟩ := w
  by_cases c2 : x0 = 45
  · replace w := w.1 c2
    refine w_sw (p := 76) (q44 1) h1 (by intro g; rw [c2]; rfl) ?_
    refine w_iln (p := 77) (q44 76) rfl rfl ?_
    refine w_bp (p := 79) (q44 77) rfl (by decide) ?_
    obtain ⟨h3, w⟩ := w
    by_cases c4 : x1 ≠ 62
    · replace w := w.1 c4
      refine w_i2t (q44 79) h3 (by decide) c4 ?_
      refine w_ic (p := 88) (q44 87) rfl ?_
      exact w_ret (q44 88) rfl w
    · replace w := w.2 (Decidable.not_not.mp c4)
      refine w_i2f (p := 82) (q44 79) rfl h3 (by decide) c4 ?_
      refine w_bp (p := 84) (q44 82) rfl (by decide) ?_
      refine w_goto (q44 84) ?_
      exact w_ret (q44 88) rfl w
  by_cases c5 : x0 = 47
  · replace w := w.2.1 c5
    refine w_sw (p := 89) (q44 1) h1 (by intro g; rw [c5]; rfl) ?_
    refine w_iln (p := 90) (q44 89) rfl rfl ?_
    refine w_bp (p := 92) (q44 90) rfl (by decide) ?_
    obtain ⟨h6, w⟩ := w
    by_cases c7 : x1 ≠ 92
    · replace w := w.1 c7
      refine w_i2t (q44 92) h6 (by decide) c7 ?_
      refine w_ic (p := 101) (q44 100) rfl ?_
      exact w_ret (q44 101) rfl w
    · replace w := w.2 (Decidable.not_not.mp c7)
      refine w_i2f (p := 95) (q44 92) rfl h6 (by decide) c7 ?_
      refine w_bp (p := 97) (q44 95) rfl (by decide) ?_
      refine w_goto (q44 97) ?_
      exact w_ret (q44 101) rfl w
  by_cases c8 : x0 = 58
  · replace w := w.2.2.1 c8
    refine w_sw (p := 115) (q44 1) h1 (by intro g; rw [c8]; rfl) ?_
    refine w_iln (p := 116) (q44 115) rfl rfl ?_
    refine w_bp (p := 118) (q44 116) rfl (by decide) ?_
    obtain ⟨h9, w⟩ := w
    by_cases c10 : x1 ≠ 61
    · replace w := w.1 c10
      refine w_i2t (q44 118) h9 (by decide) c10 ?_
      refine w_ic (p := 127) (q44 126) rfl ?_
      exact w_ret (q44 127) rfl w
    · replace w := w.2 (Decidable.not_not.mp c10)
      refine w_i2f (p := 121) (q44 118) rfl h9 (by decide) c10 ?_
      refine w_bp (p := 123) (q44 121) rfl (by decide) ?_
      refine w_goto (q44 123) ?_
      exact w_ret (q44 127) rfl w
  by_cases c11 : x0 = 60
  · replace w := w.2.2.2.1 c11
    refine w_sw (p := 52) (q44 1) h1 (by intro g; rw [c11]; rfl) ?_
    refine w_iln (p := 53) (q44 52) rfl rfl ?_
    refine w_bp (p := 55) (q44 53) rfl (by decide) ?_
    obtain ⟨h12, w⟩ := w
    by_cases c13 : x1 ≠ 61
    · replace w := w.1 c13
      refine w_i2t (q44 55) h12 (by decide) c13 ?_
      refine w_iln (p := 64) (q44 63) rfl rfl ?_
      refine w_bp (p := 66) (q44 64) rfl (by decide) ?_
      by_cases c14 : x1 ≠ 45
      · replace w := w.1 c14
        refine w_i2t (q44 66) h12 (by decide) c14 ?_
        refine w_ic (p := 75) (q44 74) rfl ?_
        exact w_ret (q44 75) rfl w
      · replace w := w.2 (Decidable.not_not.mp c14)
        refine w_i2f (p := 69) (q44 66) rfl h12 (by decide) c14 ?_
        refine w_bp (p := 71) (q44 69) rfl (by decide) ?_
        refine w_goto (q44 71) ?_
        exact w_ret (q44 75) rfl w
    · replace w := w.2 (Decidable.not_not.mp c13)
      refine w_i2f (p := 58) (q44 55) rfl h12 (by decide) c13 ?_
      refine w_bp (p := 60) (q44 58) rfl (by decide) ?_
      refine w_goto (q44 60) ?_
      exact w_ret (q44 75) rfl w
  by_cases c15 : x0 = 92
  · replace w := w.2.2.2.2.1 c15
    refine w_sw (p := 102) (q44 1) h1 (by intro g; rw [c15]; rfl) ?_
    refine w_iln (p := 103) (q44 102) rfl rfl ?_
    refine w_bp (p := 105) (q44 103) rfl (by decide) ?_
    obtain ⟨h16, w⟩ := w
    by_cases c17 : x1 ≠ 47
    · replace w := w.1 c17
      refine w_i2t (q44 105) h16 (by decide) c17 ?_
      refine w_ic (p := 114) (q44 113) rfl ?_
      exact w_ret (q44 114) rfl w
    · replace w := w.2 (Decidable.not_not.mp c17)
      refine w_i2f (p := 108) (q44 105) rfl h16 (by decide) c17 ?_
      refine w_bp (p := 110) (q44 108) rfl (by decide) ?_
      refine w_goto (q44 110) ?_
      exact w_ret (q44 114) rfl w
  replace w := w.2.2.2.2.2 ⟨c2, c5, c8, c11, c15⟩
  refine w_sw (p := 128) (q44 1) h1 (sw_l h1 (sw_fm c2 (sw_fm c5 (sw_fm c8 (sw_fm c11 (sw_fm c15 sw_f0))))) rfl) ?_
  refine w_ic (p := 129) (q44 128) rfl ?_
  exact w_ret (q44 129) rfl w
def z44 (x0 x1 : Int) : Int := if x0 = 60 ∧ x1 = 61 then 20 else if x0 = 60 ∧ x1 = 45 then 23 else if x0 = 45 ∧ x1 = 62 then 8 else if x0 = 47 ∧ x1 = 92 then 17 else if x0 = 92 ∧ x1 = 47 then 16 else if x0 = 58 ∧ x1 = 61 then 23 else (-1)
theorem p44 {d : Nat} {B : aH} (hB : a_Can B) (x0 x1 : Int) (s : Nat → Nat → Int32) (l : Nat → Nat → Int64) (hx0 : inR x0) (hx1 : inR x1) : a_W d 44 0 [iv x0, iv x1] [] (mkH B s l) (fun r => r = (.inl (some (iv (z44 x0 x1))), mkH B s l)) := by
  refine w44_0 hB x0 x1 s l ?_
  have fin : ∀ v, v = z44 x0 x1 → ((Sum.inl (some (iv v)), mkH B s l) : aR) = (.inl (some (iv (z44 x0 x1))), mkH B s l) := fun v hv => by rw [hv]
  repeat' first | assumption | (refine And.intro ?_ ?_) | intro _ | exact hx0 | exact hx1 | (refine fin _ ?_)
  all_goals (unfold z44; omega)
theorem inR_z44 (x0 x1 : Int) : inR (z44 x0 x1) := by constructor <;> (unfold z44; omega)
-- TypedTermReader$Text.kindOfOne
theorem w45_0 {d : Nat} {B : aH} {Q : aR → Prop} (hB : a_Can B) (x0 : Int) (s : Nat → Nat → Int32) (l : Nat → Nat → Int64) (w : (inR x0 ∧ ((x0 = 33 → Q (.inl (some (iv 10)), (mkH B s l))) ∧ (x0 = 40 → Q (.inl (some (iv 4)), (mkH B s l))) ∧ (x0 = 41 → Q (.inl (some (iv 5)), (mkH B s l))) ∧ (x0 = 42 → Q (.inl (some (iv 22)), (mkH B s l))) ∧ (x0 = 43 → Q (.inl (some (iv 21)), (mkH B s l))) ∧ (x0 = 44 → Q (.inl (some (iv 23)), (mkH B s l))) ∧ (x0 = 46 → Q (.inl (some (iv 7)), (mkH B s l))) ∧ (x0 = 58 → Q (.inl (some (iv 6)), (mkH B s l))) ∧ (x0 = 59 → Q (.inl (some (iv 23)), (mkH B s l))) ∧ (x0 = 60 → Q (.inl (some (iv 19)), (mkH B s l))) ∧ (x0 = 61 → Q (.inl (some (iv 18)), (mkH B s l))) ∧ (x0 = 63 → Q (.inl (some (iv 11)), (mkH B s l))) ∧ (x0 = 64 → Q (.inl (some (iv 12)), (mkH B s l))) ∧ (x0 = 91 → Q (.inl (some (iv 23)), (mkH B s l))) ∧ (x0 = 92 → Q (.inl (some (iv 9)), (mkH B s l))) ∧ (x0 = 93 → Q (.inl (some (iv 23)), (mkH B s l))) ∧ (x0 = 124 → Q (.inl (some (iv 23)), (mkH B s l))) ∧ (x0 = 126 → Q (.inl (some (iv 13)), (mkH B s l))) ∧ (x0 ≠ 33 ∧ x0 ≠ 40 ∧ x0 ≠ 41 ∧ x0 ≠ 42 ∧ x0 ≠ 43 ∧ x0 ≠ 44 ∧ x0 ≠ 46 ∧ x0 ≠ 58 ∧ x0 ≠ 59 ∧ x0 ≠ 60 ∧ x0 ≠ 61 ∧ x0 ≠ 63 ∧ x0 ≠ 64 ∧ x0 ≠ 91 ∧ x0 ≠ 92 ∧ x0 ≠ 93 ∧ x0 ≠ 124 ∧ x0 ≠ 126 → Q (.inl (some (iv (-1))), (mkH B s l)))))) : a_W d 45 0 [iv x0] [] (mkH B s l) Q := by
  refine w_iln (p := 1) (q45 0) rfl rfl ?_
  obtain ⟨h1, w⟩ := w
  by_cases c2 : x0 = 33
  · replace w := w.1 c2
    refine w_sw (p := 169) (q45 1) h1 (by intro g; rw [c2]; rfl) ?_
    refine w_bp (p := 171) (q45 169) rfl (by decide) ?_
    exact w_ret (q45 171) rfl w
  by_cases c3 : x0 = 40
  · replace w := w.2.1 c3
    refine w_sw (p := 156) (q45 1) h1 (by intro g; rw [c3]; rfl) ?_
    refine w_ic (p := 157) (q45 156) rfl ?_
    exact w_ret (q45 157) rfl w
  by_cases c4 : x0 = 41
  · replace w := w.2.2.1 c4
    refine w_sw (p := 158) (q45 1) h1 (by intro g; rw [c4]; rfl) ?_
    refine w_ic (p := 159) (q45 158) rfl ?_
    exact w_ret (q45 159) rfl w
  by_cases c5 : x0 = 42
  · replace w := w.2.2.2.1 c5
    refine w_sw (p := 190) (q45 1) h1 (by intro g; rw [c5]; rfl) ?_
    refine w_bp (p := 192) (q45 190) rfl (by decide) ?_
    exact w_ret (q45 192) rfl w
  by_cases c6 : x0 = 43
  · replace w := w.2.2.2.2.1 c6
    refine w_sw (p := 187) (q45 1) h1 (by intro g; rw [c6]; rfl) ?_
    refine w_bp (p := 189) (q45 187) rfl (by decide) ?_
    exact w_ret (q45 189) rfl w
  by_cases c7 : x0 = 44
  · replace w := w.2.2.2.2.2.1 c7
    refine w_sw (p := 193) (q45 1) h1 (by intro g; rw [c7]; rfl) ?_
    refine w_bp (p := 195) (q45 193) rfl (by decide) ?_
    exact w_ret (q45 195) rfl w
  by_cases c8 : x0 = 46
  · replace w := w.2.2.2.2.2.2.1 c8
    refine w_sw (p := 163) (q45 1) h1 (by intro g; rw [c8]; rfl) ?_
    refine w_bp (p := 165) (q45 163) rfl (by decide) ?_
    exact w_ret (q45 165) rfl w
  by_cases c9 : x0 = 58
  · replace w := w.2.2.2.2.2.2.2.1 c9
    refine w_sw (p := 160) (q45 1) h1 (by intro g; rw [c9]; rfl) ?_
    refine w_bp (p := 162) (q45 160) rfl (by decide) ?_
    exact w_ret (q45 162) rfl w
  by_cases c10 : x0 = 59
  · replace w := w.2.2.2.2.2.2.2.2.1 c10
    refine w_sw (p := 193) (q45 1) h1 (by intro g; rw [c10]; rfl) ?_
    refine w_bp (p := 195) (q45 193) rfl (by decide) ?_
    exact w_ret (q45 195) rfl w
  by_cases c11 : x0 = 60
  · replace w := w.2.2.2.2.2.2.2.2.2.1 c11
    refine w_sw (p := 184) (q45 1) h1 (by intro g; rw [c11]; rfl) ?_
    refine w_bp (p := 186) (q45 184) rfl (by decide) ?_
    exact w_ret (q45 186) rfl w
  by_cases c12 : x0 = 61
  · replace w := w.2.2.2.2.2.2.2.2.2.2.1 c12
    refine w_sw (p := 181) (q45 1) h1 (by intro g; rw [c12]; rfl) ?_
    refine w_bp (p := 183) (q45 181) rfl (by decide) ?_
    exact w_ret (q45 183) rfl w
  by_cases c13 : x0 = 63
  · replace w := w.2.2.2.2.2.2.2.2.2.2.2.1 c13
    refine w_sw (p := 172) (q45 1) h1 (by intro g; rw [c13]; rfl) ?_
    refine w_bp (p := 174) (q45 172) rfl (by decide) ?_
    exact w_ret (q45 174) rfl w
  by_cases c14 : x0 = 64
  · replace w := w.2.2.2.2.2.2.2.2.2.2.2.2.1 c14
    refine w_sw (p := 175) (q45 1) h1 (by intro g; rw [c14]; rfl) ?_
    refine w_bp (p := 177) (q45 175) rfl (by decide) ?_
    exact w_ret (q45 177) rfl w
  by_cases c15 : x0 = 91
  · replace w := w.2.2.2.2.2.2.2.2.2.2.2.2.2.1 c15
    refine w_sw (p := 193) (q45 1) h1 (by intro g; rw [c15]; rfl) ?_
    refine w_bp (p := 195) (q45 193) rfl (by decide) ?_
    exact w_ret (q45 195) rfl w
  by_cases c16 : x0 = 92
  · replace w := w.2.2.2.2.2.2.2.2.2.2.2.2.2.2.1 c16
    refine w_sw (p := 166) (q45 1) h1 (by intro g; rw [c16]; rfl) ?_
    refine w_bp (p := 168) (q45 166) rfl (by decide) ?_
    exact w_ret (q45 168) rfl w
  by_cases c17 : x0 = 93
  · replace w := w.2.2.2.2.2.2.2.2.2.2.2.2.2.2.2.1 c17
    refine w_sw (p := 193) (q45 1) h1 (by intro g; rw [c17]; rfl) ?_
    refine w_bp (p := 195) (q45 193) rfl (by decide) ?_
    exact w_ret (q45 195) rfl w
  by_cases c18 : x0 = 124
  · replace w := w.2.2.2.2.2.2.2.2.2.2.2.2.2.2.2.2.1 c18
    refine w_sw (p := 193) (q45 1) h1 (by intro g; rw [c18]; rfl) ?_
    refine w_bp (p := 195) (q45 193) rfl (by decide) ?_
    exact w_ret (q45 195) rfl w
  by_cases c19 : x0 = 126
  · replace w := w.2.2.2.2.2.2.2.2.2.2.2.2.2.2.2.2.2.1 c19
    refine w_sw (p := 178) (q45 1) h1 (by intro g; rw [c19]; rfl) ?_
    refine w_bp (p := 180) (q45 178) rfl (by decide) ?_
    exact w_ret (q45 180) rfl w
  replace w := w.2.2.2.2.2.2.2.2.2.2.2.2.2.2.2.2.2.2 ⟨c2, c3, c4, c5, c6, c7, c8, c9, c10, c11, c12, c13, c14, c15, c16, c17, c18, c19⟩
  refine w_sw (p := 196) (q45 1) h1 (sw_l h1 (sw_fm c2 (sw_fm c3 (sw_fm c4 (sw_fm c5 (sw_fm c6 (sw_fm c7 (sw_fm c8 (sw_fm c9 (sw_fm c10 (sw_fm c11 (sw_fm c12 (sw_fm c13 (sw_fm c14 (sw_fm c15 (sw_fm c16 (sw_fm c17 (sw_fm c18 (sw_fm c19 sw_f0)))))))))))))))))) rfl) ?_
  refine w_ic (p := 197) (q45 196) rfl ?_
  exact w_ret (q45 197) rfl w
def z45 (x0 : Int) : Int := if x0 = 40 then 4 else if x0 = 41 then 5 else if x0 = 58 then 6 else if x0 = 46 then 7 else if x0 = 92 then 9 else if x0 = 33 then 10 else if x0 = 63 then 11 else if x0 = 64 then 12 else if x0 = 126 then 13 else if x0 = 61 then 18 else if x0 = 60 then 19 else if x0 = 43 then 21 else if x0 = 42 then 22 else if x0 = 91 ∨ x0 = 93 ∨ x0 = 44 ∨ x0 = 59 ∨ x0 = 124 then 23 else (-1)
theorem p45 {d : Nat} {B : aH} (hB : a_Can B) (x0 : Int) (s : Nat → Nat → Int32) (l : Nat → Nat → Int64) (hx0 : inR x0) : a_W d 45 0 [iv x0] [] (mkH B s l) (fun r => r = (.inl (some (iv (z45 x0))), mkH B s l)) := by
  refine w45_0 hB x0 s l ?_
  have fin : ∀ v, v = z45 x0 → ((Sum.inl (some (iv v)), mkH B s l) : aR) = (.inl (some (iv (z45 x0))), mkH B s l) := fun v hv => by rw [hv]
  repeat' first | assumption | (refine And.intro ?_ ?_) | intro _ | exact hx0 | (refine fin _ ?_)
  all_goals (unfold z45; omega)
theorem inR_z45 (x0 : Int) : inR (z45 x0) := by constructor <;> (unfold z45; omega)
-- TypedTermReader.isBinder
theorem w59_0 {d : Nat} {B : aH} {Q : aR → Prop} (hB : a_Can B) (x0 : Int) (s : Nat → Nat → Int32) (l : Nat → Nat → Int64) (w : (inR x0 ∧ ((x0 = 9 → Q (.inl (some (iv 1)), (mkH B s l))) ∧ (x0 ≠ 9 → ((x0 = 10 → Q (.inl (some (iv 1)), (mkH B s l))) ∧ (x0 ≠ 10 → ((x0 = 11 → Q (.inl (some (iv 1)), (mkH B s l))) ∧ (x0 ≠ 11 → ((x0 ≠ 12 → Q (.inl (some (iv 0)), (mkH B s l))) ∧ (x0 = 12 → Q (.inl (some (iv 1)), (mkH B s l)))))))))))) : a_W d 59 0 [iv x0] [] (mkH B s l) Q := by
  refine w_iln (p := 1) (q59 0) rfl rfl ?_
  refine w_bp (p := 3) (q59 1) rfl (by decide) ?_
  obtain ⟨h1, w⟩ := w
  by_cases c2 : x0 = 9
  · replace w := w.1 c2
    refine w_i2t (q59 3) h1 (by decide) c2 ?_
    refine w_ic (p := 25) (q59 24) rfl ?_
    refine w_goto (q59 25) ?_
    exact w_ret (q59 29) rfl w
  · replace w := w.2 c2
    refine w_i2f (p := 6) (q59 3) rfl h1 (by decide) c2 ?_
    refine w_iln (p := 7) (q59 6) rfl rfl ?_
    refine w_bp (p := 9) (q59 7) rfl (by decide) ?_
    by_cases c3 : x0 = 10
    · replace w := w.1 c3
      refine w_i2t (q59 9) h1 (by decide) c3 ?_
      refine w_ic (p := 25) (q59 24) rfl ?_
      refine w_goto (q59 25) ?_
      exact w_ret (q59 29) rfl w
    · replace w := w.2 c3
      refine w_i2f (p := 12) (q59 9) rfl h1 (by decide) c3 ?_
      refine w_iln (p := 13) (q59 12) rfl rfl ?_
      refine w_bp (p := 15) (q59 13) rfl (by decide) ?_
      by_cases c4 : x0 = 11
      · replace w := w.1 c4
        refine w_i2t (q59 15) h1 (by decide) c4 ?_
        refine w_ic (p := 25) (q59 24) rfl ?_
        refine w_goto (q59 25) ?_
        exact w_ret (q59 29) rfl w
      · replace w := w.2 c4
        refine w_i2f (p := 18) (q59 15) rfl h1 (by decide) c4 ?_
        refine w_iln (p := 19) (q59 18) rfl rfl ?_
        refine w_bp (p := 21) (q59 19) rfl (by decide) ?_
        by_cases c5 : x0 ≠ 12
        · replace w := w.1 c5
          refine w_i2t (q59 21) h1 (by decide) c5 ?_
          refine w_ic (p := 29) (q59 28) rfl ?_
          exact w_ret (q59 29) rfl w
        · replace w := w.2 (Decidable.not_not.mp c5)
          refine w_i2f (p := 24) (q59 21) rfl h1 (by decide) c5 ?_
          refine w_ic (p := 25) (q59 24) rfl ?_
          refine w_goto (q59 25) ?_
          exact w_ret (q59 29) rfl w
def z59 (x0 : Int) : Int := if x0 = 9 ∨ x0 = 10 ∨ x0 = 11 ∨ x0 = 12 then 1 else 0
theorem p59 {d : Nat} {B : aH} (hB : a_Can B) (x0 : Int) (s : Nat → Nat → Int32) (l : Nat → Nat → Int64) (hx0 : inR x0) : a_W d 59 0 [iv x0] [] (mkH B s l) (fun r => r = (.inl (some (iv (z59 x0))), mkH B s l)) := by
  refine w59_0 hB x0 s l ?_
  have fin : ∀ v, v = z59 x0 → ((Sum.inl (some (iv v)), mkH B s l) : aR) = (.inl (some (iv (z59 x0))), mkH B s l) := fun v hv => by rw [hv]
  repeat' first | assumption | (refine And.intro ?_ ?_) | intro _ | exact hx0 | (refine fin _ ?_)
  all_goals (unfold z59; omega)
theorem inR_z59 (x0 : Int) : inR (z59 x0) := by constructor <;> (unfold z59; omega)
theorem b_z59 (x0 : Int) : z59 x0 = 0 ∨ z59 x0 = 1 := by unfold z59; split <;> simp
-- TypedTermReader$TypeReader.startsPart
theorem w68_0 {d : Nat} {B : aH} {Q : aR → Prop} (hB : a_Can B) (x0 : Int) (s : Nat → Nat → Int32) (l : Nat → Nat → Int64) (w : (inR x0 ∧ ((x0 = 1 → Q (.inl (some (iv 1)), (mkH B s l))) ∧ (x0 ≠ 1 → ((x0 = 2 → Q (.inl (some (iv 1)), (mkH B s l))) ∧ (x0 ≠ 2 → ((x0 ≠ 4 → Q (.inl (some (iv 0)), (mkH B s l))) ∧ (x0 = 4 → Q (.inl (some (iv 1)), (mkH B s l)))))))))) : a_W d 68 0 [iv x0] [] (mkH B s l) Q := by
  refine w_iln (p := 1) (q68 0) rfl rfl ?_
  refine w_ic (p := 2) (q68 1) rfl ?_
  obtain ⟨h1, w⟩ := w
  by_cases c2 : x0 = 1
  · replace w := w.1 c2
    refine w_i2t (q68 2) h1 (by decide) c2 ?_
    refine w_ic (p := 16) (q68 15) rfl ?_
    refine w_goto (q68 16) ?_
    exact w_ret (q68 20) rfl w
  · replace w := w.2 c2
    refine w_i2f (p := 5) (q68 2) rfl h1 (by decide) c2 ?_
    refine w_iln (p := 6) (q68 5) rfl rfl ?_
    refine w_ic (p := 7) (q68 6) rfl ?_
    by_cases c3 : x0 = 2
    · replace w := w.1 c3
      refine w_i2t (q68 7) h1 (by decide) c3 ?_
      refine w_ic (p := 16) (q68 15) rfl ?_
      refine w_goto (q68 16) ?_
      exact w_ret (q68 20) rfl w
    · replace w := w.2 c3
      refine w_i2f (p := 10) (q68 7) rfl h1 (by decide) c3 ?_
      refine w_iln (p := 11) (q68 10) rfl rfl ?_
      refine w_ic (p := 12) (q68 11) rfl ?_
      by_cases c4 : x0 ≠ 4
      · replace w := w.1 c4
        refine w_i2t (q68 12) h1 (by decide) c4 ?_
        refine w_ic (p := 20) (q68 19) rfl ?_
        exact w_ret (q68 20) rfl w
      · replace w := w.2 (Decidable.not_not.mp c4)
        refine w_i2f (p := 15) (q68 12) rfl h1 (by decide) c4 ?_
        refine w_ic (p := 16) (q68 15) rfl ?_
        refine w_goto (q68 16) ?_
        exact w_ret (q68 20) rfl w
def z68 (x0 : Int) : Int := if x0 = 1 ∨ x0 = 2 ∨ x0 = 4 then 1 else 0
theorem p68 {d : Nat} {B : aH} (hB : a_Can B) (x0 : Int) (s : Nat → Nat → Int32) (l : Nat → Nat → Int64) (hx0 : inR x0) : a_W d 68 0 [iv x0] [] (mkH B s l) (fun r => r = (.inl (some (iv (z68 x0))), mkH B s l)) := by
  refine w68_0 hB x0 s l ?_
  have fin : ∀ v, v = z68 x0 → ((Sum.inl (some (iv v)), mkH B s l) : aR) = (.inl (some (iv (z68 x0))), mkH B s l) := fun v hv => by rw [hv]
  repeat' first | assumption | (refine And.intro ?_ ?_) | intro _ | exact hx0 | (refine fin _ ?_)
  all_goals (unfold z68; omega)
theorem inR_z68 (x0 : Int) : inR (z68 x0) := by constructor <;> (unfold z68; omega)
theorem b_z68 (x0 : Int) : z68 x0 = 0 ∨ z68 x0 = 1 := by unfold z68; split <;> simp
-- TypedTermReader.strengthOf
theorem w96_0 {d : Nat} {B : aH} {Q : aR → Prop} (hB : a_Can B) (x0 : Int) (s : Nat → Nat → Int32) (l : Nat → Nat → Int64) (w : (inR x0 ∧ ((x0 = 14 → Q (.inl (some (iv 1)), (mkH B s l))) ∧ (x0 = 15 → Q (.inl (some (iv 2)), (mkH B s l))) ∧ (x0 = 16 → Q (.inl (some (iv 3)), (mkH B s l))) ∧ (x0 = 17 → Q (.inl (some (iv 4)), (mkH B s l))) ∧ (x0 = 18 → Q (.inl (some (iv 5)), (mkH B s l))) ∧ (x0 = 19 → Q (.inl (some (iv 5)), (mkH B s l))) ∧ (x0 = 20 → Q (.inl (some (iv 5)), (mkH B s l))) ∧ (x0 = 21 → Q (.inl (some (iv 6)), (mkH B s l))) ∧ (x0 = 22 → Q (.inl (some (iv 7)), (mkH B s l))) ∧ (x0 ≠ 14 ∧ x0 ≠ 15 ∧ x0 ≠ 16 ∧ x0 ≠ 17 ∧ x0 ≠ 18 ∧ x0 ≠ 19 ∧ x0 ≠ 20 ∧ x0 ≠ 21 ∧ x0 ≠ 22 → Q (.inl (some (iv 0)), (mkH B s l)))))) : a_W d 96 0 [iv x0] [] (mkH B s l) Q := by
  refine w_iln (p := 1) (q96 0) rfl rfl ?_
  obtain ⟨h1, w⟩ := w
  by_cases c2 : x0 = 14
  · replace w := w.1 c2
    refine w_sw (p := 52) (q96 1) h1 (by intro g; rw [c2]; rfl) ?_
    refine w_ic (p := 53) (q96 52) rfl ?_
    exact w_ret (q96 53) rfl w
  by_cases c3 : x0 = 15
  · replace w := w.2.1 c3
    refine w_sw (p := 54) (q96 1) h1 (by intro g; rw [c3]; rfl) ?_
    refine w_ic (p := 55) (q96 54) rfl ?_
    exact w_ret (q96 55) rfl w
  by_cases c4 : x0 = 16
  · replace w := w.2.2.1 c4
    refine w_sw (p := 56) (q96 1) h1 (by intro g; rw [c4]; rfl) ?_
    refine w_ic (p := 57) (q96 56) rfl ?_
    exact w_ret (q96 57) rfl w
  by_cases c5 : x0 = 17
  · replace w := w.2.2.2.1 c5
    refine w_sw (p := 58) (q96 1) h1 (by intro g; rw [c5]; rfl) ?_
    refine w_ic (p := 59) (q96 58) rfl ?_
    exact w_ret (q96 59) rfl w
  by_cases c6 : x0 = 18
  · replace w := w.2.2.2.2.1 c6
    refine w_sw (p := 60) (q96 1) h1 (by intro g; rw [c6]; rfl) ?_
    refine w_ic (p := 61) (q96 60) rfl ?_
    exact w_ret (q96 61) rfl w
  by_cases c7 : x0 = 19
  · replace w := w.2.2.2.2.2.1 c7
    refine w_sw (p := 60) (q96 1) h1 (by intro g; rw [c7]; rfl) ?_
    refine w_ic (p := 61) (q96 60) rfl ?_
    exact w_ret (q96 61) rfl w
  by_cases c8 : x0 = 20
  · replace w := w.2.2.2.2.2.2.1 c8
    refine w_sw (p := 60) (q96 1) h1 (by intro g; rw [c8]; rfl) ?_
    refine w_ic (p := 61) (q96 60) rfl ?_
    exact w_ret (q96 61) rfl w
  by_cases c9 : x0 = 21
  · replace w := w.2.2.2.2.2.2.2.1 c9
    refine w_sw (p := 62) (q96 1) h1 (by intro g; rw [c9]; rfl) ?_
    refine w_bp (p := 64) (q96 62) rfl (by decide) ?_
    exact w_ret (q96 64) rfl w
  by_cases c10 : x0 = 22
  · replace w := w.2.2.2.2.2.2.2.2.1 c10
    refine w_sw (p := 65) (q96 1) h1 (by intro g; rw [c10]; rfl) ?_
    refine w_bp (p := 67) (q96 65) rfl (by decide) ?_
    exact w_ret (q96 67) rfl w
  replace w := w.2.2.2.2.2.2.2.2.2 ⟨c2, c3, c4, c5, c6, c7, c8, c9, c10⟩
  refine w_sw (p := 68) (q96 1) h1 (sw_t h1 (by omega) rfl) ?_
  refine w_ic (p := 69) (q96 68) rfl ?_
  exact w_ret (q96 69) rfl w
def z96 (x0 : Int) : Int := if x0 = 14 then 1 else if x0 = 15 then 2 else if x0 = 16 then 3 else if x0 = 17 then 4 else if x0 = 18 ∨ x0 = 19 ∨ x0 = 20 then 5 else if x0 = 21 then 6 else if x0 = 22 then 7 else 0
theorem p96 {d : Nat} {B : aH} (hB : a_Can B) (x0 : Int) (s : Nat → Nat → Int32) (l : Nat → Nat → Int64) (hx0 : inR x0) : a_W d 96 0 [iv x0] [] (mkH B s l) (fun r => r = (.inl (some (iv (z96 x0))), mkH B s l)) := by
  refine w96_0 hB x0 s l ?_
  have fin : ∀ v, v = z96 x0 → ((Sum.inl (some (iv v)), mkH B s l) : aR) = (.inl (some (iv (z96 x0))), mkH B s l) := fun v hv => by rw [hv]
  repeat' first | assumption | (refine And.intro ?_ ?_) | intro _ | exact hx0 | (refine fin _ ?_)
  all_goals (unfold z96; omega)
theorem inR_z96 (x0 : Int) : inR (z96 x0) := by constructor <;> (unfold z96; omega)
-- TypedTermReader.startsAtom
theorem w102_0 {d : Nat} {B : aH} {Q : aR → Prop} (hB : a_Can B) (x0 : Int) (s : Nat → Nat → Int32) (l : Nat → Nat → Int64) (w : (inR x0 ∧ ((x0 = 1 → Q (.inl (some (iv 1)), (mkH B s l))) ∧ (x0 ≠ 1 → ((x0 = 3 → Q (.inl (some (iv 1)), (mkH B s l))) ∧ (x0 ≠ 3 → ((x0 ≠ 4 → Q (.inl (some (iv 0)), (mkH B s l))) ∧ (x0 = 4 → Q (.inl (some (iv 1)), (mkH B s l)))))))))) : a_W d 102 0 [iv x0] [] (mkH B s l) Q := by
  refine w_iln (p := 1) (q102 0) rfl rfl ?_
  refine w_ic (p := 2) (q102 1) rfl ?_
  obtain ⟨h1, w⟩ := w
  by_cases c2 : x0 = 1
  · replace w := w.1 c2
    refine w_i2t (q102 2) h1 (by decide) c2 ?_
    refine w_ic (p := 16) (q102 15) rfl ?_
    refine w_goto (q102 16) ?_
    exact w_ret (q102 20) rfl w
  · replace w := w.2 c2
    refine w_i2f (p := 5) (q102 2) rfl h1 (by decide) c2 ?_
    refine w_iln (p := 6) (q102 5) rfl rfl ?_
    refine w_ic (p := 7) (q102 6) rfl ?_
    by_cases c3 : x0 = 3
    · replace w := w.1 c3
      refine w_i2t (q102 7) h1 (by decide) c3 ?_
      refine w_ic (p := 16) (q102 15) rfl ?_
      refine w_goto (q102 16) ?_
      exact w_ret (q102 20) rfl w
    · replace w := w.2 c3
      refine w_i2f (p := 10) (q102 7) rfl h1 (by decide) c3 ?_
      refine w_iln (p := 11) (q102 10) rfl rfl ?_
      refine w_ic (p := 12) (q102 11) rfl ?_
      by_cases c4 : x0 ≠ 4
      · replace w := w.1 c4
        refine w_i2t (q102 12) h1 (by decide) c4 ?_
        refine w_ic (p := 20) (q102 19) rfl ?_
        exact w_ret (q102 20) rfl w
      · replace w := w.2 (Decidable.not_not.mp c4)
        refine w_i2f (p := 15) (q102 12) rfl h1 (by decide) c4 ?_
        refine w_ic (p := 16) (q102 15) rfl ?_
        refine w_goto (q102 16) ?_
        exact w_ret (q102 20) rfl w
def z102 (x0 : Int) : Int := if x0 = 1 ∨ x0 = 3 ∨ x0 = 4 then 1 else 0
theorem p102 {d : Nat} {B : aH} (hB : a_Can B) (x0 : Int) (s : Nat → Nat → Int32) (l : Nat → Nat → Int64) (hx0 : inR x0) : a_W d 102 0 [iv x0] [] (mkH B s l) (fun r => r = (.inl (some (iv (z102 x0))), mkH B s l)) := by
  refine w102_0 hB x0 s l ?_
  have fin : ∀ v, v = z102 x0 → ((Sum.inl (some (iv v)), mkH B s l) : aR) = (.inl (some (iv (z102 x0))), mkH B s l) := fun v hv => by rw [hv]
  repeat' first | assumption | (refine And.intro ?_ ?_) | intro _ | exact hx0 | (refine fin _ ?_)
  all_goals (unfold z102; omega)
theorem inR_z102 (x0 : Int) : inR (z102 x0) := by constructor <;> (unfold z102; omega)
theorem b_z102 (x0 : Int) : z102 x0 = 0 ∨ z102 x0 = 1 := by unfold z102; split <;> simp
-- TypedTermReader$TermReader.holdsBefore
theorem w104_0 {d : Nat} {B : aH} {Q : aR → Prop} (hB : a_Can B) (x0 x1 : Int) (s : Nat → Nat → Int32) (l : Nat → Nat → Int64) (w : (inR x0 ∧ inR x1 ∧ ((x1 < x0 → Q (.inl (some (iv 1)), (mkH B s l))) ∧ (x0 ≤ x1 → ((x0 ≠ x1 → Q (.inl (some (iv 0)), (mkH B s l))) ∧ (x0 = x1 → ((x0 ≤ 5 → Q (.inl (some (iv 0)), (mkH B s l))) ∧ (5 < x0 → Q (.inl (some (iv 1)), (mkH B s l)))))))))) : a_W d 104 0 [iv x0, iv x1] [] (mkH B s l) Q := by
  refine w_iln (p := 1) (q104 0) rfl rfl ?_
  refine w_iln (p := 2) (q104 1) rfl rfl ?_
  obtain ⟨h1, w⟩ := w
  obtain ⟨h2, w⟩ := w
  by_cases c3 : x1 < x0
  · replace w := w.1 c3
    refine w_i2t (q104 2) h1 h2 c3 ?_
    refine w_ic (p := 16) (q104 15) rfl ?_
    refine w_goto (q104 16) ?_
    exact w_ret (q104 20) rfl w
  · replace w := w.2 (Int.not_lt.mp c3)
    refine w_i2f (p := 5) (q104 2) rfl h1 h2 c3 ?_
    refine w_iln (p := 6) (q104 5) rfl rfl ?_
    refine w_iln (p := 7) (q104 6) rfl rfl ?_
    by_cases c4 : x0 ≠ x1
    · replace w := w.1 c4
      refine w_i2t (q104 7) h1 h2 c4 ?_
      refine w_ic (p := 20) (q104 19) rfl ?_
      exact w_ret (q104 20) rfl w
    · replace w := w.2 (Decidable.not_not.mp c4)
      refine w_i2f (p := 10) (q104 7) rfl h1 h2 c4 ?_
      refine w_iln (p := 11) (q104 10) rfl rfl ?_
      refine w_ic (p := 12) (q104 11) rfl ?_
      by_cases c5 : x0 ≤ 5
      · replace w := w.1 c5
        refine w_i2t (q104 12) h1 (by decide) c5 ?_
        refine w_ic (p := 20) (q104 19) rfl ?_
        exact w_ret (q104 20) rfl w
      · replace w := w.2 (Int.not_le.mp c5)
        refine w_i2f (p := 15) (q104 12) rfl h1 (by decide) c5 ?_
        refine w_ic (p := 16) (q104 15) rfl ?_
        refine w_goto (q104 16) ?_
        exact w_ret (q104 20) rfl w
def z104 (x0 x1 : Int) : Int := if x1 < x0 ∨ (x0 = x1 ∧ 5 < x0) then 1 else 0
theorem p104 {d : Nat} {B : aH} (hB : a_Can B) (x0 x1 : Int) (s : Nat → Nat → Int32) (l : Nat → Nat → Int64) (hx0 : inR x0) (hx1 : inR x1) : a_W d 104 0 [iv x0, iv x1] [] (mkH B s l) (fun r => r = (.inl (some (iv (z104 x0 x1))), mkH B s l)) := by
  refine w104_0 hB x0 x1 s l ?_
  have fin : ∀ v, v = z104 x0 x1 → ((Sum.inl (some (iv v)), mkH B s l) : aR) = (.inl (some (iv (z104 x0 x1))), mkH B s l) := fun v hv => by rw [hv]
  repeat' first | assumption | (refine And.intro ?_ ?_) | intro _ | exact hx0 | exact hx1 | (refine fin _ ?_)
  all_goals (unfold z104; omega)
theorem inR_z104 (x0 x1 : Int) : inR (z104 x0 x1) := by constructor <;> (unfold z104; omega)
theorem b_z104 (x0 x1 : Int) : z104 x0 x1 = 0 ∨ z104 x0 x1 = 1 := by unfold z104; split <;> simp
-- TypedTermReader.canBeDeclared
theorem w122_0 {d : Nat} {B : aH} {Q : aR → Prop} (hB : a_Can B) (x0 : Int) (s : Nat → Nat → Int32) (l : Nat → Nat → Int64) (w : (inR x0 ∧ ((x0 = 1 → Q (.inl (some (iv 1)), (mkH B s l))) ∧ (x0 ≠ 1 → ((x0 = 21 → Q (.inl (some (iv 1)), (mkH B s l))) ∧ (x0 ≠ 21 → ((x0 = 22 → Q (.inl (some (iv 1)), (mkH B s l))) ∧ (x0 ≠ 22 → ((x0 = 19 → Q (.inl (some (iv 1)), (mkH B s l))) ∧ (x0 ≠ 19 → ((x0 ≠ 20 → Q (.inl (some (iv 0)), (mkH B s l))) ∧ (x0 = 20 → Q (.inl (some (iv 1)), (mkH B s l)))))))))))))) : a_W d 122 0 [iv x0] [] (mkH B s l) Q := by
  refine w_iln (p := 1) (q122 0) rfl rfl ?_
  refine w_ic (p := 2) (q122 1) rfl ?_
  obtain ⟨h1, w⟩ := w
  by_cases c2 : x0 = 1
  · replace w := w.1 c2
    refine w_i2t (q122 2) h1 (by decide) c2 ?_
    refine w_ic (p := 30) (q122 29) rfl ?_
    refine w_goto (q122 30) ?_
    exact w_ret (q122 34) rfl w
  · replace w := w.2 c2
    refine w_i2f (p := 5) (q122 2) rfl h1 (by decide) c2 ?_
    refine w_iln (p := 6) (q122 5) rfl rfl ?_
    refine w_bp (p := 8) (q122 6) rfl (by decide) ?_
    by_cases c3 : x0 = 21
    · replace w := w.1 c3
      refine w_i2t (q122 8) h1 (by decide) c3 ?_
      refine w_ic (p := 30) (q122 29) rfl ?_
      refine w_goto (q122 30) ?_
      exact w_ret (q122 34) rfl w
    · replace w := w.2 c3
      refine w_i2f (p := 11) (q122 8) rfl h1 (by decide) c3 ?_
      refine w_iln (p := 12) (q122 11) rfl rfl ?_
      refine w_bp (p := 14) (q122 12) rfl (by decide) ?_
      by_cases c4 : x0 = 22
      · replace w := w.1 c4
        refine w_i2t (q122 14) h1 (by decide) c4 ?_
        refine w_ic (p := 30) (q122 29) rfl ?_
        refine w_goto (q122 30) ?_
        exact w_ret (q122 34) rfl w
      · replace w := w.2 c4
        refine w_i2f (p := 17) (q122 14) rfl h1 (by decide) c4 ?_
        refine w_iln (p := 18) (q122 17) rfl rfl ?_
        refine w_bp (p := 20) (q122 18) rfl (by decide) ?_
        by_cases c5 : x0 = 19
        · replace w := w.1 c5
          refine w_i2t (q122 20) h1 (by decide) c5 ?_
          refine w_ic (p := 30) (q122 29) rfl ?_
          refine w_goto (q122 30) ?_
          exact w_ret (q122 34) rfl w
        · replace w := w.2 c5
          refine w_i2f (p := 23) (q122 20) rfl h1 (by decide) c5 ?_
          refine w_iln (p := 24) (q122 23) rfl rfl ?_
          refine w_bp (p := 26) (q122 24) rfl (by decide) ?_
          by_cases c6 : x0 ≠ 20
          · replace w := w.1 c6
            refine w_i2t (q122 26) h1 (by decide) c6 ?_
            refine w_ic (p := 34) (q122 33) rfl ?_
            exact w_ret (q122 34) rfl w
          · replace w := w.2 (Decidable.not_not.mp c6)
            refine w_i2f (p := 29) (q122 26) rfl h1 (by decide) c6 ?_
            refine w_ic (p := 30) (q122 29) rfl ?_
            refine w_goto (q122 30) ?_
            exact w_ret (q122 34) rfl w
def z122 (x0 : Int) : Int := if x0 = 1 ∨ x0 = 21 ∨ x0 = 22 ∨ x0 = 19 ∨ x0 = 20 then 1 else 0
theorem p122 {d : Nat} {B : aH} (hB : a_Can B) (x0 : Int) (s : Nat → Nat → Int32) (l : Nat → Nat → Int64) (hx0 : inR x0) : a_W d 122 0 [iv x0] [] (mkH B s l) (fun r => r = (.inl (some (iv (z122 x0))), mkH B s l)) := by
  refine w122_0 hB x0 s l ?_
  have fin : ∀ v, v = z122 x0 → ((Sum.inl (some (iv v)), mkH B s l) : aR) = (.inl (some (iv (z122 x0))), mkH B s l) := fun v hv => by rw [hv]
  repeat' first | assumption | (refine And.intro ?_ ?_) | intro _ | exact hx0 | (refine fin _ ?_)
  all_goals (unfold z122; omega)
theorem inR_z122 (x0 : Int) : inR (z122 x0) := by constructor <;> (unfold z122; omega)
theorem b_z122 (x0 : Int) : z122 x0 = 0 ∨ z122 x0 = 1 := by unfold z122; split <;> simp
-- TypedTermReaderModel.isLetter
theorem w153_0 {d : Nat} {B : aH} {Q : aR → Prop} (hB : a_Can B) (x0 : Int) (s : Nat → Nat → Int32) (l : Nat → Nat → Int64) (w : (inR x0 ∧ ((x0 < 97 → ((x0 < 65 → Q (.inl (some (iv 0)), (mkH B s l))) ∧ (65 ≤ x0 → ((x0 ≤ 90 → Q (.inl (some (iv 1)), (mkH B s l))) ∧ (90 < x0 → ((x0 ≠ 95 → Q (.inl (some (iv 0)), (mkH B s l))) ∧ (x0 = 95 → Q (.inl (some (iv 1)), (mkH B s l))))))))) ∧ (97 ≤ x0 → ((x0 ≤ 122 → Q (.inl (some (iv 1)), (mkH B s l))) ∧ (122 < x0 → Q (.inl (some (iv 0)), (mkH B s l)))))))) : a_W d 153 0 [iv x0] [] (mkH B s l) Q := by
  refine w_iln (p := 1) (q153 0) rfl rfl ?_
  refine w_bp (p := 3) (q153 1) rfl (by decide) ?_
  obtain ⟨h1, w⟩ := w
  by_cases c2 : x0 < 97
  · replace w := w.1 c2
    refine w_i2t (q153 3) h1 (by decide) c2 ?_
    refine w_iln (p := 13) (q153 12) rfl rfl ?_
    refine w_bp (p := 15) (q153 13) rfl (by decide) ?_
    by_cases c3 : x0 < 65
    · replace w := w.1 c3
      refine w_i2t (q153 15) h1 (by decide) c3 ?_
      refine w_iln (p := 25) (q153 24) rfl rfl ?_
      refine w_bp (p := 27) (q153 25) rfl (by decide) ?_
      refine w_i2t (q153 27) h1 (by decide) (show zc _ _ _ by unfold zc; omega) ?_
      refine w_ic (p := 35) (q153 34) rfl ?_
      exact w_ret (q153 35) rfl w
    · replace w := w.2 (Int.not_lt.mp c3)
      refine w_i2f (p := 18) (q153 15) rfl h1 (by decide) c3 ?_
      refine w_iln (p := 19) (q153 18) rfl rfl ?_
      refine w_bp (p := 21) (q153 19) rfl (by decide) ?_
      by_cases c4 : x0 ≤ 90
      · replace w := w.1 c4
        refine w_i2t (q153 21) h1 (by decide) c4 ?_
        refine w_ic (p := 31) (q153 30) rfl ?_
        refine w_goto (q153 31) ?_
        exact w_ret (q153 35) rfl w
      · replace w := w.2 (Int.not_le.mp c4)
        refine w_i2f (p := 24) (q153 21) rfl h1 (by decide) c4 ?_
        refine w_iln (p := 25) (q153 24) rfl rfl ?_
        refine w_bp (p := 27) (q153 25) rfl (by decide) ?_
        by_cases c5 : x0 ≠ 95
        · replace w := w.1 c5
          refine w_i2t (q153 27) h1 (by decide) c5 ?_
          refine w_ic (p := 35) (q153 34) rfl ?_
          exact w_ret (q153 35) rfl w
        · replace w := w.2 (Decidable.not_not.mp c5)
          refine w_i2f (p := 30) (q153 27) rfl h1 (by decide) c5 ?_
          refine w_ic (p := 31) (q153 30) rfl ?_
          refine w_goto (q153 31) ?_
          exact w_ret (q153 35) rfl w
  · replace w := w.2 (Int.not_lt.mp c2)
    refine w_i2f (p := 6) (q153 3) rfl h1 (by decide) c2 ?_
    refine w_iln (p := 7) (q153 6) rfl rfl ?_
    refine w_bp (p := 9) (q153 7) rfl (by decide) ?_
    by_cases c6 : x0 ≤ 122
    · replace w := w.1 c6
      refine w_i2t (q153 9) h1 (by decide) c6 ?_
      refine w_ic (p := 31) (q153 30) rfl ?_
      refine w_goto (q153 31) ?_
      exact w_ret (q153 35) rfl w
    · replace w := w.2 (Int.not_le.mp c6)
      refine w_i2f (p := 12) (q153 9) rfl h1 (by decide) c6 ?_
      refine w_iln (p := 13) (q153 12) rfl rfl ?_
      refine w_bp (p := 15) (q153 13) rfl (by decide) ?_
      refine w_i2f (p := 18) (q153 15) rfl h1 (by decide) (show ¬ zc _ _ _ by unfold zc; omega) ?_
      refine w_iln (p := 19) (q153 18) rfl rfl ?_
      refine w_bp (p := 21) (q153 19) rfl (by decide) ?_
      refine w_i2f (p := 24) (q153 21) rfl h1 (by decide) (show ¬ zc _ _ _ by unfold zc; omega) ?_
      refine w_iln (p := 25) (q153 24) rfl rfl ?_
      refine w_bp (p := 27) (q153 25) rfl (by decide) ?_
      refine w_i2t (q153 27) h1 (by decide) (show zc _ _ _ by unfold zc; omega) ?_
      refine w_ic (p := 35) (q153 34) rfl ?_
      exact w_ret (q153 35) rfl w
def z153 (x0 : Int) : Int := if (97 ≤ x0 ∧ x0 ≤ 122) ∨ (65 ≤ x0 ∧ x0 ≤ 90) ∨ x0 = 95 then 1 else 0
theorem p153 {d : Nat} {B : aH} (hB : a_Can B) (x0 : Int) (s : Nat → Nat → Int32) (l : Nat → Nat → Int64) (hx0 : inR x0) : a_W d 153 0 [iv x0] [] (mkH B s l) (fun r => r = (.inl (some (iv (z153 x0))), mkH B s l)) := by
  refine w153_0 hB x0 s l ?_
  have fin : ∀ v, v = z153 x0 → ((Sum.inl (some (iv v)), mkH B s l) : aR) = (.inl (some (iv (z153 x0))), mkH B s l) := fun v hv => by rw [hv]
  repeat' first | assumption | (refine And.intro ?_ ?_) | intro _ | exact hx0 | (refine fin _ ?_)
  all_goals (unfold z153; omega)
theorem inR_z153 (x0 : Int) : inR (z153 x0) := by constructor <;> (unfold z153; omega)
theorem b_z153 (x0 : Int) : z153 x0 = 0 ∨ z153 x0 = 1 := by unfold z153; split <;> simp
-- TypedTermReaderModel.isDigit
theorem w155_0 {d : Nat} {B : aH} {Q : aR → Prop} (hB : a_Can B) (x0 : Int) (s : Nat → Nat → Int32) (l : Nat → Nat → Int64) (w : (inR x0 ∧ ((x0 < 48 → Q (.inl (some (iv 0)), (mkH B s l))) ∧ (48 ≤ x0 → ((57 < x0 → Q (.inl (some (iv 0)), (mkH B s l))) ∧ (x0 ≤ 57 → Q (.inl (some (iv 1)), (mkH B s l)))))))) : a_W d 155 0 [iv x0] [] (mkH B s l) Q := by
  refine w_iln (p := 1) (q155 0) rfl rfl ?_
  refine w_bp (p := 3) (q155 1) rfl (by decide) ?_
  obtain ⟨h1, w⟩ := w
  by_cases c2 : x0 < 48
  · replace w := w.1 c2
    refine w_i2t (q155 3) h1 (by decide) c2 ?_
    refine w_ic (p := 17) (q155 16) rfl ?_
    exact w_ret (q155 17) rfl w
  · replace w := w.2 (Int.not_lt.mp c2)
    refine w_i2f (p := 6) (q155 3) rfl h1 (by decide) c2 ?_
    refine w_iln (p := 7) (q155 6) rfl rfl ?_
    refine w_bp (p := 9) (q155 7) rfl (by decide) ?_
    by_cases c3 : 57 < x0
    · replace w := w.1 c3
      refine w_i2t (q155 9) h1 (by decide) c3 ?_
      refine w_ic (p := 17) (q155 16) rfl ?_
      exact w_ret (q155 17) rfl w
    · replace w := w.2 (Int.not_lt.mp c3)
      refine w_i2f (p := 12) (q155 9) rfl h1 (by decide) c3 ?_
      refine w_ic (p := 13) (q155 12) rfl ?_
      refine w_goto (q155 13) ?_
      exact w_ret (q155 17) rfl w
def z155 (x0 : Int) : Int := if 48 ≤ x0 ∧ x0 ≤ 57 then 1 else 0
theorem p155 {d : Nat} {B : aH} (hB : a_Can B) (x0 : Int) (s : Nat → Nat → Int32) (l : Nat → Nat → Int64) (hx0 : inR x0) : a_W d 155 0 [iv x0] [] (mkH B s l) (fun r => r = (.inl (some (iv (z155 x0))), mkH B s l)) := by
  refine w155_0 hB x0 s l ?_
  have fin : ∀ v, v = z155 x0 → ((Sum.inl (some (iv v)), mkH B s l) : aR) = (.inl (some (iv (z155 x0))), mkH B s l) := fun v hv => by rw [hv]
  repeat' first | assumption | (refine And.intro ?_ ?_) | intro _ | exact hx0 | (refine fin _ ?_)
  all_goals (unfold z155; omega)
theorem inR_z155 (x0 : Int) : inR (z155 x0) := by constructor <;> (unfold z155; omega)
theorem b_z155 (x0 : Int) : z155 x0 = 0 ∨ z155 x0 = 1 := by unfold z155; split <;> simp
-- TypedTermReaderModel.most
theorem w175_0 {d : Nat} {B : aH} {Q : aR → Prop} (hB : a_Can B) (x0 x1 : Int) (s : Nat → Nat → Int32) (l : Nat → Nat → Int64) (w : (inR x0 ∧ inR x1 ∧ ((x0 ≤ x1 → Q (.inl (some (iv x1)), (mkH B s l))) ∧ (x1 < x0 → Q (.inl (some (iv x0)), (mkH B s l)))))) : a_W d 175 0 [iv x0, iv x1] [] (mkH B s l) Q := by
  refine w_iln (p := 1) (q175 0) rfl rfl ?_
  refine w_iln (p := 2) (q175 1) rfl rfl ?_
  obtain ⟨h1, w⟩ := w
  obtain ⟨h2, w⟩ := w
  by_cases c3 : x0 ≤ x1
  · replace w := w.1 c3
    refine w_i2t (q175 2) h1 h2 c3 ?_
    refine w_iln (p := 10) (q175 9) rfl rfl ?_
    exact w_ret (q175 10) rfl w
  · replace w := w.2 (Int.not_le.mp c3)
    refine w_i2f (p := 5) (q175 2) rfl h1 h2 c3 ?_
    refine w_iln (p := 6) (q175 5) rfl rfl ?_
    refine w_goto (q175 6) ?_
    exact w_ret (q175 10) rfl w
def z175 (x0 x1 : Int) : Int := if x1 < x0 then x0 else x1
theorem p175 {d : Nat} {B : aH} (hB : a_Can B) (x0 x1 : Int) (s : Nat → Nat → Int32) (l : Nat → Nat → Int64) (hx0 : inR x0) (hx1 : inR x1) : a_W d 175 0 [iv x0, iv x1] [] (mkH B s l) (fun r => r = (.inl (some (iv (z175 x0 x1))), mkH B s l)) := by
  refine w175_0 hB x0 x1 s l ?_
  have fin : ∀ v, v = z175 x0 x1 → ((Sum.inl (some (iv v)), mkH B s l) : aR) = (.inl (some (iv (z175 x0 x1))), mkH B s l) := fun v hv => by rw [hv]
  repeat' first | assumption | (refine And.intro ?_ ?_) | intro _ | exact hx0 | exact hx1 | (refine fin _ ?_)
  all_goals (unfold z175; omega)
-- TypedTermReaderModel.isAtom
theorem w178_0 {d : Nat} {B : aH} {Q : aR → Prop} (hB : a_Can B) (x0 : Int) (s : Nat → Nat → Int32) (l : Nat → Nat → Int64) (w : (inR x0 ∧ ((x0 = 1 → Q (.inl (some (iv 1)), (mkH B s l))) ∧ (x0 ≠ 1 → ((x0 = 3 → Q (.inl (some (iv 1)), (mkH B s l))) ∧ (x0 ≠ 3 → ((x0 ≠ 4 → Q (.inl (some (iv 0)), (mkH B s l))) ∧ (x0 = 4 → Q (.inl (some (iv 1)), (mkH B s l)))))))))) : a_W d 178 0 [iv x0] [] (mkH B s l) Q := by
  refine w_iln (p := 1) (q178 0) rfl rfl ?_
  refine w_ic (p := 2) (q178 1) rfl ?_
  obtain ⟨h1, w⟩ := w
  by_cases c2 : x0 = 1
  · replace w := w.1 c2
    refine w_i2t (q178 2) h1 (by decide) c2 ?_
    refine w_ic (p := 16) (q178 15) rfl ?_
    refine w_goto (q178 16) ?_
    exact w_ret (q178 20) rfl w
  · replace w := w.2 c2
    refine w_i2f (p := 5) (q178 2) rfl h1 (by decide) c2 ?_
    refine w_iln (p := 6) (q178 5) rfl rfl ?_
    refine w_ic (p := 7) (q178 6) rfl ?_
    by_cases c3 : x0 = 3
    · replace w := w.1 c3
      refine w_i2t (q178 7) h1 (by decide) c3 ?_
      refine w_ic (p := 16) (q178 15) rfl ?_
      refine w_goto (q178 16) ?_
      exact w_ret (q178 20) rfl w
    · replace w := w.2 c3
      refine w_i2f (p := 10) (q178 7) rfl h1 (by decide) c3 ?_
      refine w_iln (p := 11) (q178 10) rfl rfl ?_
      refine w_ic (p := 12) (q178 11) rfl ?_
      by_cases c4 : x0 ≠ 4
      · replace w := w.1 c4
        refine w_i2t (q178 12) h1 (by decide) c4 ?_
        refine w_ic (p := 20) (q178 19) rfl ?_
        exact w_ret (q178 20) rfl w
      · replace w := w.2 (Decidable.not_not.mp c4)
        refine w_i2f (p := 15) (q178 12) rfl h1 (by decide) c4 ?_
        refine w_ic (p := 16) (q178 15) rfl ?_
        refine w_goto (q178 16) ?_
        exact w_ret (q178 20) rfl w
def z178 (x0 : Int) : Int := if x0 = 1 ∨ x0 = 3 ∨ x0 = 4 then 1 else 0
theorem p178 {d : Nat} {B : aH} (hB : a_Can B) (x0 : Int) (s : Nat → Nat → Int32) (l : Nat → Nat → Int64) (hx0 : inR x0) : a_W d 178 0 [iv x0] [] (mkH B s l) (fun r => r = (.inl (some (iv (z178 x0))), mkH B s l)) := by
  refine w178_0 hB x0 s l ?_
  have fin : ∀ v, v = z178 x0 → ((Sum.inl (some (iv v)), mkH B s l) : aR) = (.inl (some (iv (z178 x0))), mkH B s l) := fun v hv => by rw [hv]
  repeat' first | assumption | (refine And.intro ?_ ?_) | intro _ | exact hx0 | (refine fin _ ?_)
  all_goals (unfold z178; omega)
theorem inR_z178 (x0 : Int) : inR (z178 x0) := by constructor <;> (unfold z178; omega)
theorem b_z178 (x0 : Int) : z178 x0 = 0 ∨ z178 x0 = 1 := by unfold z178; split <;> simp
-- TypedTermReaderModel.isOperator
theorem w180_0 {d : Nat} {B : aH} {Q : aR → Prop} (hB : a_Can B) (x0 : Int) (s : Nat → Nat → Int32) (l : Nat → Nat → Int64) (w : (inR x0 ∧ ((x0 < 20 → Q (.inl (some (iv 0)), (mkH B s l))) ∧ (20 ≤ x0 → Q (.inl (some (iv 1)), (mkH B s l)))))) : a_W d 180 0 [iv x0] [] (mkH B s l) Q := by
  refine w_iln (p := 1) (q180 0) rfl rfl ?_
  refine w_bp (p := 3) (q180 1) rfl (by decide) ?_
  obtain ⟨h1, w⟩ := w
  by_cases c2 : x0 < 20
  · replace w := w.1 c2
    refine w_i2t (q180 3) h1 (by decide) c2 ?_
    refine w_ic (p := 11) (q180 10) rfl ?_
    exact w_ret (q180 11) rfl w
  · replace w := w.2 (Int.not_lt.mp c2)
    refine w_i2f (p := 6) (q180 3) rfl h1 (by decide) c2 ?_
    refine w_ic (p := 7) (q180 6) rfl ?_
    refine w_goto (q180 7) ?_
    exact w_ret (q180 11) rfl w
def z180 (x0 : Int) : Int := if 20 ≤ x0 then 1 else 0
theorem p180 {d : Nat} {B : aH} (hB : a_Can B) (x0 : Int) (s : Nat → Nat → Int32) (l : Nat → Nat → Int64) (hx0 : inR x0) : a_W d 180 0 [iv x0] [] (mkH B s l) (fun r => r = (.inl (some (iv (z180 x0))), mkH B s l)) := by
  refine w180_0 hB x0 s l ?_
  have fin : ∀ v, v = z180 x0 → ((Sum.inl (some (iv v)), mkH B s l) : aR) = (.inl (some (iv (z180 x0))), mkH B s l) := fun v hv => by rw [hv]
  repeat' first | assumption | (refine And.intro ?_ ?_) | intro _ | exact hx0 | (refine fin _ ?_)
  all_goals (unfold z180; omega)
theorem inR_z180 (x0 : Int) : inR (z180 x0) := by constructor <;> (unfold z180; omega)
theorem b_z180 (x0 : Int) : z180 x0 = 0 ∨ z180 x0 = 1 := by unfold z180; split <;> simp
-- TypedTermReaderModel.strength
theorem w182_0 {d : Nat} {B : aH} {Q : aR → Prop} (hB : a_Can B) (x0 : Int) (s : Nat → Nat → Int32) (l : Nat → Nat → Int64) (w : (inR x0 ∧ ((24 ≤ x0 → ((27 ≤ x0 → Q (.inl (some (iv x0)), (mkH B s l))) ∧ (x0 < 27 → Q (.inl (some (iv 24)), (mkH B s l))))) ∧ (x0 < 24 → Q (.inl (some (iv x0)), (mkH B s l)))))) : a_W d 182 0 [iv x0] [] (mkH B s l) Q := by
  refine w_iln (p := 1) (q182 0) rfl rfl ?_
  refine w_bp (p := 3) (q182 1) rfl (by decide) ?_
  obtain ⟨h1, w⟩ := w
  by_cases c2 : 24 ≤ x0
  · replace w := w.1 c2
    refine w_i2t (q182 3) h1 (by decide) c2 ?_
    refine w_iln (p := 11) (q182 10) rfl rfl ?_
    refine w_bp (p := 13) (q182 11) rfl (by decide) ?_
    by_cases c3 : 27 ≤ x0
    · replace w := w.1 c3
      refine w_i2t (q182 13) h1 (by decide) c3 ?_
      refine w_iln (p := 22) (q182 21) rfl rfl ?_
      exact w_ret (q182 22) rfl w
    · replace w := w.2 (Int.not_le.mp c3)
      refine w_i2f (p := 16) (q182 13) rfl h1 (by decide) c3 ?_
      refine w_bp (p := 18) (q182 16) rfl (by decide) ?_
      refine w_goto (q182 18) ?_
      exact w_ret (q182 22) rfl w
  · replace w := w.2 (Int.not_le.mp c2)
    refine w_i2f (p := 6) (q182 3) rfl h1 (by decide) c2 ?_
    refine w_iln (p := 7) (q182 6) rfl rfl ?_
    refine w_goto (q182 7) ?_
    exact w_ret (q182 22) rfl w
def z182 (x0 : Int) : Int := if x0 < 24 then x0 else if x0 < 27 then 24 else x0
theorem p182 {d : Nat} {B : aH} (hB : a_Can B) (x0 : Int) (s : Nat → Nat → Int32) (l : Nat → Nat → Int64) (hx0 : inR x0) : a_W d 182 0 [iv x0] [] (mkH B s l) (fun r => r = (.inl (some (iv (z182 x0))), mkH B s l)) := by
  refine w182_0 hB x0 s l ?_
  have fin : ∀ v, v = z182 x0 → ((Sum.inl (some (iv v)), mkH B s l) : aR) = (.inl (some (iv (z182 x0))), mkH B s l) := fun v hv => by rw [hv]
  repeat' first | assumption | (refine And.intro ?_ ?_) | intro _ | exact hx0 | (refine fin _ ?_)
  all_goals (unfold z182; omega)
